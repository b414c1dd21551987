def f_X10_step (x0 : Int32) (x1 : Int32) (x2 : Int32) (M : g_M) : Option (Int32) :=
  some ((x0 ||| (x1 <<< (3 &&& 31))) ||| (x2 <<< (10 &&& 31)))
set_option maxRecDepth 100000 in
theorem m_X10_step {l : Launch} {Y : g_Y} {x0 : Int32} {x1 : Int32} {x2 : Int32} {M : g_M} {p : Int32} (h : f_X10_step x0 x1 x2 M = some p) : g_R l Y (0) yX10_step cX10_step 3 (some .int) [.int x0, .int x1, .int x2] M (some (.int p)) M := by
  unfold f_X10_step at h
  refine g_R_of kP_X10 rfl (Nat.le_of_ble_eq_true rfl) (fun X C E => ?_)
  show g_G 3 X Y 0 [(0, .int x0), (1, .int x1), (2, .int x2)] [] M
  refine g_iload_n C 0 dX10_step_0 (q := 1) rfl rfl rfl ?_
  refine g_iload_n C 1 dX10_step_1 (q := 2) rfl rfl rfl ?_
  refine g_iconst C (v := 3) dX10_step_2 (q := 3) rfl (by decide) ?_
  refine g_ishl C dX10_step_3 (q := 4) rfl ?_
  refine g_ior C dX10_step_4 (q := 5) rfl ?_
  refine g_iload_n C 2 dX10_step_5 (q := 6) rfl rfl rfl ?_
  refine g_bipush C (v := 10) dX10_step_6 (q := 8) rfl (by decide) ?_
  refine g_ishl C dX10_step_8 (q := 9) rfl ?_
  refine g_ior C dX10_step_9 (q := 10) rfl ?_
  obtain rfl := Option.some.inj h
  exact g_iret C E dX10_step_10
def F_X4_keysOfLocks_4 (M : g_M) (k27 : Int32 → Option (Int32)) (k : Int32 → Int32 → Option (Int32)) (x1 : Int32) (x2 : Int32) : Option (Int32) :=
  (if (M.1 24 0) ≤ x2 then (k27 x1) else ((g_ld M 27 40 x2).bind fun v1 => k (x1 ||| v1) (x2 + 1)))
set_option maxRecDepth 100000 in
theorem t_X4_keysOfLocks_4 {l : Launch} {X : g_X} {Y : g_Y} {p : Int32} {M : g_M} {k27 : Int32 → Option (Int32)} (C : g_C l (g_rm (0)) RX4 cX4_keysOfLocks 3 X Y) (E : g_E (some .int) X Y (some (.int p)) M) (hk27 : ∀ (x1 : Int32), k27 x1 = some p → g_G 3 X Y 27 [(1, .int x1)] [] M) (n : Nat) : ∀ (x1 : Int32) (x2 : Int32), g_lq2 (F_X4_keysOfLocks_4 M k27) n x1 x2 = some p → g_G 3 X Y 4 [(0, g_r Y 24), (1, .int x1), (2, .int x2)] [] M := by
  induction n with
  | zero => intro x1 x2 h; exact (g_nn h).elim
  | succ n ih =>
    intro x1 x2 h
    have h : F_X4_keysOfLocks_4 M k27 (g_lq2 (F_X4_keysOfLocks_4 M k27) n) x1 x2 = some p := h
    generalize g_lq2 (F_X4_keysOfLocks_4 M k27) n = k at h ih
    unfold F_X4_keysOfLocks_4 at h
    refine g_iload_n C 2 dX4_keysOfLocks_4 (q := 5) rfl rfl rfl ?_
    refine g_aload_n C 0 dX4_keysOfLocks_5 (q := 6) rfl rfl rfl ?_
    refine g_get C (k := 24) (i := 0) (by decide) (gc_24 Y _ _) rfl kU_X4 (by decide) kF_X4_33 rfl dX4_keysOfLocks_6 (q := 9) rfl ?_
    have hif := g_if h
    clear h
    refine g_icmp_ge C dX4_keysOfLocks_9 (q := 12) (tgt := 27) rfl (by decide) (fun c => ?_) (fun c => ?_)
    · have h := hif.1 c
      clear hif
      refine g_sub [1] (lv' := [(1, .int x1)]) rfl ?_
      exact hk27 x1 h
    · have h := hif.2 c
      clear hif
      refine g_iload_n C 1 dX4_keysOfLocks_12 (q := 13) rfl rfl rfl ?_
      refine g_aload_n C 0 dX4_keysOfLocks_13 (q := 14) rfl rfl rfl ?_
      refine g_get C (k := 24) (i := 4) (by decide) (gc_24 Y _ _) rfl kU_X4 (by decide) kF_X4_18 rfl dX4_keysOfLocks_14 (q := 17) rfl ?_
      refine g_iload_n C 2 dX4_keysOfLocks_17 (q := 18) rfl rfl rfl ?_
      obtain ⟨v1, hv1, h⟩ := g_bind h
      refine g_iald C (k := 27) (n := 40) (by decide) (gc_27 Y _ _) hv1 dX4_keysOfLocks_18 (q := 19) rfl ?_
      refine g_ior C dX4_keysOfLocks_19 (q := 20) rfl ?_
      refine g_istore_n C dX4_keysOfLocks_20 (q := 21) rfl rfl (by decide) (lv' := [(1, .int (x1 ||| v1)), (0, g_r Y 24), (2, .int x2)]) rfl ?_
      refine g_iinc C (k := 2) (v := x2 + 1) dX4_keysOfLocks_21 (q := 24) rfl rfl rfl (by decide) (lv' := [(2, .int (x2 + 1)), (1, .int (x1 ||| v1)), (0, g_r Y 24)]) rfl ?_
      refine g_goto C dX4_keysOfLocks_24 (tgt := 4) (by decide) ?_
      refine g_sub [2, 1, 0] (lv' := [(0, g_r Y 24), (1, .int (x1 ||| v1)), (2, .int (x2 + 1))]) rfl ?_
      exact ih (x1 ||| v1) (x2 + 1) h
def f_X4_keysOfLocks (M : g_M) : Option (Int32) :=
  g_lq2 (F_X4_keysOfLocks_4 M (fun (x1 : Int32) => some x1)) 20000000 0 0
set_option maxRecDepth 100000 in
theorem m_X4_keysOfLocks {l : Launch} {Y : g_Y} {M : g_M} {p : Int32} (h : f_X4_keysOfLocks M = some p) : g_R l Y (0) yX4_keysOfLocks cX4_keysOfLocks 3 (some .int) [g_r Y 24] M (some (.int p)) M := by
  unfold f_X4_keysOfLocks at h
  refine g_R_of kP_X4 rfl (Nat.le_of_ble_eq_true rfl) (fun X C E => ?_)
  show g_G 3 X Y 0 [(0, g_r Y 24)] [] M
  refine g_iconst C (v := 0) dX4_keysOfLocks_0 (q := 1) rfl (by decide) ?_
  refine g_istore_n C dX4_keysOfLocks_1 (q := 2) rfl rfl (by decide) (lv' := [(1, .int 0), (0, g_r Y 24)]) rfl ?_
  refine g_iconst C (v := 0) dX4_keysOfLocks_2 (q := 3) rfl (by decide) ?_
  refine g_istore_n C dX4_keysOfLocks_3 (q := 4) rfl rfl (by decide) (lv' := [(2, .int 0), (1, .int 0), (0, g_r Y 24)]) rfl ?_
  refine g_sub [2, 1, 0] (lv' := [(0, g_r Y 24), (1, .int 0), (2, .int 0)]) rfl ?_
  refine t_X4_keysOfLocks_4 C E ?_ 20000000 0 0 h
  · intro x1 h
    try dsimp only at h
    refine g_iload_n C 0 dX4_keysOfLocks_27 (q := 28) rfl rfl rfl ?_
    obtain rfl := Option.some.inj h
    exact g_iret C E dX4_keysOfLocks_28
def f_X4_opensWith (x1 : Int32) (x2 : Int32) (x3 : Int64) (M : g_M) : Option (Int32) :=
  (g_ld M 28 40 x1).bind fun v1 => (some ((x3 >>> (Int32.toInt64 v1 &&& 63)) &&& 1)).bind fun y2 => (g_ld M 29 40 x1).bind fun v3 => (some ((x3 >>> (Int32.toInt64 v3 &&& 63)) &&& 1)).bind fun y4 => (g_ld M 25 40 x1).bind fun v5 => (if v5 = 2 then ((if (lg_cmp (y2 ||| y4) 0) = 0 then (some 0) else (some 1))) else (if v5 = 3 then ((if (lg_cmp (y2 &&& y4) 0) = 0 then (some 0) else (some 1))) else (if v5 = 4 then ((if (lg_cmp y2 0) = 0 then (some 0) else (some 1))) else (g_ld M 27 40 x1).bind fun v6 => (if (x2 &&& v6) = 0 then (some 0) else (some 1)))))
set_option maxRecDepth 100000 in
theorem m_X4_opensWith {l : Launch} {Y : g_Y} {x1 : Int32} {x2 : Int32} {x3 : Int64} {M : g_M} {p : Int32} (h : f_X4_opensWith x1 x2 x3 M = some p) : g_R l Y (0) yX4_opensWith cX4_opensWith 9 (some .boolean) [g_r Y 24, .int x1, .int x2, .long x3] M (some (.int p)) M := by
  unfold f_X4_opensWith at h
  refine g_R_of kP_X4 rfl (Nat.le_of_ble_eq_true rfl) (fun X C E => ?_)
  show g_G 9 X Y 0 [(0, g_r Y 24), (1, .int x1), (2, .int x2), (3, .long x3)] [] M
  refine g_lload_n C 3 dX4_opensWith_0 (q := 1) rfl rfl rfl ?_
  refine g_aload_n C 0 dX4_opensWith_1 (q := 2) rfl rfl rfl ?_
  refine g_get C (k := 24) (i := 5) (by decide) (gc_24 Y _ _) rfl kU_X4 (by decide) kF_X4_21 rfl dX4_opensWith_2 (q := 5) rfl ?_
  refine g_iload_n C 1 dX4_opensWith_5 (q := 6) rfl rfl rfl ?_
  obtain ⟨v1, hv1, h⟩ := g_bind h
  refine g_iald C (k := 28) (n := 40) (by decide) (gc_28 Y _ _) hv1 dX4_opensWith_6 (q := 7) rfl ?_
  refine g_lshr C dX4_opensWith_7 (q := 8) rfl ?_
  refine g_lconst C (v := 1) dX4_opensWith_8 (q := 9) rfl (by decide) ?_
  refine g_land C dX4_opensWith_9 (q := 10) rfl ?_
  obtain ⟨y2, hy2, h⟩ := g_bind h
  refine g_topl hy2 ?_
  refine g_lstore C dX4_opensWith_10 (q := 12) rfl (by decide) (lv' := [(5, .long y2), (0, g_r Y 24), (1, .int x1), (2, .int x2), (3, .long x3)]) rfl ?_
  refine g_lload_n C 4 dX4_opensWith_12 (q := 13) rfl rfl rfl ?_
  refine g_aload_n C 1 dX4_opensWith_13 (q := 14) rfl rfl rfl ?_
  refine g_get C (k := 24) (i := 6) (by decide) (gc_24 Y _ _) rfl kU_X4 (by decide) kF_X4_24 rfl dX4_opensWith_14 (q := 17) rfl ?_
  refine g_iload_n C 2 dX4_opensWith_17 (q := 18) rfl rfl rfl ?_
  obtain ⟨v3, hv3, h⟩ := g_bind h
  refine g_iald C (k := 29) (n := 40) (by decide) (gc_29 Y _ _) hv3 dX4_opensWith_18 (q := 19) rfl ?_
  refine g_lshr C dX4_opensWith_19 (q := 20) rfl ?_
  refine g_lconst C (v := 1) dX4_opensWith_20 (q := 21) rfl (by decide) ?_
  refine g_land C dX4_opensWith_21 (q := 22) rfl ?_
  obtain ⟨y4, hy4, h⟩ := g_bind h
  refine g_topl hy4 ?_
  refine g_lstore C dX4_opensWith_22 (q := 24) rfl (by decide) (lv' := [(7, .long y4), (5, .long y2), (0, g_r Y 24), (1, .int x1), (2, .int x2), (3, .long x3)]) rfl ?_
  refine g_aload_n C 2 dX4_opensWith_24 (q := 25) rfl rfl rfl ?_
  refine g_get C (k := 24) (i := 2) (by decide) (gc_24 Y _ _) rfl kU_X4 (by decide) kF_X4_9 rfl dX4_opensWith_25 (q := 28) rfl ?_
  refine g_iload_n C 3 dX4_opensWith_28 (q := 29) rfl rfl rfl ?_
  obtain ⟨v5, hv5, h⟩ := g_bind h
  refine g_iald C (k := 25) (n := 40) (by decide) (gc_25 Y _ _) hv5 dX4_opensWith_29 (q := 30) rfl ?_
  by_cases e : v5 = 2
  · rw [if_pos e] at h
    refine g_tabI C (off := 26) (tgt := 56) dX4_opensWith_30 (by rw [e]; decide) (by rw [e]; decide) (by rw [e]; decide) (by decide) ?_
    refine g_lload C 1 dX4_opensWith_56 (q := 58) rfl rfl ?_
    refine g_lload C 0 dX4_opensWith_58 (q := 60) rfl rfl ?_
    refine g_lor C dX4_opensWith_60 (q := 61) rfl ?_
    refine g_lconst C (v := 0) dX4_opensWith_61 (q := 62) rfl (by decide) ?_
    refine g_lcmp C dX4_opensWith_62 (q := 63) rfl ?_
    have hif := g_if h
    clear h
    refine g_if_eq C dX4_opensWith_63 (q := 66) (tgt := 70) rfl (by decide) (fun c => ?_) (fun c => ?_)
    · have h := hif.1 c
      clear hif
      refine g_iconst C (v := 0) dX4_opensWith_70 (q := 71) rfl (by decide) ?_
      obtain rfl := Option.some.inj h
      exact g_zret C (g_bz_lit (by decide)) E dX4_opensWith_71
    · have h := hif.2 c
      clear hif
      refine g_iconst C (v := 1) dX4_opensWith_66 (q := 67) rfl (by decide) ?_
      refine g_goto C dX4_opensWith_67 (tgt := 71) (by decide) ?_
      obtain rfl := Option.some.inj h
      exact g_zret C (g_bz_lit (by decide)) E dX4_opensWith_71
  rw [if_neg e] at h
  have n2 := g_toI (n := 2) (v := 2) (by decide) e
  by_cases e : v5 = 3
  · rw [if_pos e] at h
    refine g_tabI C (off := 42) (tgt := 72) dX4_opensWith_30 (by rw [e]; decide) (by rw [e]; decide) (by rw [e]; decide) (by decide) ?_
    refine g_lload C 1 dX4_opensWith_72 (q := 74) rfl rfl ?_
    refine g_lload C 0 dX4_opensWith_74 (q := 76) rfl rfl ?_
    refine g_land C dX4_opensWith_76 (q := 77) rfl ?_
    refine g_lconst C (v := 0) dX4_opensWith_77 (q := 78) rfl (by decide) ?_
    refine g_lcmp C dX4_opensWith_78 (q := 79) rfl ?_
    have hif := g_if h
    clear h
    refine g_if_eq C dX4_opensWith_79 (q := 82) (tgt := 86) rfl (by decide) (fun c => ?_) (fun c => ?_)
    · have h := hif.1 c
      clear hif
      refine g_iconst C (v := 0) dX4_opensWith_86 (q := 87) rfl (by decide) ?_
      obtain rfl := Option.some.inj h
      exact g_zret C (g_bz_lit (by decide)) E dX4_opensWith_87
    · have h := hif.2 c
      clear hif
      refine g_iconst C (v := 1) dX4_opensWith_82 (q := 83) rfl (by decide) ?_
      refine g_goto C dX4_opensWith_83 (tgt := 87) (by decide) ?_
      obtain rfl := Option.some.inj h
      exact g_zret C (g_bz_lit (by decide)) E dX4_opensWith_87
  rw [if_neg e] at h
  have n3 := g_toI (n := 3) (v := 3) (by decide) e
  by_cases e : v5 = 4
  · rw [if_pos e] at h
    refine g_tabI C (off := 58) (tgt := 88) dX4_opensWith_30 (by rw [e]; decide) (by rw [e]; decide) (by rw [e]; decide) (by decide) ?_
    refine g_lload C 1 dX4_opensWith_88 (q := 90) rfl rfl ?_
    refine g_lconst C (v := 0) dX4_opensWith_90 (q := 91) rfl (by decide) ?_
    refine g_lcmp C dX4_opensWith_91 (q := 92) rfl ?_
    have hif := g_if h
    clear h
    refine g_if_eq C dX4_opensWith_92 (q := 95) (tgt := 99) rfl (by decide) (fun c => ?_) (fun c => ?_)
    · have h := hif.1 c
      clear hif
      refine g_iconst C (v := 0) dX4_opensWith_99 (q := 100) rfl (by decide) ?_
      obtain rfl := Option.some.inj h
      exact g_zret C (g_bz_lit (by decide)) E dX4_opensWith_100
    · have h := hif.2 c
      clear hif
      refine g_iconst C (v := 1) dX4_opensWith_95 (q := 96) rfl (by decide) ?_
      refine g_goto C dX4_opensWith_96 (tgt := 100) (by decide) ?_
      obtain rfl := Option.some.inj h
      exact g_zret C (g_bz_lit (by decide)) E dX4_opensWith_100
  rw [if_neg e] at h
  have n4 := g_toI (n := 4) (v := 4) (by decide) e
  have hdef : g_G 9 X Y 101 [(7, .long y4), (5, .long y2), (0, g_r Y 24), (1, .int x1), (2, .int x2), (3, .long x3)] [] M := by
    refine g_iload_n C 4 dX4_opensWith_101 (q := 102) rfl rfl rfl ?_
    refine g_aload_n C 2 dX4_opensWith_102 (q := 103) rfl rfl rfl ?_
    refine g_get C (k := 24) (i := 4) (by decide) (gc_24 Y _ _) rfl kU_X4 (by decide) kF_X4_18 rfl dX4_opensWith_103 (q := 106) rfl ?_
    refine g_iload_n C 3 dX4_opensWith_106 (q := 107) rfl rfl rfl ?_
    obtain ⟨v6, hv6, h⟩ := g_bind h
    refine g_iald C (k := 27) (n := 40) (by decide) (gc_27 Y _ _) hv6 dX4_opensWith_107 (q := 108) rfl ?_
    refine g_iand C dX4_opensWith_108 (q := 109) rfl ?_
    have hif := g_if h
    clear h
    refine g_if_eq C dX4_opensWith_109 (q := 112) (tgt := 116) rfl (by decide) (fun c => ?_) (fun c => ?_)
    · have h := hif.1 c
      clear hif
      refine g_iconst C (v := 0) dX4_opensWith_116 (q := 117) rfl (by decide) ?_
      obtain rfl := Option.some.inj h
      exact g_zret C (g_bz_lit (by decide)) E dX4_opensWith_117
    · have h := hif.2 c
      clear hif
      refine g_iconst C (v := 1) dX4_opensWith_112 (q := 113) rfl (by decide) ?_
      refine g_goto C dX4_opensWith_113 (tgt := 117) (by decide) ?_
      obtain rfl := Option.some.inj h
      exact g_zret C (g_bz_lit (by decide)) E dX4_opensWith_117
  refine g_tabO C (tgt := 101) dX4_opensWith_30 (by omega) (by decide) hdef
def F_X4_openWith_5 (M : g_M) (k38 : Int64 → Option (Int64)) (k : Int32 → Int64 → Int32 → Option (Int64)) (x1 : Int32) (x2 : Int64) (x4 : Int32) : Option (Int64) :=
  (if (M.1 24 0) ≤ x4 then (k38 x2) else ((f_X4_opensWith x4 x1 x2 M).bind fun p1 => (if p1 = 0 then (k x1 x2 (x4 + 1)) else ((some (x2 ||| ((1 : Int64) <<< (Int32.toInt64 x4 &&& 63)))).bind fun y2 => k x1 y2 (x4 + 1)))))
set_option maxRecDepth 100000 in
theorem t_X4_openWith_5 {l : Launch} {X : g_X} {Y : g_Y} {p : Int64} {M : g_M} {k38 : Int64 → Option (Int64)} (C : g_C l (g_rm (1)) RX4 cX4_openWith 5 X Y) (E : g_E (some .long) X Y (some (.long p)) M) (hk38 : ∀ (x2 : Int64), k38 x2 = some p → g_G 5 X Y 38 [(2, .long x2)] [] M) (n : Nat) : ∀ (x1 : Int32) (x2 : Int64) (x4 : Int32), g_lq3 (F_X4_openWith_5 M k38) n x1 x2 x4 = some p → g_G 5 X Y 5 [(0, g_r Y 24), (1, .int x1), (2, .long x2), (4, .int x4)] [] M := by
  induction n with
  | zero => intro x1 x2 x4 h; exact (g_nn h).elim
  | succ n ih =>
    intro x1 x2 x4 h
    have h : F_X4_openWith_5 M k38 (g_lq3 (F_X4_openWith_5 M k38) n) x1 x2 x4 = some p := h
    generalize g_lq3 (F_X4_openWith_5 M k38) n = k at h ih
    unfold F_X4_openWith_5 at h
    refine g_iload C 3 dX4_openWith_5 (q := 7) rfl rfl ?_
    refine g_aload_n C 0 dX4_openWith_7 (q := 8) rfl rfl rfl ?_
    refine g_get C (k := 24) (i := 0) (by decide) (gc_24 Y _ _) rfl kU_X4 (by decide) kF_X4_33 rfl dX4_openWith_8 (q := 11) rfl ?_
    have hif := g_if h
    clear h
    refine g_icmp_ge C dX4_openWith_11 (q := 14) (tgt := 38) rfl (by decide) (fun c => ?_) (fun c => ?_)
    · have h := hif.1 c
      clear hif
      refine g_sub [2] (lv' := [(2, .long x2)]) rfl ?_
      exact hk38 x2 h
    · have h := hif.2 c
      clear hif
      refine g_aload_n C 0 dX4_openWith_14 (q := 15) rfl rfl rfl ?_
      refine g_iload C 3 dX4_openWith_15 (q := 17) rfl rfl ?_
      refine g_iload_n C 1 dX4_openWith_17 (q := 18) rfl rfl rfl ?_
      refine g_lload_n C 2 dX4_openWith_18 (q := 19) rfl rfl rfl ?_
      obtain ⟨p1, hp1, h⟩ := g_bind h
      refine g_callV C (k := 24) (as := [.int x4, .int x1, .long x2]) (st := []) (m_X4_opensWith hp1) (g_hR (by decide)) (by decide) (by decide) (gc_24 Y _ _) rfl kM_X4_48 kI_X4_opensWith kS_X4_opensWith kN_X4 kC_X4_opensWith kD_X4_opensWith rfl (Nat.le_of_ble_eq_true rfl) dX4_openWith_19 (q := 22) rfl ?_
      show g_G 5 X Y 22 [(0, g_r Y 24), (1, .int x1), (2, .long x2), (4, .int x4)] [.int p1] M
      have hif := g_if h
      clear h
      refine g_if_eq C dX4_openWith_22 (q := 25) (tgt := 32) rfl (by decide) (fun c => ?_) (fun c => ?_)
      · have h := hif.1 c
        clear hif
        refine g_iinc C (k := 3) (v := x4 + 1) dX4_openWith_32 (q := 35) rfl rfl rfl (by decide) (lv' := [(4, .int (x4 + 1)), (0, g_r Y 24), (1, .int x1), (2, .long x2)]) rfl ?_
        refine g_goto C dX4_openWith_35 (tgt := 5) (by decide) ?_
        refine g_sub [1, 2, 3, 0] (lv' := [(0, g_r Y 24), (1, .int x1), (2, .long x2), (4, .int (x4 + 1))]) rfl ?_
        exact ih x1 x2 (x4 + 1) h
      · have h := hif.2 c
        clear hif
        refine g_lload_n C 2 dX4_openWith_25 (q := 26) rfl rfl rfl ?_
        refine g_lconst C (v := 1) dX4_openWith_26 (q := 27) rfl (by decide) ?_
        refine g_iload C 3 dX4_openWith_27 (q := 29) rfl rfl ?_
        refine g_lshl C dX4_openWith_29 (q := 30) rfl ?_
        refine g_lor C dX4_openWith_30 (q := 31) rfl ?_
        obtain ⟨y2, hy2, h⟩ := g_bind h
        refine g_topl hy2 ?_
        refine g_lstore_n C dX4_openWith_31 (q := 32) rfl rfl (by decide) (lv' := [(2, .long y2), (0, g_r Y 24), (1, .int x1), (4, .int x4)]) rfl ?_
        refine g_iinc C (k := 3) (v := x4 + 1) dX4_openWith_32 (q := 35) rfl rfl rfl (by decide) (lv' := [(4, .int (x4 + 1)), (2, .long y2), (0, g_r Y 24), (1, .int x1)]) rfl ?_
        refine g_goto C dX4_openWith_35 (tgt := 5) (by decide) ?_
        refine g_sub [2, 3, 1, 0] (lv' := [(0, g_r Y 24), (1, .int x1), (2, .long y2), (4, .int (x4 + 1))]) rfl ?_
        exact ih x1 y2 (x4 + 1) h
def f_X4_openWith (x1 : Int32) (M : g_M) : Option (Int64) :=
  g_lq3 (F_X4_openWith_5 M (fun (x2 : Int64) => some x2)) 20000000 x1 0 0
set_option maxRecDepth 100000 in
theorem m_X4_openWith {l : Launch} {Y : g_Y} {x1 : Int32} {M : g_M} {p : Int64} (h : f_X4_openWith x1 M = some p) : g_R l Y (1) yX4_openWith cX4_openWith 5 (some .long) [g_r Y 24, .int x1] M (some (.long p)) M := by
  unfold f_X4_openWith at h
  refine g_R_of kP_X4 rfl (Nat.le_of_ble_eq_true rfl) (fun X C E => ?_)
  show g_G 5 X Y 0 [(0, g_r Y 24), (1, .int x1)] [] M
  refine g_lconst C (v := 0) dX4_openWith_0 (q := 1) rfl (by decide) ?_
  refine g_lstore_n C dX4_openWith_1 (q := 2) rfl rfl (by decide) (lv' := [(2, .long 0), (0, g_r Y 24), (1, .int x1)]) rfl ?_
  refine g_iconst C (v := 0) dX4_openWith_2 (q := 3) rfl (by decide) ?_
  refine g_istore C dX4_openWith_3 (q := 5) rfl (by decide) (lv' := [(4, .int 0), (2, .long 0), (0, g_r Y 24), (1, .int x1)]) rfl ?_
  refine g_sub [2, 3, 1, 0] (lv' := [(0, g_r Y 24), (1, .int x1), (2, .long 0), (4, .int 0)]) rfl ?_
  refine t_X4_openWith_5 C E ?_ 20000000 x1 0 0 h
  · intro x2 h
    try dsimp only at h
    refine g_lload_n C 0 dX4_openWith_38 (q := 39) rfl rfl rfl ?_
    obtain rfl := Option.some.inj h
    exact g_lret C E dX4_openWith_39
def F_X4_keysInBoxes_5 (M : g_M) (k54 : Int32 → Option (Int32)) (k : Int64 → Int32 → Int32 → Option (Int32)) (x1 : Int64) (x3 : Int32) (x4 : Int32) : Option (Int32) :=
  (if (M.1 24 0) ≤ x4 then (k54 x3) else ((g_ld M 25 40 x4).bind fun v1 => (if v1 = 4 then ((if (lg_cmp ((x1 >>> (Int32.toInt64 x4 &&& 63)) &&& 1) 0) = 0 then (k x1 x3 (x4 + 1)) else ((g_ld M 26 40 x4).bind fun v2 => (some (x3 ||| ((1 : Int32) <<< (v2 &&& 31)))).bind fun y3 => k x1 y3 (x4 + 1)))) else (k x1 x3 (x4 + 1)))))
set_option maxRecDepth 100000 in
theorem t_X4_keysInBoxes_5 {l : Launch} {X : g_X} {Y : g_Y} {p : Int32} {M : g_M} {k54 : Int32 → Option (Int32)} (C : g_C l (g_rm (0)) RX4 cX4_keysInBoxes 5 X Y) (E : g_E (some .int) X Y (some (.int p)) M) (hk54 : ∀ (x3 : Int32), k54 x3 = some p → g_G 5 X Y 54 [(3, .int x3)] [] M) (n : Nat) : ∀ (x1 : Int64) (x3 : Int32) (x4 : Int32), g_lq3 (F_X4_keysInBoxes_5 M k54) n x1 x3 x4 = some p → g_G 5 X Y 5 [(0, g_r Y 24), (1, .long x1), (3, .int x3), (4, .int x4)] [] M := by
  induction n with
  | zero => intro x1 x3 x4 h; exact (g_nn h).elim
  | succ n ih =>
    intro x1 x3 x4 h
    have h : F_X4_keysInBoxes_5 M k54 (g_lq3 (F_X4_keysInBoxes_5 M k54) n) x1 x3 x4 = some p := h
    generalize g_lq3 (F_X4_keysInBoxes_5 M k54) n = k at h ih
    unfold F_X4_keysInBoxes_5 at h
    refine g_iload C 3 dX4_keysInBoxes_5 (q := 7) rfl rfl ?_
    refine g_aload_n C 0 dX4_keysInBoxes_7 (q := 8) rfl rfl rfl ?_
    refine g_get C (k := 24) (i := 0) (by decide) (gc_24 Y _ _) rfl kU_X4 (by decide) kF_X4_33 rfl dX4_keysInBoxes_8 (q := 11) rfl ?_
    have hif := g_if h
    clear h
    refine g_icmp_ge C dX4_keysInBoxes_11 (q := 14) (tgt := 54) rfl (by decide) (fun c => ?_) (fun c => ?_)
    · have h := hif.1 c
      clear hif
      refine g_sub [2] (lv' := [(3, .int x3)]) rfl ?_
      exact hk54 x3 h
    · have h := hif.2 c
      clear hif
      refine g_aload_n C 0 dX4_keysInBoxes_14 (q := 15) rfl rfl rfl ?_
      refine g_get C (k := 24) (i := 2) (by decide) (gc_24 Y _ _) rfl kU_X4 (by decide) kF_X4_9 rfl dX4_keysInBoxes_15 (q := 18) rfl ?_
      refine g_iload C 3 dX4_keysInBoxes_18 (q := 20) rfl rfl ?_
      obtain ⟨v1, hv1, h⟩ := g_bind h
      refine g_iald C (k := 25) (n := 40) (by decide) (gc_25 Y _ _) hv1 dX4_keysInBoxes_20 (q := 21) rfl ?_
      refine g_iconst C (v := 4) dX4_keysInBoxes_21 (q := 22) rfl (by decide) ?_
      have hif := g_if h
      clear h
      refine g_icmp_ne C dX4_keysInBoxes_22 (q := 25) (tgt := 48) rfl (by decide) (fun c => ?_) (fun c => ?_)
      · have h := hif.2 c
        clear hif
        refine g_iinc C (k := 3) (v := x4 + 1) dX4_keysInBoxes_48 (q := 51) rfl rfl rfl (by decide) (lv' := [(4, .int (x4 + 1)), (0, g_r Y 24), (1, .long x1), (3, .int x3)]) rfl ?_
        refine g_goto C dX4_keysInBoxes_51 (tgt := 5) (by decide) ?_
        refine g_sub [1, 2, 3, 0] (lv' := [(0, g_r Y 24), (1, .long x1), (3, .int x3), (4, .int (x4 + 1))]) rfl ?_
        exact ih x1 x3 (x4 + 1) h
      · have h := hif.1 c
        clear hif
        refine g_lload_n C 1 dX4_keysInBoxes_25 (q := 26) rfl rfl rfl ?_
        refine g_iload C 3 dX4_keysInBoxes_26 (q := 28) rfl rfl ?_
        refine g_lshr C dX4_keysInBoxes_28 (q := 29) rfl ?_
        refine g_lconst C (v := 1) dX4_keysInBoxes_29 (q := 30) rfl (by decide) ?_
        refine g_land C dX4_keysInBoxes_30 (q := 31) rfl ?_
        refine g_lconst C (v := 0) dX4_keysInBoxes_31 (q := 32) rfl (by decide) ?_
        refine g_lcmp C dX4_keysInBoxes_32 (q := 33) rfl ?_
        have hif := g_if h
        clear h
        refine g_if_eq C dX4_keysInBoxes_33 (q := 36) (tgt := 48) rfl (by decide) (fun c => ?_) (fun c => ?_)
        · have h := hif.1 c
          clear hif
          refine g_iinc C (k := 3) (v := x4 + 1) dX4_keysInBoxes_48 (q := 51) rfl rfl rfl (by decide) (lv' := [(4, .int (x4 + 1)), (0, g_r Y 24), (1, .long x1), (3, .int x3)]) rfl ?_
          refine g_goto C dX4_keysInBoxes_51 (tgt := 5) (by decide) ?_
          refine g_sub [1, 2, 3, 0] (lv' := [(0, g_r Y 24), (1, .long x1), (3, .int x3), (4, .int (x4 + 1))]) rfl ?_
          exact ih x1 x3 (x4 + 1) h
        · have h := hif.2 c
          clear hif
          refine g_iload_n C 2 dX4_keysInBoxes_36 (q := 37) rfl rfl rfl ?_
          refine g_iconst C (v := 1) dX4_keysInBoxes_37 (q := 38) rfl (by decide) ?_
          refine g_aload_n C 0 dX4_keysInBoxes_38 (q := 39) rfl rfl rfl ?_
          refine g_get C (k := 24) (i := 3) (by decide) (gc_24 Y _ _) rfl kU_X4 (by decide) kF_X4_15 rfl dX4_keysInBoxes_39 (q := 42) rfl ?_
          refine g_iload C 3 dX4_keysInBoxes_42 (q := 44) rfl rfl ?_
          obtain ⟨v2, hv2, h⟩ := g_bind h
          refine g_iald C (k := 26) (n := 40) (by decide) (gc_26 Y _ _) hv2 dX4_keysInBoxes_44 (q := 45) rfl ?_
          refine g_ishl C dX4_keysInBoxes_45 (q := 46) rfl ?_
          refine g_ior C dX4_keysInBoxes_46 (q := 47) rfl ?_
          obtain ⟨y3, hy3, h⟩ := g_bind h
          refine g_top hy3 ?_
          refine g_istore_n C dX4_keysInBoxes_47 (q := 48) rfl rfl (by decide) (lv' := [(3, .int y3), (0, g_r Y 24), (1, .long x1), (4, .int x4)]) rfl ?_
          refine g_iinc C (k := 3) (v := x4 + 1) dX4_keysInBoxes_48 (q := 51) rfl rfl rfl (by decide) (lv' := [(4, .int (x4 + 1)), (3, .int y3), (0, g_r Y 24), (1, .long x1)]) rfl ?_
          refine g_goto C dX4_keysInBoxes_51 (tgt := 5) (by decide) ?_
          refine g_sub [2, 3, 1, 0] (lv' := [(0, g_r Y 24), (1, .long x1), (3, .int y3), (4, .int (x4 + 1))]) rfl ?_
          exact ih x1 y3 (x4 + 1) h
def f_X4_keysInBoxes (x1 : Int64) (M : g_M) : Option (Int32) :=
  g_lq3 (F_X4_keysInBoxes_5 M (fun (x3 : Int32) => some x3)) 20000000 x1 0 0
set_option maxRecDepth 100000 in
theorem m_X4_keysInBoxes {l : Launch} {Y : g_Y} {x1 : Int64} {M : g_M} {p : Int32} (h : f_X4_keysInBoxes x1 M = some p) : g_R l Y (0) yX4_keysInBoxes cX4_keysInBoxes 5 (some .int) [g_r Y 24, .long x1] M (some (.int p)) M := by
  unfold f_X4_keysInBoxes at h
  refine g_R_of kP_X4 rfl (Nat.le_of_ble_eq_true rfl) (fun X C E => ?_)
  show g_G 5 X Y 0 [(0, g_r Y 24), (1, .long x1)] [] M
  refine g_iconst C (v := 0) dX4_keysInBoxes_0 (q := 1) rfl (by decide) ?_
  refine g_istore_n C dX4_keysInBoxes_1 (q := 2) rfl rfl (by decide) (lv' := [(3, .int 0), (0, g_r Y 24), (1, .long x1)]) rfl ?_
  refine g_iconst C (v := 0) dX4_keysInBoxes_2 (q := 3) rfl (by decide) ?_
  refine g_istore C dX4_keysInBoxes_3 (q := 5) rfl (by decide) (lv' := [(4, .int 0), (3, .int 0), (0, g_r Y 24), (1, .long x1)]) rfl ?_
  refine g_sub [2, 3, 1, 0] (lv' := [(0, g_r Y 24), (1, .long x1), (3, .int 0), (4, .int 0)]) rfl ?_
  refine t_X4_keysInBoxes_5 C E ?_ 20000000 x1 0 0 h
  · intro x3 h
    try dsimp only at h
    refine g_iload_n C 0 dX4_keysInBoxes_54 (q := 55) rfl rfl rfl ?_
    obtain rfl := Option.some.inj h
    exact g_iret C E dX4_keysInBoxes_55
def F_X4_openInTheEnd_11 (M : g_M) (k33 : Int64 → Option (Int64)) (k51 : Int64 → Option (Int64)) (k : Int32 → Int64 → Int32 → Option (Int64)) (x2 : Int32) (x3 : Int64) (x5 : Int32) : Option (Int64) :=
  (if 40 < x5 then (k51 x3) else ((f_X4_keysInBoxes x3 M).bind fun p2 => (if (x2 ||| p2) = x2 then (k33 x3) else ((f_X4_openWith (x2 ||| p2) M).bind fun p3 => k (x2 ||| p2) p3 (x5 + 1)))))
set_option maxRecDepth 100000 in
theorem t_X4_openInTheEnd_11 {l : Launch} {X : g_X} {Y : g_Y} {p : Int64} {M : g_M} {k33 : Int64 → Option (Int64)} {k51 : Int64 → Option (Int64)} (C : g_C l (g_rm (2)) RX4 cX4_openInTheEnd 7 X Y) (E : g_E (some .long) X Y (some (.long p)) M) (hk33 : ∀ (x3 : Int64), k33 x3 = some p → g_G 7 X Y 33 [(3, .long x3)] [] M) (hk51 : ∀ (x3 : Int64), k51 x3 = some p → g_G 7 X Y 51 [(3, .long x3)] [] M) (n : Nat) : ∀ (x2 : Int32) (x3 : Int64) (x5 : Int32), g_lq3 (F_X4_openInTheEnd_11 M k33 k51) n x2 x3 x5 = some p → g_G 7 X Y 11 [(0, g_r Y 24), (2, .int x2), (3, .long x3), (5, .int x5)] [] M := by
  induction n with
  | zero => intro x2 x3 x5 h; exact (g_nn h).elim
  | succ n ih =>
    intro x2 x3 x5 h
    have h : F_X4_openInTheEnd_11 M k33 k51 (g_lq3 (F_X4_openInTheEnd_11 M k33 k51) n) x2 x3 x5 = some p := h
    generalize g_lq3 (F_X4_openInTheEnd_11 M k33 k51) n = k at h ih
    unfold F_X4_openInTheEnd_11 at h
    refine g_iload C 3 dX4_openInTheEnd_11 (q := 13) rfl rfl ?_
    refine g_bipush C (v := 40) dX4_openInTheEnd_13 (q := 15) rfl (by decide) ?_
    have hif := g_if h
    clear h
    refine g_icmp_gt C dX4_openInTheEnd_15 (q := 18) (tgt := 51) rfl (by decide) (fun c => ?_) (fun c => ?_)
    · have h := hif.1 c
      clear hif
      refine g_sub [2] (lv' := [(3, .long x3)]) rfl ?_
      exact hk51 x3 h
    · have h := hif.2 c
      clear hif
      refine g_iload_n C 1 dX4_openInTheEnd_18 (q := 19) rfl rfl rfl ?_
      refine g_aload_n C 0 dX4_openInTheEnd_19 (q := 20) rfl rfl rfl ?_
      refine g_lload_n C 2 dX4_openInTheEnd_20 (q := 21) rfl rfl rfl ?_
      obtain ⟨p2, hp2, h⟩ := g_bind h
      refine g_callV C (k := 24) (as := [.long x3]) (st := [.int x2]) (m_X4_keysInBoxes hp2) (g_hR (by decide)) (by decide) (by decide) (gc_24 Y _ _) rfl kM_X4_56 kI_X4_keysInBoxes kS_X4_keysInBoxes kN_X4 kC_X4_keysInBoxes kD_X4_keysInBoxes rfl (Nat.le_of_ble_eq_true rfl) dX4_openInTheEnd_21 (q := 24) rfl ?_
      show g_G 7 X Y 24 [(0, g_r Y 24), (2, .int x2), (3, .long x3), (5, .int x5)] [.int p2, .int x2] M
      refine g_ior C dX4_openInTheEnd_24 (q := 25) rfl ?_
      refine g_istore C dX4_openInTheEnd_25 (q := 27) rfl (by decide) (lv' := [(6, .int (x2 ||| p2)), (0, g_r Y 24), (2, .int x2), (3, .long x3), (5, .int x5)]) rfl ?_
      refine g_iload C 0 dX4_openInTheEnd_27 (q := 29) rfl rfl ?_
      refine g_iload_n C 2 dX4_openInTheEnd_29 (q := 30) rfl rfl rfl ?_
      have hif := g_if h
      clear h
      refine g_icmp_ne C dX4_openInTheEnd_30 (q := 33) (tgt := 36) rfl (by decide) (fun c => ?_) (fun c => ?_)
      · have h := hif.2 c
        clear hif
        refine g_iload C 0 dX4_openInTheEnd_36 (q := 38) rfl rfl ?_
        refine g_istore_n C dX4_openInTheEnd_38 (q := 39) rfl rfl (by decide) (lv' := [(2, .int (x2 ||| p2)), (6, .int (x2 ||| p2)), (0, g_r Y 24), (3, .long x3), (5, .int x5)]) rfl ?_
        refine g_aload_n C 2 dX4_openInTheEnd_39 (q := 40) rfl rfl rfl ?_
        refine g_iload_n C 0 dX4_openInTheEnd_40 (q := 41) rfl rfl rfl ?_
        obtain ⟨p3, hp3, h⟩ := g_bind h
        refine g_callV C (k := 24) (as := [.int (x2 ||| p2)]) (st := []) (m_X4_openWith hp3) (g_hR (by decide)) (by decide) (by decide) (gc_24 Y _ _) rfl kM_X4_52 kI_X4_openWith kS_X4_openWith kN_X4 kC_X4_openWith kD_X4_openWith rfl (Nat.le_of_ble_eq_true rfl) dX4_openInTheEnd_41 (q := 44) rfl ?_
        show g_G 7 X Y 44 [(2, .int (x2 ||| p2)), (6, .int (x2 ||| p2)), (0, g_r Y 24), (3, .long x3), (5, .int x5)] [.long p3] M
        refine g_lstore_n C dX4_openInTheEnd_44 (q := 45) rfl rfl (by decide) (lv' := [(3, .long p3), (2, .int (x2 ||| p2)), (6, .int (x2 ||| p2)), (0, g_r Y 24), (5, .int x5)]) rfl ?_
        refine g_iinc C (k := 4) (v := x5 + 1) dX4_openInTheEnd_45 (q := 48) rfl rfl rfl (by decide) (lv' := [(5, .int (x5 + 1)), (3, .long p3), (2, .int (x2 ||| p2)), (6, .int (x2 ||| p2)), (0, g_r Y 24)]) rfl ?_
        refine g_goto C dX4_openInTheEnd_48 (tgt := 11) (by decide) ?_
        refine g_sub [4, 2, 1, 0] (lv' := [(0, g_r Y 24), (2, .int (x2 ||| p2)), (3, .long p3), (5, .int (x5 + 1))]) rfl ?_
        exact ih (x2 ||| p2) p3 (x5 + 1) h
      · have h := hif.1 c
        clear hif
        refine g_sub [3] (lv' := [(3, .long x3)]) rfl ?_
        exact hk33 x3 h
def f_X4_openInTheEnd (x1 : Int32) (M : g_M) : Option (Int64) :=
  (f_X4_openWith x1 M).bind fun p1 => g_lq3 (F_X4_openInTheEnd_11 M (fun (x3 : Int64) => some x3) (fun (x3 : Int64) => some x3)) 20000000 x1 p1 1
set_option maxRecDepth 100000 in
theorem m_X4_openInTheEnd {l : Launch} {Y : g_Y} {x1 : Int32} {M : g_M} {p : Int64} (h : f_X4_openInTheEnd x1 M = some p) : g_R l Y (2) yX4_openInTheEnd cX4_openInTheEnd 7 (some .long) [g_r Y 24, .int x1] M (some (.long p)) M := by
  unfold f_X4_openInTheEnd at h
  refine g_R_of kP_X4 rfl (Nat.le_of_ble_eq_true rfl) (fun X C E => ?_)
  show g_G 7 X Y 0 [(0, g_r Y 24), (1, .int x1)] [] M
  refine g_iload_n C 1 dX4_openInTheEnd_0 (q := 1) rfl rfl rfl ?_
  refine g_istore_n C dX4_openInTheEnd_1 (q := 2) rfl rfl (by decide) (lv' := [(2, .int x1), (0, g_r Y 24), (1, .int x1)]) rfl ?_
  refine g_aload_n C 1 dX4_openInTheEnd_2 (q := 3) rfl rfl rfl ?_
  refine g_iload_n C 0 dX4_openInTheEnd_3 (q := 4) rfl rfl rfl ?_
  obtain ⟨p1, hp1, h⟩ := g_bind h
  refine g_callV C (k := 24) (as := [.int x1]) (st := []) (m_X4_openWith hp1) (g_hR (by decide)) (by decide) (by decide) (gc_24 Y _ _) rfl kM_X4_52 kI_X4_openWith kS_X4_openWith kN_X4 kC_X4_openWith kD_X4_openWith rfl (Nat.le_of_ble_eq_true rfl) dX4_openInTheEnd_4 (q := 7) rfl ?_
  show g_G 7 X Y 7 [(2, .int x1), (0, g_r Y 24), (1, .int x1)] [.long p1] M
  refine g_lstore_n C dX4_openInTheEnd_7 (q := 8) rfl rfl (by decide) (lv' := [(3, .long p1), (2, .int x1), (0, g_r Y 24), (1, .int x1)]) rfl ?_
  refine g_iconst C (v := 1) dX4_openInTheEnd_8 (q := 9) rfl (by decide) ?_
  refine g_istore C dX4_openInTheEnd_9 (q := 11) rfl (by decide) (lv' := [(5, .int 1), (3, .long p1), (2, .int x1), (0, g_r Y 24), (1, .int x1)]) rfl ?_
  refine g_sub [3, 2, 1, 0] (lv' := [(0, g_r Y 24), (2, .int x1), (3, .long p1), (5, .int 1)]) rfl ?_
  refine t_X4_openInTheEnd_11 C E ?_ ?_ 20000000 x1 p1 1 h
  · intro x3 h
    try dsimp only at h
    refine g_goto C dX4_openInTheEnd_33 (tgt := 51) (by decide) ?_
    refine g_lload_n C 0 dX4_openInTheEnd_51 (q := 52) rfl rfl rfl ?_
    obtain rfl := Option.some.inj h
    exact g_lret C E dX4_openInTheEnd_52
  · intro x3 h
    try dsimp only at h
    refine g_lload_n C 0 dX4_openInTheEnd_51 (q := 52) rfl rfl rfl ?_
    obtain rfl := Option.some.inj h
    exact g_lret C E dX4_openInTheEnd_52
def f_X4_isOpenInTheEnd (x1 : Int32) (x2 : Int32) (M : g_M) : Option (Int32) :=
  (f_X4_openInTheEnd x2 M).bind fun p1 => (if (lg_cmp ((p1 >>> (Int32.toInt64 x1 &&& 63)) &&& 1) 0) = 0 then (some 0) else (some 1))
set_option maxRecDepth 100000 in
theorem m_X4_isOpenInTheEnd {l : Launch} {Y : g_Y} {x1 : Int32} {x2 : Int32} {M : g_M} {p : Int32} (h : f_X4_isOpenInTheEnd x1 x2 M = some p) : g_R l Y (3) yX4_isOpenInTheEnd cX4_isOpenInTheEnd 3 (some .boolean) [g_r Y 24, .int x1, .int x2] M (some (.int p)) M := by
  unfold f_X4_isOpenInTheEnd at h
  refine g_R_of kP_X4 rfl (Nat.le_of_ble_eq_true rfl) (fun X C E => ?_)
  show g_G 3 X Y 0 [(0, g_r Y 24), (1, .int x1), (2, .int x2)] [] M
  refine g_aload_n C 0 dX4_isOpenInTheEnd_0 (q := 1) rfl rfl rfl ?_
  refine g_iload_n C 2 dX4_isOpenInTheEnd_1 (q := 2) rfl rfl rfl ?_
  obtain ⟨p1, hp1, h⟩ := g_bind h
  refine g_callV C (k := 24) (as := [.int x2]) (st := []) (m_X4_openInTheEnd hp1) (g_hR (by decide)) (by decide) (by decide) (gc_24 Y _ _) rfl kM_X4_60 kI_X4_openInTheEnd kS_X4_openInTheEnd kN_X4 kC_X4_openInTheEnd kD_X4_openInTheEnd rfl (Nat.le_of_ble_eq_true rfl) dX4_isOpenInTheEnd_2 (q := 5) rfl ?_
  show g_G 3 X Y 5 [(0, g_r Y 24), (1, .int x1), (2, .int x2)] [.long p1] M
  refine g_iload_n C 1 dX4_isOpenInTheEnd_5 (q := 6) rfl rfl rfl ?_
  refine g_lshr C dX4_isOpenInTheEnd_6 (q := 7) rfl ?_
  refine g_lconst C (v := 1) dX4_isOpenInTheEnd_7 (q := 8) rfl (by decide) ?_
  refine g_land C dX4_isOpenInTheEnd_8 (q := 9) rfl ?_
  refine g_lconst C (v := 0) dX4_isOpenInTheEnd_9 (q := 10) rfl (by decide) ?_
  refine g_lcmp C dX4_isOpenInTheEnd_10 (q := 11) rfl ?_
  have hif := g_if h
  clear h
  refine g_if_eq C dX4_isOpenInTheEnd_11 (q := 14) (tgt := 18) rfl (by decide) (fun c => ?_) (fun c => ?_)
  · have h := hif.1 c
    clear hif
    refine g_iconst C (v := 0) dX4_isOpenInTheEnd_18 (q := 19) rfl (by decide) ?_
    obtain rfl := Option.some.inj h
    exact g_zret C (g_bz_lit (by decide)) E dX4_isOpenInTheEnd_19
  · have h := hif.2 c
    clear hif
    refine g_iconst C (v := 1) dX4_isOpenInTheEnd_14 (q := 15) rfl (by decide) ?_
    refine g_goto C dX4_isOpenInTheEnd_15 (tgt := 19) (by decide) ?_
    obtain rfl := Option.some.inj h
    exact g_zret C (g_bz_lit (by decide)) E dX4_isOpenInTheEnd_19
def f_X4_has (x1 : Int32) (M : g_M) : Option (Int32) :=
  (if x1 < 0 then (some 0) else ((if (M.1 24 0) ≤ x1 then (some 0) else (some 1))))
set_option maxRecDepth 100000 in
theorem m_X4_has {l : Launch} {Y : g_Y} {x1 : Int32} {M : g_M} {p : Int32} (h : f_X4_has x1 M = some p) : g_R l Y (0) yX4_has cX4_has 2 (some .boolean) [g_r Y 24, .int x1] M (some (.int p)) M := by
  unfold f_X4_has at h
  refine g_R_of kP_X4 rfl (Nat.le_of_ble_eq_true rfl) (fun X C E => ?_)
  show g_G 2 X Y 0 [(0, g_r Y 24), (1, .int x1)] [] M
  refine g_iload_n C 1 dX4_has_0 (q := 1) rfl rfl rfl ?_
  have hif := g_if h
  clear h
  refine g_if_lt C dX4_has_1 (q := 4) (tgt := 16) rfl (by decide) (fun c => ?_) (fun c => ?_)
  · have h := hif.1 c
    clear hif
    refine g_iconst C (v := 0) dX4_has_16 (q := 17) rfl (by decide) ?_
    obtain rfl := Option.some.inj h
    exact g_zret C (g_bz_lit (by decide)) E dX4_has_17
  · have h := hif.2 c
    clear hif
    refine g_iload_n C 1 dX4_has_4 (q := 5) rfl rfl rfl ?_
    refine g_aload_n C 0 dX4_has_5 (q := 6) rfl rfl rfl ?_
    refine g_get C (k := 24) (i := 0) (by decide) (gc_24 Y _ _) rfl kU_X4 (by decide) kF_X4_33 rfl dX4_has_6 (q := 9) rfl ?_
    have hif := g_if h
    clear h
    refine g_icmp_ge C dX4_has_9 (q := 12) (tgt := 16) rfl (by decide) (fun c => ?_) (fun c => ?_)
    · have h := hif.1 c
      clear hif
      refine g_iconst C (v := 0) dX4_has_16 (q := 17) rfl (by decide) ?_
      obtain rfl := Option.some.inj h
      exact g_zret C (g_bz_lit (by decide)) E dX4_has_17
    · have h := hif.2 c
      clear hif
      refine g_iconst C (v := 1) dX4_has_12 (q := 13) rfl (by decide) ?_
      refine g_goto C dX4_has_13 (tgt := 17) (by decide) ?_
      obtain rfl := Option.some.inj h
      exact g_zret C (g_bz_lit (by decide)) E dX4_has_17
def f_X2_tell (x1 : Int32) (M : g_M) : Option (Int32 × g_M) :=
  (if ((-1000000001) - x1) < 0 then (some (x1, M)) else ((if 7 ≤ ((-1000000001) - x1) then (some (x1, M)) else ((g_ld M 2 7 ((-1000000001) - x1)).bind fun v1 => (g_st M 2 7 ((-1000000001) - x1) (v1 + 1)).bind fun M2 => (some (g_u M2 1 1 ((M2.1 1 1) + 1))).bind fun M3 => some (x1, M3)))))
set_option maxRecDepth 100000 in
theorem m_X2_tell {l : Launch} {Y : g_Y} {x1 : Int32} {M : g_M} {p : Int32 × g_M} (h : f_X2_tell x1 M = some p) : g_R l Y (0) yX2_tell cX2_tell 3 (some .int) [g_r Y 1, .int x1] M (some (.int p.1)) p.2 := by
  unfold f_X2_tell at h
  refine g_R_of kP_X2 rfl (Nat.le_of_ble_eq_true rfl) (fun X C E => ?_)
  show g_G 3 X Y 0 [(0, g_r Y 1), (1, .int x1)] [] M
  refine g_ldc C (v := (-1000000001)) kK_X2_15 dX2_tell_0 (q := 2) rfl ?_
  refine g_iload_n C 1 dX2_tell_2 (q := 3) rfl rfl rfl ?_
  refine g_isub C dX2_tell_3 (q := 4) rfl ?_
  refine g_istore_n C dX2_tell_4 (q := 5) rfl rfl (by decide) (lv' := [(2, .int ((-1000000001) - x1)), (0, g_r Y 1), (1, .int x1)]) rfl ?_
  refine g_iload_n C 0 dX2_tell_5 (q := 6) rfl rfl rfl ?_
  have hif := g_if h
  clear h
  refine g_if_lt C dX2_tell_6 (q := 9) (tgt := 35) rfl (by decide) (fun c => ?_) (fun c => ?_)
  · have h := hif.1 c
    clear hif
    refine g_iload_n C 2 dX2_tell_35 (q := 36) rfl rfl rfl ?_
    obtain rfl := Option.some.inj h
    exact g_iret C E dX2_tell_36
  · have h := hif.2 c
    clear hif
    refine g_iload_n C 0 dX2_tell_9 (q := 10) rfl rfl rfl ?_
    refine g_bipush C (v := 7) dX2_tell_10 (q := 12) rfl (by decide) ?_
    have hif := g_if h
    clear h
    refine g_icmp_ge C dX2_tell_12 (q := 15) (tgt := 35) rfl (by decide) (fun c => ?_) (fun c => ?_)
    · have h := hif.1 c
      clear hif
      refine g_iload_n C 2 dX2_tell_35 (q := 36) rfl rfl rfl ?_
      obtain rfl := Option.some.inj h
      exact g_iret C E dX2_tell_36
    · have h := hif.2 c
      clear hif
      refine g_aload_n C 1 dX2_tell_15 (q := 16) rfl rfl rfl ?_
      refine g_get C (k := 1) (i := 0) (by decide) (gc_1 Y _ _) rfl kU_X2 (by decide) kF_X2_9 rfl dX2_tell_16 (q := 19) rfl ?_
      refine g_iload_n C 0 dX2_tell_19 (q := 20) rfl rfl rfl ?_
      refine g_dup2 C dX2_tell_20 (q := 21) rfl rfl rfl ?_
      obtain ⟨v1, hv1, h⟩ := g_bind h
      refine g_iald C (k := 2) (n := 7) (by decide) (gc_2 Y _ _) hv1 dX2_tell_21 (q := 22) rfl ?_
      refine g_iconst C (v := 1) dX2_tell_22 (q := 23) rfl (by decide) ?_
      refine g_iadd C dX2_tell_23 (q := 24) rfl ?_
      obtain ⟨M2, hM2, h⟩ := g_bind h
      refine g_iast C (k := 2) (n := 7) (by decide) (fun a => gc_2 Y a _) hM2 dX2_tell_24 (q := 25) rfl ?_
      refine g_aload_n C 1 dX2_tell_25 (q := 26) rfl rfl rfl ?_
      refine g_dup C dX2_tell_26 (q := 27) rfl rfl ?_
      refine g_get C (k := 1) (i := 1) (by decide) (gc_1 Y _ _) rfl kU_X2 (by decide) kF_X2_16 rfl dX2_tell_27 (q := 30) rfl ?_
      refine g_iconst C (v := 1) dX2_tell_30 (q := 31) rfl (by decide) ?_
      refine g_iadd C dX2_tell_31 (q := 32) rfl ?_
      obtain ⟨M3, hM3, h⟩ := g_bind h
      refine g_put C (k := 1) (i := 1) (ty := .int) (by decide) (gc_1 Y _ _) (gp_1_1 Y _ _ _) rfl kU_X2 tyX2_ok nmX2 (by decide) kF_X2_16 rfl rfl rfl rfl (Nat.le_of_ble_eq_true rfl) dX2_tell_32 (q := 35) rfl ?_
      refine g_mem hM3 ?_
      refine g_iload_n C 2 dX2_tell_35 (q := 36) rfl rfl rfl ?_
      obtain rfl := Option.some.inj h
      exact g_iret C E dX2_tell_36
theorem r_X2_tell {x1 : Int32} {M : g_M} {p : Int32 × g_M} (h : f_X2_tell x1 M = some p) : g_fr [2] [(1, 1)] M p.2 := by
  unfold f_X2_tell at h
  have hf := g_fr.rfl (S := [2]) (T := [(1, 1)]) (M := M)
  rcases g_ifs h with h | h
  · obtain rfl := Option.some.inj h
    exact hf
  · rcases g_ifs h with h | h
    · obtain rfl := Option.some.inj h
      exact hf
    · obtain ⟨v1, -, h⟩ := g_bind h
      obtain ⟨M2, hM2, h⟩ := g_bind h
      have hf := hf.st hM2 (by decide)
      obtain ⟨M3, hM3, h⟩ := g_bind h
      have hf := hf.pu hM3 (by decide)
      obtain rfl := Option.some.inj h
      exact hf
def f_X0_hasSet (x1 : Int32) (M : g_M) : Option (Int32) :=
  (if (x1 &&& ((((1 : Int32) <<< ((M.1 3 0) &&& 31)) - 1) ^^^ (-1))) = 0 then (some 1) else (some 0))
set_option maxRecDepth 100000 in
theorem m_X0_hasSet {l : Launch} {Y : g_Y} {x1 : Int32} {M : g_M} {p : Int32} (h : f_X0_hasSet x1 M = some p) : g_R l Y (0) yX0_hasSet cX0_hasSet 2 (some .boolean) [g_r Y 3, .int x1] M (some (.int p)) M := by
  unfold f_X0_hasSet at h
  refine g_R_of kP_X0 rfl (Nat.le_of_ble_eq_true rfl) (fun X C E => ?_)
  show g_G 2 X Y 0 [(0, g_r Y 3), (1, .int x1)] [] M
  refine g_iload_n C 1 dX0_hasSet_0 (q := 1) rfl rfl rfl ?_
  refine g_iconst C (v := 1) dX0_hasSet_1 (q := 2) rfl (by decide) ?_
  refine g_aload_n C 0 dX0_hasSet_2 (q := 3) rfl rfl rfl ?_
  refine g_get C (k := 3) (i := 0) (by decide) (gc_3 Y _ _) rfl kU_X0 (by decide) kF_X0_24 rfl dX0_hasSet_3 (q := 6) rfl ?_
  refine g_ishl C dX0_hasSet_6 (q := 7) rfl ?_
  refine g_iconst C (v := 1) dX0_hasSet_7 (q := 8) rfl (by decide) ?_
  refine g_isub C dX0_hasSet_8 (q := 9) rfl ?_
  refine g_iconst C (v := (-1)) dX0_hasSet_9 (q := 10) rfl (by decide) ?_
  refine g_ixor C dX0_hasSet_10 (q := 11) rfl ?_
  refine g_iand C dX0_hasSet_11 (q := 12) rfl ?_
  have hif := g_if h
  clear h
  refine g_if_ne C dX0_hasSet_12 (q := 15) (tgt := 19) rfl (by decide) (fun c => ?_) (fun c => ?_)
  · have h := hif.2 c
    clear hif
    refine g_iconst C (v := 0) dX0_hasSet_19 (q := 20) rfl (by decide) ?_
    obtain rfl := Option.some.inj h
    exact g_zret C (g_bz_lit (by decide)) E dX0_hasSet_20
  · have h := hif.1 c
    clear hif
    refine g_iconst C (v := 1) dX0_hasSet_15 (q := 16) rfl (by decide) ?_
    refine g_goto C dX0_hasSet_16 (tgt := 20) (by decide) ?_
    obtain rfl := Option.some.inj h
    exact g_zret C (g_bz_lit (by decide)) E dX0_hasSet_20
def F_X0_keysOf_4 (M : g_M) (k42 : Int32 → Option (Int32)) (k : Int32 → Int32 → Int32 → Option (Int32)) (x1 : Int32) (x2 : Int32) (x3 : Int32) : Option (Int32) :=
  (if (M.1 3 0) ≤ x3 then (k42 x2) else ((if ((x1 &&& ((M.1 3 1) ^^^ (-1))) &&& ((1 : Int32) <<< (x3 &&& 31))) = 0 then (k x1 x2 (x3 + 1)) else ((g_ld M 5 10 x3).bind fun v1 => k x1 (x2 ||| v1) (x3 + 1)))))
set_option maxRecDepth 100000 in
theorem t_X0_keysOf_4 {l : Launch} {X : g_X} {Y : g_Y} {p : Int32} {M : g_M} {k42 : Int32 → Option (Int32)} (C : g_C l (g_rm (0)) RX0 cX0_keysOf 4 X Y) (E : g_E (some .int) X Y (some (.int p)) M) (hk42 : ∀ (x2 : Int32), k42 x2 = some p → g_G 4 X Y 42 [(2, .int x2)] [] M) (n : Nat) : ∀ (x1 : Int32) (x2 : Int32) (x3 : Int32), g_lq3 (F_X0_keysOf_4 M k42) n x1 x2 x3 = some p → g_G 4 X Y 4 [(0, g_r Y 3), (1, .int x1), (2, .int x2), (3, .int x3)] [] M := by
  induction n with
  | zero => intro x1 x2 x3 h; exact (g_nn h).elim
  | succ n ih =>
    intro x1 x2 x3 h
    have h : F_X0_keysOf_4 M k42 (g_lq3 (F_X0_keysOf_4 M k42) n) x1 x2 x3 = some p := h
    generalize g_lq3 (F_X0_keysOf_4 M k42) n = k at h ih
    unfold F_X0_keysOf_4 at h
    refine g_iload_n C 3 dX0_keysOf_4 (q := 5) rfl rfl rfl ?_
    refine g_aload_n C 0 dX0_keysOf_5 (q := 6) rfl rfl rfl ?_
    refine g_get C (k := 3) (i := 0) (by decide) (gc_3 Y _ _) rfl kU_X0 (by decide) kF_X0_24 rfl dX0_keysOf_6 (q := 9) rfl ?_
    have hif := g_if h
    clear h
    refine g_icmp_ge C dX0_keysOf_9 (q := 12) (tgt := 42) rfl (by decide) (fun c => ?_) (fun c => ?_)
    · have h := hif.1 c
      clear hif
      refine g_sub [2] (lv' := [(2, .int x2)]) rfl ?_
      exact hk42 x2 h
    · have h := hif.2 c
      clear hif
      refine g_iload_n C 1 dX0_keysOf_12 (q := 13) rfl rfl rfl ?_
      refine g_aload_n C 0 dX0_keysOf_13 (q := 14) rfl rfl rfl ?_
      refine g_get C (k := 3) (i := 1) (by decide) (gc_3 Y _ _) rfl kU_X0 (by decide) kF_X0_28 rfl dX0_keysOf_14 (q := 17) rfl ?_
      refine g_iconst C (v := (-1)) dX0_keysOf_17 (q := 18) rfl (by decide) ?_
      refine g_ixor C dX0_keysOf_18 (q := 19) rfl ?_
      refine g_iand C dX0_keysOf_19 (q := 20) rfl ?_
      refine g_iconst C (v := 1) dX0_keysOf_20 (q := 21) rfl (by decide) ?_
      refine g_iload_n C 3 dX0_keysOf_21 (q := 22) rfl rfl rfl ?_
      refine g_ishl C dX0_keysOf_22 (q := 23) rfl ?_
      refine g_iand C dX0_keysOf_23 (q := 24) rfl ?_
      have hif := g_if h
      clear h
      refine g_if_eq C dX0_keysOf_24 (q := 27) (tgt := 36) rfl (by decide) (fun c => ?_) (fun c => ?_)
      · have h := hif.1 c
        clear hif
        refine g_iinc C (k := 3) (v := x3 + 1) dX0_keysOf_36 (q := 39) rfl rfl rfl (by decide) (lv' := [(3, .int (x3 + 1)), (0, g_r Y 3), (1, .int x1), (2, .int x2)]) rfl ?_
        refine g_goto C dX0_keysOf_39 (tgt := 4) (by decide) ?_
        refine g_sub [1, 2, 3, 0] (lv' := [(0, g_r Y 3), (1, .int x1), (2, .int x2), (3, .int (x3 + 1))]) rfl ?_
        exact ih x1 x2 (x3 + 1) h
      · have h := hif.2 c
        clear hif
        refine g_iload_n C 2 dX0_keysOf_27 (q := 28) rfl rfl rfl ?_
        refine g_aload_n C 0 dX0_keysOf_28 (q := 29) rfl rfl rfl ?_
        refine g_get C (k := 3) (i := 5) (by decide) (gc_3 Y _ _) rfl kU_X0 (by decide) kF_X0_15 rfl dX0_keysOf_29 (q := 32) rfl ?_
        refine g_iload_n C 3 dX0_keysOf_32 (q := 33) rfl rfl rfl ?_
        obtain ⟨v1, hv1, h⟩ := g_bind h
        refine g_iald C (k := 5) (n := 10) (by decide) (gc_5 Y _ _) hv1 dX0_keysOf_33 (q := 34) rfl ?_
        refine g_ior C dX0_keysOf_34 (q := 35) rfl ?_
        refine g_istore_n C dX0_keysOf_35 (q := 36) rfl rfl (by decide) (lv' := [(2, .int (x2 ||| v1)), (0, g_r Y 3), (1, .int x1), (3, .int x3)]) rfl ?_
        refine g_iinc C (k := 3) (v := x3 + 1) dX0_keysOf_36 (q := 39) rfl rfl rfl (by decide) (lv' := [(3, .int (x3 + 1)), (2, .int (x2 ||| v1)), (0, g_r Y 3), (1, .int x1)]) rfl ?_
        refine g_goto C dX0_keysOf_39 (tgt := 4) (by decide) ?_
        refine g_sub [2, 3, 1, 0] (lv' := [(0, g_r Y 3), (1, .int x1), (2, .int (x2 ||| v1)), (3, .int (x3 + 1))]) rfl ?_
        exact ih x1 (x2 ||| v1) (x3 + 1) h
def f_X0_keysOf (x1 : Int32) (M : g_M) : Option (Int32) :=
  g_lq3 (F_X0_keysOf_4 M (fun (x2 : Int32) => some x2)) 20000000 x1 0 0
set_option maxRecDepth 100000 in
theorem m_X0_keysOf {l : Launch} {Y : g_Y} {x1 : Int32} {M : g_M} {p : Int32} (h : f_X0_keysOf x1 M = some p) : g_R l Y (0) yX0_keysOf cX0_keysOf 4 (some .int) [g_r Y 3, .int x1] M (some (.int p)) M := by
  unfold f_X0_keysOf at h
  refine g_R_of kP_X0 rfl (Nat.le_of_ble_eq_true rfl) (fun X C E => ?_)
  show g_G 4 X Y 0 [(0, g_r Y 3), (1, .int x1)] [] M
  refine g_iconst C (v := 0) dX0_keysOf_0 (q := 1) rfl (by decide) ?_
  refine g_istore_n C dX0_keysOf_1 (q := 2) rfl rfl (by decide) (lv' := [(2, .int 0), (0, g_r Y 3), (1, .int x1)]) rfl ?_
  refine g_iconst C (v := 0) dX0_keysOf_2 (q := 3) rfl (by decide) ?_
  refine g_istore_n C dX0_keysOf_3 (q := 4) rfl rfl (by decide) (lv' := [(3, .int 0), (2, .int 0), (0, g_r Y 3), (1, .int x1)]) rfl ?_
  refine g_sub [2, 3, 1, 0] (lv' := [(0, g_r Y 3), (1, .int x1), (2, .int 0), (3, .int 0)]) rfl ?_
  refine t_X0_keysOf_4 C E ?_ 20000000 x1 0 0 h
  · intro x2 h
    try dsimp only at h
    refine g_iload_n C 0 dX0_keysOf_42 (q := 43) rfl rfl rfl ?_
    obtain rfl := Option.some.inj h
    exact g_iret C E dX0_keysOf_43
def f_X4_keysInTheEnd (x1 : Int32) (M : g_M) : Option (Int32) :=
  (f_X4_openInTheEnd x1 M).bind fun p1 => (f_X4_keysInBoxes p1 M).bind fun p2 => some (x1 ||| p2)
set_option maxRecDepth 100000 in
theorem m_X4_keysInTheEnd {l : Launch} {Y : g_Y} {x1 : Int32} {M : g_M} {p : Int32} (h : f_X4_keysInTheEnd x1 M = some p) : g_R l Y (3) yX4_keysInTheEnd cX4_keysInTheEnd 2 (some .int) [g_r Y 24, .int x1] M (some (.int p)) M := by
  unfold f_X4_keysInTheEnd at h
  refine g_R_of kP_X4 rfl (Nat.le_of_ble_eq_true rfl) (fun X C E => ?_)
  show g_G 2 X Y 0 [(0, g_r Y 24), (1, .int x1)] [] M
  refine g_iload_n C 1 dX4_keysInTheEnd_0 (q := 1) rfl rfl rfl ?_
  refine g_aload_n C 0 dX4_keysInTheEnd_1 (q := 2) rfl rfl rfl ?_
  refine g_aload_n C 0 dX4_keysInTheEnd_2 (q := 3) rfl rfl rfl ?_
  refine g_iload_n C 1 dX4_keysInTheEnd_3 (q := 4) rfl rfl rfl ?_
  obtain ⟨p1, hp1, h⟩ := g_bind h
  refine g_callV C (k := 24) (as := [.int x1]) (st := [g_r Y 24, .int x1]) (m_X4_openInTheEnd hp1) (g_hR (by decide)) (by decide) (by decide) (gc_24 Y _ _) rfl kM_X4_60 kI_X4_openInTheEnd kS_X4_openInTheEnd kN_X4 kC_X4_openInTheEnd kD_X4_openInTheEnd rfl (Nat.le_of_ble_eq_true rfl) dX4_keysInTheEnd_4 (q := 7) rfl ?_
  show g_G 2 X Y 7 [(0, g_r Y 24), (1, .int x1)] [.long p1, g_r Y 24, .int x1] M
  obtain ⟨p2, hp2, h⟩ := g_bind h
  refine g_callV C (k := 24) (as := [.long p1]) (st := [.int x1]) (m_X4_keysInBoxes hp2) (g_hR (by decide)) (by decide) (by decide) (gc_24 Y _ _) rfl kM_X4_56 kI_X4_keysInBoxes kS_X4_keysInBoxes kN_X4 kC_X4_keysInBoxes kD_X4_keysInBoxes rfl (Nat.le_of_ble_eq_true rfl) dX4_keysInTheEnd_7 (q := 10) rfl ?_
  show g_G 2 X Y 10 [(0, g_r Y 24), (1, .int x1)] [.int p2, .int x1] M
  refine g_ior C dX4_keysInTheEnd_10 (q := 11) rfl ?_
  obtain rfl := Option.some.inj h
  exact g_iret C E dX4_keysInTheEnd_11
def f_X0_add (x1 : Int32) (M : g_M) : Option (Int32 × g_M) :=
  (g_st M 4 10 (M.1 3 0) x1).bind fun M1 => (some (g_u M1 3 3 ((M1.1 3 3) + 1))).bind fun M2 => (some (g_u M2 3 0 ((M2.1 3 0) + 1))).bind fun M3 => some (M2.1 3 0, M3)
set_option maxRecDepth 100000 in
theorem m_X0_add {l : Launch} {Y : g_Y} {x1 : Int32} {M : g_M} {p : Int32 × g_M} (h : f_X0_add x1 M = some p) : g_R l Y (0) yX0_add cX0_add 2 (some .int) [g_r Y 3, .int x1] M (some (.int p.1)) p.2 := by
  unfold f_X0_add at h
  refine g_R_of kP_X0 rfl (Nat.le_of_ble_eq_true rfl) (fun X C E => ?_)
  show g_G 2 X Y 0 [(0, g_r Y 3), (1, .int x1)] [] M
  refine g_aload_n C 0 dX0_add_0 (q := 1) rfl rfl rfl ?_
  refine g_get C (k := 3) (i := 4) (by decide) (gc_3 Y _ _) rfl kU_X0 (by decide) kF_X0_9 rfl dX0_add_1 (q := 4) rfl ?_
  refine g_aload_n C 0 dX0_add_4 (q := 5) rfl rfl rfl ?_
  refine g_get C (k := 3) (i := 0) (by decide) (gc_3 Y _ _) rfl kU_X0 (by decide) kF_X0_24 rfl dX0_add_5 (q := 8) rfl ?_
  refine g_iload_n C 1 dX0_add_8 (q := 9) rfl rfl rfl ?_
  obtain ⟨M1, hM1, h⟩ := g_bind h
  refine g_iast C (k := 4) (n := 10) (by decide) (fun a => gc_4 Y a _) hM1 dX0_add_9 (q := 10) rfl ?_
  refine g_aload_n C 0 dX0_add_10 (q := 11) rfl rfl rfl ?_
  refine g_dup C dX0_add_11 (q := 12) rfl rfl ?_
  refine g_get C (k := 3) (i := 3) (by decide) (gc_3 Y _ _) rfl kU_X0 (by decide) kF_X0_31 rfl dX0_add_12 (q := 15) rfl ?_
  refine g_iconst C (v := 1) dX0_add_15 (q := 16) rfl (by decide) ?_
  refine g_iadd C dX0_add_16 (q := 17) rfl ?_
  obtain ⟨M2, hM2, h⟩ := g_bind h
  refine g_put C (k := 3) (i := 3) (ty := .int) (by decide) (gc_3 Y _ _) (gp_3_3 Y _ _ _) rfl kU_X0 tyX0_ok nmX0 (by decide) kF_X0_31 rfl rfl rfl rfl (Nat.le_of_ble_eq_true rfl) dX0_add_17 (q := 20) rfl ?_
  refine g_mem hM2 ?_
  refine g_aload_n C 0 dX0_add_20 (q := 21) rfl rfl rfl ?_
  refine g_dup C dX0_add_21 (q := 22) rfl rfl ?_
  refine g_get C (k := 3) (i := 0) (by decide) (gc_3 Y _ _) rfl kU_X0 (by decide) kF_X0_24 rfl dX0_add_22 (q := 25) rfl ?_
  refine g_dup_x1 C dX0_add_25 (q := 26) rfl rfl rfl ?_
  refine g_iconst C (v := 1) dX0_add_26 (q := 27) rfl (by decide) ?_
  refine g_iadd C dX0_add_27 (q := 28) rfl ?_
  obtain ⟨M3, hM3, h⟩ := g_bind h
  refine g_put C (k := 3) (i := 0) (ty := .int) (by decide) (gc_3 Y _ _) (gp_3_0 Y _ _ _) rfl kU_X0 tyX0_ok nmX0 (by decide) kF_X0_24 rfl rfl rfl rfl (Nat.le_of_ble_eq_true rfl) dX0_add_28 (q := 31) rfl ?_
  refine g_mem hM3 ?_
  obtain rfl := Option.some.inj h
  exact g_iret C E dX0_add_31
theorem r_X0_add {x1 : Int32} {M : g_M} {p : Int32 × g_M} (h : f_X0_add x1 M = some p) : g_fr [4] [(3, 0), (3, 3)] M p.2 := by
  unfold f_X0_add at h
  have hf := g_fr.rfl (S := [4]) (T := [(3, 0), (3, 3)]) (M := M)
  obtain ⟨M1, hM1, h⟩ := g_bind h
  have hf := hf.st hM1 (by decide)
  obtain ⟨M2, hM2, h⟩ := g_bind h
  have hf := hf.pu hM2 (by decide)
  obtain ⟨M3, hM3, h⟩ := g_bind h
  have hf := hf.pu hM3 (by decide)
  obtain rfl := Option.some.inj h
  exact hf
def f_X0_has (x1 : Int32) (M : g_M) : Option (Int32) :=
  (if x1 < 0 then (some 0) else ((if (M.1 3 0) ≤ x1 then (some 0) else (some 1))))
set_option maxRecDepth 100000 in
theorem m_X0_has {l : Launch} {Y : g_Y} {x1 : Int32} {M : g_M} {p : Int32} (h : f_X0_has x1 M = some p) : g_R l Y (0) yX0_has cX0_has 2 (some .boolean) [g_r Y 3, .int x1] M (some (.int p)) M := by
  unfold f_X0_has at h
  refine g_R_of kP_X0 rfl (Nat.le_of_ble_eq_true rfl) (fun X C E => ?_)
  show g_G 2 X Y 0 [(0, g_r Y 3), (1, .int x1)] [] M
  refine g_iload_n C 1 dX0_has_0 (q := 1) rfl rfl rfl ?_
  have hif := g_if h
  clear h
  refine g_if_lt C dX0_has_1 (q := 4) (tgt := 16) rfl (by decide) (fun c => ?_) (fun c => ?_)
  · have h := hif.1 c
    clear hif
    refine g_iconst C (v := 0) dX0_has_16 (q := 17) rfl (by decide) ?_
    obtain rfl := Option.some.inj h
    exact g_zret C (g_bz_lit (by decide)) E dX0_has_17
  · have h := hif.2 c
    clear hif
    refine g_iload_n C 1 dX0_has_4 (q := 5) rfl rfl rfl ?_
    refine g_aload_n C 0 dX0_has_5 (q := 6) rfl rfl rfl ?_
    refine g_get C (k := 3) (i := 0) (by decide) (gc_3 Y _ _) rfl kU_X0 (by decide) kF_X0_24 rfl dX0_has_6 (q := 9) rfl ?_
    have hif := g_if h
    clear h
    refine g_icmp_ge C dX0_has_9 (q := 12) (tgt := 16) rfl (by decide) (fun c => ?_) (fun c => ?_)
    · have h := hif.1 c
      clear hif
      refine g_iconst C (v := 0) dX0_has_16 (q := 17) rfl (by decide) ?_
      obtain rfl := Option.some.inj h
      exact g_zret C (g_bz_lit (by decide)) E dX0_has_17
    · have h := hif.2 c
      clear hif
      refine g_iconst C (v := 1) dX0_has_12 (q := 13) rfl (by decide) ?_
      refine g_goto C dX0_has_13 (tgt := 17) (by decide) ?_
      obtain rfl := Option.some.inj h
      exact g_zret C (g_bz_lit (by decide)) E dX0_has_17
def f_X0_setGone_31 (x3 : Int32) (s0 : Int32) (M : g_M) : Option (Int32 × g_M) :=
  (some (g_u M 3 1 s0)).bind fun M1 => (some (g_u M1 3 3 ((M1.1 3 3) + 1))).bind fun M2 => (if (M2.1 3 1) = x3 then (some (0, M2)) else (some (1, M2)))
set_option maxRecDepth 100000 in
theorem t_X0_setGone_31 {l : Launch} {X : g_X} {Y : g_Y} {p : Int32 × g_M} (C : g_C l (g_rm (0)) RX0 cX0_setGone 4 X Y) (E : g_E (some .boolean) X Y (some (.int p.1)) p.2) (x3 : Int32) (s0 : Int32) (M : g_M) (h : f_X0_setGone_31 x3 s0 M = some p) : g_G 4 X Y 31 [(0, g_r Y 3), (3, .int x3)] [.int s0, g_r Y 3] M := by
  unfold f_X0_setGone_31 at h
  obtain ⟨M1, hM1, h⟩ := g_bind h
  refine g_put C (k := 3) (i := 1) (ty := .int) (by decide) (gc_3 Y _ _) (gp_3_1 Y _ _ _) rfl kU_X0 tyX0_ok nmX0 (by decide) kF_X0_28 rfl rfl rfl rfl (Nat.le_of_ble_eq_true rfl) dX0_setGone_31 (q := 34) rfl ?_
  refine g_mem hM1 ?_
  refine g_aload_n C 0 dX0_setGone_34 (q := 35) rfl rfl rfl ?_
  refine g_dup C dX0_setGone_35 (q := 36) rfl rfl ?_
  refine g_get C (k := 3) (i := 3) (by decide) (gc_3 Y _ _) rfl kU_X0 (by decide) kF_X0_31 rfl dX0_setGone_36 (q := 39) rfl ?_
  refine g_iconst C (v := 1) dX0_setGone_39 (q := 40) rfl (by decide) ?_
  refine g_iadd C dX0_setGone_40 (q := 41) rfl ?_
  obtain ⟨M2, hM2, h⟩ := g_bind h
  refine g_put C (k := 3) (i := 3) (ty := .int) (by decide) (gc_3 Y _ _) (gp_3_3 Y _ _ _) rfl kU_X0 tyX0_ok nmX0 (by decide) kF_X0_31 rfl rfl rfl rfl (Nat.le_of_ble_eq_true rfl) dX0_setGone_41 (q := 44) rfl ?_
  refine g_mem hM2 ?_
  refine g_aload_n C 0 dX0_setGone_44 (q := 45) rfl rfl rfl ?_
  refine g_get C (k := 3) (i := 1) (by decide) (gc_3 Y _ _) rfl kU_X0 (by decide) kF_X0_28 rfl dX0_setGone_45 (q := 48) rfl ?_
  refine g_iload_n C 1 dX0_setGone_48 (q := 49) rfl rfl rfl ?_
  have hif := g_if h
  clear h
  refine g_icmp_eq C dX0_setGone_49 (q := 52) (tgt := 56) rfl (by decide) (fun c => ?_) (fun c => ?_)
  · have h := hif.1 c
    clear hif
    refine g_iconst C (v := 0) dX0_setGone_56 (q := 57) rfl (by decide) ?_
    obtain rfl := Option.some.inj h
    exact g_zret C (g_bz_lit (by decide)) E dX0_setGone_57
  · have h := hif.2 c
    clear hif
    refine g_iconst C (v := 1) dX0_setGone_52 (q := 53) rfl (by decide) ?_
    refine g_goto C dX0_setGone_53 (tgt := 57) (by decide) ?_
    obtain rfl := Option.some.inj h
    exact g_zret C (g_bz_lit (by decide)) E dX0_setGone_57
theorem r_X0_setGone_31 {p : Int32 × g_M} (x3 : Int32) (s0 : Int32) (M : g_M) (h : f_X0_setGone_31 x3 s0 M = some p) : g_fr [] [(3, 1), (3, 3)] M p.2 := by
  unfold f_X0_setGone_31 at h
  have hf := g_fr.rfl (S := []) (T := [(3, 1), (3, 3)]) (M := M)
  obtain ⟨M1, hM1, h⟩ := g_bind h
  have hf := hf.pu hM1 (by decide)
  obtain ⟨M2, hM2, h⟩ := g_bind h
  have hf := hf.pu hM2 (by decide)
  rcases g_ifs h with h | h
  · obtain rfl := Option.some.inj h
    exact hf
  · obtain rfl := Option.some.inj h
    exact hf
def f_X0_setGone (x1 : Int32) (x2 : Int32) (M : g_M) : Option (Int32 × g_M) :=
  (if x2 = 0 then (f_X0_setGone_31 (M.1 3 1) ((M.1 3 1) &&& (((1 : Int32) <<< (x1 &&& 31)) ^^^ (-1))) M) else (f_X0_setGone_31 (M.1 3 1) ((M.1 3 1) ||| ((1 : Int32) <<< (x1 &&& 31))) M))
set_option maxRecDepth 100000 in
theorem m_X0_setGone {l : Launch} {Y : g_Y} {x1 : Int32} {x2 : Int32} {M : g_M} {p : Int32 × g_M} (h : f_X0_setGone x1 x2 M = some p) : g_R l Y (0) yX0_setGone cX0_setGone 4 (some .boolean) [g_r Y 3, .int x1, .int x2] M (some (.int p.1)) p.2 := by
  unfold f_X0_setGone at h
  refine g_R_of kP_X0 rfl (Nat.le_of_ble_eq_true rfl) (fun X C E => ?_)
  show g_G 4 X Y 0 [(0, g_r Y 3), (1, .int x1), (2, .int x2)] [] M
  refine g_aload_n C 0 dX0_setGone_0 (q := 1) rfl rfl rfl ?_
  refine g_get C (k := 3) (i := 1) (by decide) (gc_3 Y _ _) rfl kU_X0 (by decide) kF_X0_28 rfl dX0_setGone_1 (q := 4) rfl ?_
  refine g_istore_n C dX0_setGone_4 (q := 5) rfl rfl (by decide) (lv' := [(3, .int (M.1 3 1)), (0, g_r Y 3), (1, .int x1), (2, .int x2)]) rfl ?_
  refine g_aload_n C 1 dX0_setGone_5 (q := 6) rfl rfl rfl ?_
  refine g_iload_n C 3 dX0_setGone_6 (q := 7) rfl rfl rfl ?_
  have hif := g_if h
  clear h
  refine g_if_eq C dX0_setGone_7 (q := 10) (tgt := 21) rfl (by decide) (fun c => ?_) (fun c => ?_)
  · have h := hif.1 c
    clear hif
    refine g_aload_n C 1 dX0_setGone_21 (q := 22) rfl rfl rfl ?_
    refine g_get C (k := 3) (i := 1) (by decide) (gc_3 Y _ _) rfl kU_X0 (by decide) kF_X0_28 rfl dX0_setGone_22 (q := 25) rfl ?_
    refine g_iconst C (v := 1) dX0_setGone_25 (q := 26) rfl (by decide) ?_
    refine g_iload_n C 2 dX0_setGone_26 (q := 27) rfl rfl rfl ?_
    refine g_ishl C dX0_setGone_27 (q := 28) rfl ?_
    refine g_iconst C (v := (-1)) dX0_setGone_28 (q := 29) rfl (by decide) ?_
    refine g_ixor C dX0_setGone_29 (q := 30) rfl ?_
    refine g_iand C dX0_setGone_30 (q := 31) rfl ?_
    refine g_sub [1, 0] (lv' := [(0, g_r Y 3), (3, .int (M.1 3 1))]) rfl ?_
    exact t_X0_setGone_31 C E (M.1 3 1) ((M.1 3 1) &&& (((1 : Int32) <<< (x1 &&& 31)) ^^^ (-1))) M h
  · have h := hif.2 c
    clear hif
    refine g_aload_n C 1 dX0_setGone_10 (q := 11) rfl rfl rfl ?_
    refine g_get C (k := 3) (i := 1) (by decide) (gc_3 Y _ _) rfl kU_X0 (by decide) kF_X0_28 rfl dX0_setGone_11 (q := 14) rfl ?_
    refine g_iconst C (v := 1) dX0_setGone_14 (q := 15) rfl (by decide) ?_
    refine g_iload_n C 2 dX0_setGone_15 (q := 16) rfl rfl rfl ?_
    refine g_ishl C dX0_setGone_16 (q := 17) rfl ?_
    refine g_ior C dX0_setGone_17 (q := 18) rfl ?_
    refine g_goto C dX0_setGone_18 (tgt := 31) (by decide) ?_
    refine g_sub [1, 0] (lv' := [(0, g_r Y 3), (3, .int (M.1 3 1))]) rfl ?_
    exact t_X0_setGone_31 C E (M.1 3 1) ((M.1 3 1) ||| ((1 : Int32) <<< (x1 &&& 31))) M h
theorem r_X0_setGone {x1 : Int32} {x2 : Int32} {M : g_M} {p : Int32 × g_M} (h : f_X0_setGone x1 x2 M = some p) : g_fr [] [(3, 1), (3, 3)] M p.2 := by
  unfold f_X0_setGone at h
  have hf := g_fr.rfl (S := []) (T := [(3, 1), (3, 3)]) (M := M)
  rcases g_ifs h with h | h
  · exact hf.trans (r_X0_setGone_31 (M.1 3 1) ((M.1 3 1) &&& (((1 : Int32) <<< (x1 &&& 31)) ^^^ (-1))) M h)
  · exact hf.trans (r_X0_setGone_31 (M.1 3 1) ((M.1 3 1) ||| ((1 : Int32) <<< (x1 &&& 31))) M h)
def F_X8_add_4 (k43 : g_M → Option (Int32 × g_M)) (k : Int32 → Int32 → g_M → Option (Int32 × g_M)) (x1 : Int32) (x3 : Int32) (M : g_M) : Option (Int32 × g_M) :=
  (if x3 < 0 then (k43 M) else ((g_st M 34 120 (M.1 33 1) (((Int32.toUInt32 x1 >>> (Int32.toUInt32 (8 * x3) &&& Int32.toUInt32 31)).toInt32) &&& 255)).bind fun M1 => (some (g_u M1 33 1 ((M1.1 33 1) + 1))).bind fun M2 => k x1 (x3 + (-1)) M2))
set_option maxRecDepth 100000 in
theorem t_X8_add_4 {l : Launch} {X : g_X} {Y : g_Y} {p : Int32 × g_M} {k43 : g_M → Option (Int32 × g_M)} (C : g_C l (g_rm (0)) RX8 cX8_add 4 X Y) (E : g_E (some .int) X Y (some (.int p.1)) p.2) (hk43 : ∀ (M : g_M), k43 M = some p → g_G 4 X Y 43 [(0, g_r Y 33)] [] M) (n : Nat) : ∀ (x1 : Int32) (x3 : Int32) (M : g_M), g_lp2 (F_X8_add_4 k43) n x1 x3 M = some p → g_G 4 X Y 4 [(0, g_r Y 33), (1, .int x1), (3, .int x3)] [] M := by
  induction n with
  | zero => intro x1 x3 M h; exact (g_nn h).elim
  | succ n ih =>
    intro x1 x3 M h
    have h : F_X8_add_4 k43 (g_lp2 (F_X8_add_4 k43) n) x1 x3 M = some p := h
    generalize g_lp2 (F_X8_add_4 k43) n = k at h ih
    unfold F_X8_add_4 at h
    refine g_iload_n C 2 dX8_add_4 (q := 5) rfl rfl rfl ?_
    have hif := g_if h
    clear h
    refine g_if_lt C dX8_add_5 (q := 8) (tgt := 43) rfl (by decide) (fun c => ?_) (fun c => ?_)
    · have h := hif.1 c
      clear hif
      refine g_sub [0] (lv' := [(0, g_r Y 33)]) rfl ?_
      exact hk43 M h
    · have h := hif.2 c
      clear hif
      refine g_aload_n C 0 dX8_add_8 (q := 9) rfl rfl rfl ?_
      refine g_get C (k := 33) (i := 0) (by decide) (gc_33 Y _ _) rfl kU_X8 (by decide) kF_X8_9 rfl dX8_add_9 (q := 12) rfl ?_
      refine g_aload_n C 0 dX8_add_12 (q := 13) rfl rfl rfl ?_
      refine g_get C (k := 33) (i := 1) (by decide) (gc_33 Y _ _) rfl kU_X8 (by decide) kF_X8_15 rfl dX8_add_13 (q := 16) rfl ?_
      refine g_iload_n C 1 dX8_add_16 (q := 17) rfl rfl rfl ?_
      refine g_bipush C (v := 8) dX8_add_17 (q := 19) rfl (by decide) ?_
      refine g_iload_n C 2 dX8_add_19 (q := 20) rfl rfl rfl ?_
      refine g_imul C dX8_add_20 (q := 21) rfl ?_
      refine g_iushr C dX8_add_21 (q := 22) rfl ?_
      refine g_sipush C (v := 255) dX8_add_22 (q := 25) rfl (by decide) ?_
      refine g_iand C dX8_add_25 (q := 26) rfl ?_
      obtain ⟨M1, hM1, h⟩ := g_bind h
      refine g_iast C (k := 34) (n := 120) (by decide) (fun a => gc_34 Y a _) hM1 dX8_add_26 (q := 27) rfl ?_
      refine g_aload_n C 0 dX8_add_27 (q := 28) rfl rfl rfl ?_
      refine g_dup C dX8_add_28 (q := 29) rfl rfl ?_
      refine g_get C (k := 33) (i := 1) (by decide) (gc_33 Y _ _) rfl kU_X8 (by decide) kF_X8_15 rfl dX8_add_29 (q := 32) rfl ?_
      refine g_iconst C (v := 1) dX8_add_32 (q := 33) rfl (by decide) ?_
      refine g_iadd C dX8_add_33 (q := 34) rfl ?_
      obtain ⟨M2, hM2, h⟩ := g_bind h
      refine g_put C (k := 33) (i := 1) (ty := .int) (by decide) (gc_33 Y _ _) (gp_33_1 Y _ _ _) rfl kU_X8 tyX8_ok nmX8 (by decide) kF_X8_15 rfl rfl rfl rfl (Nat.le_of_ble_eq_true rfl) dX8_add_34 (q := 37) rfl ?_
      refine g_mem hM2 ?_
      refine g_iinc C (k := 2) (v := x3 + (-1)) dX8_add_37 (q := 40) rfl rfl rfl (by decide) (lv' := [(3, .int (x3 + (-1))), (0, g_r Y 33), (1, .int x1)]) rfl ?_
      refine g_goto C dX8_add_40 (tgt := 4) (by decide) ?_
      refine g_sub [1, 2, 0] (lv' := [(0, g_r Y 33), (1, .int x1), (3, .int (x3 + (-1)))]) rfl ?_
      exact ih x1 (x3 + (-1)) M2 h
theorem r_X8_add_4 {p : Int32 × g_M} {k43 : g_M → Option (Int32 × g_M)} (hk43 : ∀ (M : g_M), k43 M = some p → g_fr [34] [(33, 1)] M p.2) (n : Nat) : ∀ (x1 : Int32) (x3 : Int32) (M : g_M), g_lp2 (F_X8_add_4 k43) n x1 x3 M = some p → g_fr [34] [(33, 1)] M p.2 := by
  induction n with
  | zero => intro x1 x3 M h; exact (g_nn h).elim
  | succ n ih =>
    intro x1 x3 M h
    have h : F_X8_add_4 k43 (g_lp2 (F_X8_add_4 k43) n) x1 x3 M = some p := h
    generalize g_lp2 (F_X8_add_4 k43) n = k at h ih
    unfold F_X8_add_4 at h
    have hf := g_fr.rfl (S := [34]) (T := [(33, 1)]) (M := M)
    rcases g_ifs h with h | h
    · exact hf.trans (hk43 M h)
    · obtain ⟨M1, hM1, h⟩ := g_bind h
      have hf := hf.st hM1 (by decide)
      obtain ⟨M2, hM2, h⟩ := g_bind h
      have hf := hf.pu hM2 (by decide)
      exact hf.trans (ih x1 (x3 + (-1)) M2 h)
def f_X8_add (x1 : Int32) (x2 : Int32) (M : g_M) : Option (Int32 × g_M) :=
  g_lp2 (F_X8_add_4 (fun (M : g_M) => some (M.1 33 1, M))) 20000000 x1 (x2 - 1) M
set_option maxRecDepth 100000 in
theorem m_X8_add {l : Launch} {Y : g_Y} {x1 : Int32} {x2 : Int32} {M : g_M} {p : Int32 × g_M} (h : f_X8_add x1 x2 M = some p) : g_R l Y (0) yX8_add cX8_add 4 (some .int) [g_r Y 33, .int x1, .int x2] M (some (.int p.1)) p.2 := by
  unfold f_X8_add at h
  refine g_R_of kP_X8 rfl (Nat.le_of_ble_eq_true rfl) (fun X C E => ?_)
  show g_G 4 X Y 0 [(0, g_r Y 33), (1, .int x1), (2, .int x2)] [] M
  refine g_iload_n C 2 dX8_add_0 (q := 1) rfl rfl rfl ?_
  refine g_iconst C (v := 1) dX8_add_1 (q := 2) rfl (by decide) ?_
  refine g_isub C dX8_add_2 (q := 3) rfl ?_
  refine g_istore_n C dX8_add_3 (q := 4) rfl rfl (by decide) (lv' := [(3, .int (x2 - 1)), (0, g_r Y 33), (1, .int x1), (2, .int x2)]) rfl ?_
  refine g_sub [1, 2, 0] (lv' := [(0, g_r Y 33), (1, .int x1), (3, .int (x2 - 1))]) rfl ?_
  refine t_X8_add_4 C E ?_ 20000000 x1 (x2 - 1) M h
  · intro M h
    try dsimp only at h
    refine g_aload_n C 0 dX8_add_43 (q := 44) rfl rfl rfl ?_
    refine g_get C (k := 33) (i := 1) (by decide) (gc_33 Y _ _) rfl kU_X8 (by decide) kF_X8_15 rfl dX8_add_44 (q := 47) rfl ?_
    obtain rfl := Option.some.inj h
    exact g_iret C E dX8_add_47
theorem r_X8_add {x1 : Int32} {x2 : Int32} {M : g_M} {p : Int32 × g_M} (h : f_X8_add x1 x2 M = some p) : g_fr [34] [(33, 1)] M p.2 := by
  unfold f_X8_add at h
  have hf := g_fr.rfl (S := [34]) (T := [(33, 1)]) (M := M)
  refine hf.trans (r_X8_add_4 ?_ 20000000 x1 (x2 - 1) M h)
  · intro M h
    try dsimp only at h
    have hf := g_fr.rfl (S := [34]) (T := [(33, 1)]) (M := M)
    obtain rfl := Option.some.inj h
    exact hf
def f_X8_clear (M : g_M) : Option (Int32 × g_M) :=
  (some (g_u M 33 1 0)).bind fun M1 => some (M.1 33 1, M1)
set_option maxRecDepth 100000 in
theorem m_X8_clear {l : Launch} {Y : g_Y} {M : g_M} {p : Int32 × g_M} (h : f_X8_clear M = some p) : g_R l Y (0) yX8_clear cX8_clear 2 (some .int) [g_r Y 33] M (some (.int p.1)) p.2 := by
  unfold f_X8_clear at h
  refine g_R_of kP_X8 rfl (Nat.le_of_ble_eq_true rfl) (fun X C E => ?_)
  show g_G 2 X Y 0 [(0, g_r Y 33)] [] M
  refine g_aload_n C 0 dX8_clear_0 (q := 1) rfl rfl rfl ?_
  refine g_get C (k := 33) (i := 1) (by decide) (gc_33 Y _ _) rfl kU_X8 (by decide) kF_X8_15 rfl dX8_clear_1 (q := 4) rfl ?_
  refine g_istore_n C dX8_clear_4 (q := 5) rfl rfl (by decide) (lv' := [(1, .int (M.1 33 1)), (0, g_r Y 33)]) rfl ?_
  refine g_aload_n C 1 dX8_clear_5 (q := 6) rfl rfl rfl ?_
  refine g_iconst C (v := 0) dX8_clear_6 (q := 7) rfl (by decide) ?_
  obtain ⟨M1, hM1, h⟩ := g_bind h
  refine g_put C (k := 33) (i := 1) (ty := .int) (by decide) (gc_33 Y _ _) (gp_33_1 Y _ _ _) rfl kU_X8 tyX8_ok nmX8 (by decide) kF_X8_15 rfl rfl rfl rfl (Nat.le_of_ble_eq_true rfl) dX8_clear_7 (q := 10) rfl ?_
  refine g_mem hM1 ?_
  refine g_iload_n C 0 dX8_clear_10 (q := 11) rfl rfl rfl ?_
  obtain rfl := Option.some.inj h
  exact g_iret C E dX8_clear_11
theorem r_X8_clear {M : g_M} {p : Int32 × g_M} (h : f_X8_clear M = some p) : g_fr [] [(33, 1)] M p.2 := by
  unfold f_X8_clear at h
  have hf := g_fr.rfl (S := []) (T := [(33, 1)]) (M := M)
  obtain ⟨M1, hM1, h⟩ := g_bind h
  have hf := hf.pu hM1 (by decide)
  obtain rfl := Option.some.inj h
  exact hf
def f_X10_add_13_35_41 (M : g_M) : Option (Int32 × g_M) :=
  (some (g_u M 13 2 ((M.1 13 2) + 1))).bind fun M4 => (some (g_u M4 13 0 ((M4.1 13 0) + 1))).bind fun M5 => some (M4.1 13 0, M5)
set_option maxRecDepth 100000 in
theorem t_X10_add_13_35_41 {l : Launch} {X : g_X} {Y : g_Y} {p : Int32 × g_M} (C : g_C l (g_rm (1)) RX10 cX10_add 3 X Y) (E : g_E (some .int) X Y (some (.int p.1)) p.2) (M : g_M) (h : f_X10_add_13_35_41 M = some p) : g_G 3 X Y 41 [(0, g_r Y 13)] [] M := by
  unfold f_X10_add_13_35_41 at h
  refine g_aload_n C 0 dX10_add_41 (q := 42) rfl rfl rfl ?_
  refine g_dup C dX10_add_42 (q := 43) rfl rfl ?_
  refine g_get C (k := 13) (i := 2) (by decide) (gc_13 Y _ _) rfl kU_X10 (by decide) kF_X10_33 rfl dX10_add_43 (q := 46) rfl ?_
  refine g_iconst C (v := 1) dX10_add_46 (q := 47) rfl (by decide) ?_
  refine g_iadd C dX10_add_47 (q := 48) rfl ?_
  obtain ⟨M4, hM4, h⟩ := g_bind h
  refine g_put C (k := 13) (i := 2) (ty := .int) (by decide) (gc_13 Y _ _) (gp_13_2 Y _ _ _) rfl kU_X10 tyX10_ok nmX10 (by decide) kF_X10_33 rfl rfl rfl rfl (Nat.le_of_ble_eq_true rfl) dX10_add_48 (q := 51) rfl ?_
  refine g_mem hM4 ?_
  refine g_aload_n C 0 dX10_add_51 (q := 52) rfl rfl rfl ?_
  refine g_dup C dX10_add_52 (q := 53) rfl rfl ?_
  refine g_get C (k := 13) (i := 0) (by decide) (gc_13 Y _ _) rfl kU_X10 (by decide) kF_X10_24 rfl dX10_add_53 (q := 56) rfl ?_
  refine g_dup_x1 C dX10_add_56 (q := 57) rfl rfl rfl ?_
  refine g_iconst C (v := 1) dX10_add_57 (q := 58) rfl (by decide) ?_
  refine g_iadd C dX10_add_58 (q := 59) rfl ?_
  obtain ⟨M5, hM5, h⟩ := g_bind h
  refine g_put C (k := 13) (i := 0) (ty := .int) (by decide) (gc_13 Y _ _) (gp_13_0 Y _ _ _) rfl kU_X10 tyX10_ok nmX10 (by decide) kF_X10_24 rfl rfl rfl rfl (Nat.le_of_ble_eq_true rfl) dX10_add_59 (q := 62) rfl ?_
  refine g_mem hM5 ?_
  obtain rfl := Option.some.inj h
  exact g_iret C E dX10_add_62
theorem r_X10_add_13_35_41 {p : Int32 × g_M} (M : g_M) (h : f_X10_add_13_35_41 M = some p) : g_fr [14, 16, 17, 18, 19, 20, 21, 22, 23] [(13, 0), (13, 1), (13, 2)] M p.2 := by
  unfold f_X10_add_13_35_41 at h
  have hf := g_fr.rfl (S := [14, 16, 17, 18, 19, 20, 21, 22, 23]) (T := [(13, 0), (13, 1), (13, 2)]) (M := M)
  obtain ⟨M4, hM4, h⟩ := g_bind h
  have hf := hf.pu hM4 (by decide)
  obtain ⟨M5, hM5, h⟩ := g_bind h
  have hf := hf.pu hM5 (by decide)
  obtain rfl := Option.some.inj h
  exact hf
def f_X10_add_13_35 (x2 : Int32) (M : g_M) : Option (Int32 × g_M) :=
  (g_in 8 (M.1 13 0)).bind fun j1 => (g_cpi M 35 120 (16 + j1) 120 0 0 x2).bind fun M2 => (g_st M2 14 8 (M2.1 13 0) x2).bind fun M3 => (if 0 ≤ (M3.1 13 1) then (f_X10_add_13_35_41 M3) else ((some (g_u M3 13 1 (M3.1 13 0))).bind fun M6 => f_X10_add_13_35_41 M6))
set_option maxRecDepth 100000 in
theorem m_X10_add_13_35 {l : Launch} {Y : g_Y} {x2 : Int32} {M : g_M} {p : Int32 × g_M} (h : f_X10_add_13_35 x2 M = some p) : g_R l Y (1) yX10_add cX10_add 3 (some .int) [g_r Y 13, g_r Y 35, .int x2] M (some (.int p.1)) p.2 := by
  unfold f_X10_add_13_35 at h
  refine g_R_of kP_X10 rfl (Nat.le_of_ble_eq_true rfl) (fun X C E => ?_)
  show g_G 3 X Y 0 [(0, g_r Y 13), (1, g_r Y 35), (2, .int x2)] [] M
  refine g_aload_n C 1 dX10_add_0 (q := 1) rfl rfl rfl ?_
  refine g_iconst C (v := 0) dX10_add_1 (q := 2) rfl (by decide) ?_
  refine g_aload_n C 0 dX10_add_2 (q := 3) rfl rfl rfl ?_
  refine g_get C (k := 13) (i := 4) (by decide) (gc_13 Y _ _) rfl kU_X10 (by decide) kF_X10_21 rfl dX10_add_3 (q := 6) rfl ?_
  refine g_aload_n C 0 dX10_add_6 (q := 7) rfl rfl rfl ?_
  refine g_get C (k := 13) (i := 0) (by decide) (gc_13 Y _ _) rfl kU_X10 (by decide) kF_X10_24 rfl dX10_add_7 (q := 10) rfl ?_
  obtain ⟨j1, qj1, h⟩ := g_bind h
  have hj1 := (g_in_s qj1).2.2
  refine g_aldA C (k := 15) (n := 8) (b := 16) (by decide) (gc_15 Y _ _) qj1 dX10_add_10 (q := 11) rfl ?_
  refine g_iconst C (v := 0) dX10_add_11 (q := 12) rfl (by decide) ?_
  refine g_iload_n C 2 dX10_add_12 (q := 13) rfl rfl rfl ?_
  obtain ⟨M2, hM2, h⟩ := g_bind h
  refine g_cpyi C (k := 35) (n := 120) (k2 := (16 + j1)) (n2 := 120) (by decide) (gc_35 Y _ _) (by omega) (fun a => gc_codes Y a _ hj1) hM2 kX_X10_27 (by decide) (by decide) dX10_add_13 (q := 16) rfl ?_
  refine g_aload_n C 0 dX10_add_16 (q := 17) rfl rfl rfl ?_
  refine g_get C (k := 13) (i := 3) (by decide) (gc_13 Y _ _) rfl kU_X10 (by decide) kF_X10_15 rfl dX10_add_17 (q := 20) rfl ?_
  refine g_aload_n C 0 dX10_add_20 (q := 21) rfl rfl rfl ?_
  refine g_get C (k := 13) (i := 0) (by decide) (gc_13 Y _ _) rfl kU_X10 (by decide) kF_X10_24 rfl dX10_add_21 (q := 24) rfl ?_
  refine g_iload_n C 2 dX10_add_24 (q := 25) rfl rfl rfl ?_
  obtain ⟨M3, hM3, h⟩ := g_bind h
  refine g_iast C (k := 14) (n := 8) (by decide) (fun a => gc_14 Y a _) hM3 dX10_add_25 (q := 26) rfl ?_
  refine g_aload_n C 0 dX10_add_26 (q := 27) rfl rfl rfl ?_
  refine g_get C (k := 13) (i := 1) (by decide) (gc_13 Y _ _) rfl kU_X10 (by decide) kF_X10_9 rfl dX10_add_27 (q := 30) rfl ?_
  have hif := g_if h
  clear h
  refine g_if_ge C dX10_add_30 (q := 33) (tgt := 41) rfl (by decide) (fun c => ?_) (fun c => ?_)
  · have h := hif.1 c
    clear hif
    refine g_sub [0] (lv' := [(0, g_r Y 13)]) rfl ?_
    exact t_X10_add_13_35_41 C E M3 h
  · have h := hif.2 c
    clear hif
    refine g_aload_n C 0 dX10_add_33 (q := 34) rfl rfl rfl ?_
    refine g_aload_n C 0 dX10_add_34 (q := 35) rfl rfl rfl ?_
    refine g_get C (k := 13) (i := 0) (by decide) (gc_13 Y _ _) rfl kU_X10 (by decide) kF_X10_24 rfl dX10_add_35 (q := 38) rfl ?_
    obtain ⟨M6, hM6, h⟩ := g_bind h
    refine g_put C (k := 13) (i := 1) (ty := .int) (by decide) (gc_13 Y _ _) (gp_13_1 Y _ _ _) rfl kU_X10 tyX10_ok nmX10 (by decide) kF_X10_9 rfl rfl rfl rfl (Nat.le_of_ble_eq_true rfl) dX10_add_38 (q := 41) rfl ?_
    refine g_mem hM6 ?_
    refine g_sub [0] (lv' := [(0, g_r Y 13)]) rfl ?_
    exact t_X10_add_13_35_41 C E M6 h
theorem r_X10_add_13_35 {x2 : Int32} {M : g_M} {p : Int32 × g_M} (h : f_X10_add_13_35 x2 M = some p) : g_fr [14, 16, 17, 18, 19, 20, 21, 22, 23] [(13, 0), (13, 1), (13, 2)] M p.2 := by
  unfold f_X10_add_13_35 at h
  have hf := g_fr.rfl (S := [14, 16, 17, 18, 19, 20, 21, 22, 23]) (T := [(13, 0), (13, 1), (13, 2)]) (M := M)
  obtain ⟨j1, qj1, h⟩ := g_bind h
  have hj1 := (g_in_s qj1).2.2
  obtain ⟨M2, hM2, h⟩ := g_bind h
  have hf := hf.cpi hM2 ((by decide : ∀ z : Nat, z < 8 → (16 + z) ∈ [14, 16, 17, 18, 19, 20, 21, 22, 23]) _ hj1)
  obtain ⟨M3, hM3, h⟩ := g_bind h
  have hf := hf.st hM3 (by decide)
  rcases g_ifs h with h | h
  · exact hf.trans (r_X10_add_13_35_41 M3 h)
  · obtain ⟨M6, hM6, h⟩ := g_bind h
    have hf := hf.pu hM6 (by decide)
    exact hf.trans (r_X10_add_13_35_41 M6 h)
def f_X10_has (x1 : Int32) (M : g_M) : Option (Int32) :=
  (if x1 < 0 then (some 0) else ((if (M.1 13 0) ≤ x1 then (some 0) else (some 1))))
set_option maxRecDepth 100000 in
theorem m_X10_has {l : Launch} {Y : g_Y} {x1 : Int32} {M : g_M} {p : Int32} (h : f_X10_has x1 M = some p) : g_R l Y (0) yX10_has cX10_has 2 (some .boolean) [g_r Y 13, .int x1] M (some (.int p)) M := by
  unfold f_X10_has at h
  refine g_R_of kP_X10 rfl (Nat.le_of_ble_eq_true rfl) (fun X C E => ?_)
  show g_G 2 X Y 0 [(0, g_r Y 13), (1, .int x1)] [] M
  refine g_iload_n C 1 dX10_has_0 (q := 1) rfl rfl rfl ?_
  have hif := g_if h
  clear h
  refine g_if_lt C dX10_has_1 (q := 4) (tgt := 16) rfl (by decide) (fun c => ?_) (fun c => ?_)
  · have h := hif.1 c
    clear hif
    refine g_iconst C (v := 0) dX10_has_16 (q := 17) rfl (by decide) ?_
    obtain rfl := Option.some.inj h
    exact g_zret C (g_bz_lit (by decide)) E dX10_has_17
  · have h := hif.2 c
    clear hif
    refine g_iload_n C 1 dX10_has_4 (q := 5) rfl rfl rfl ?_
    refine g_aload_n C 0 dX10_has_5 (q := 6) rfl rfl rfl ?_
    refine g_get C (k := 13) (i := 0) (by decide) (gc_13 Y _ _) rfl kU_X10 (by decide) kF_X10_24 rfl dX10_has_6 (q := 9) rfl ?_
    have hif := g_if h
    clear h
    refine g_icmp_ge C dX10_has_9 (q := 12) (tgt := 16) rfl (by decide) (fun c => ?_) (fun c => ?_)
    · have h := hif.1 c
      clear hif
      refine g_iconst C (v := 0) dX10_has_16 (q := 17) rfl (by decide) ?_
      obtain rfl := Option.some.inj h
      exact g_zret C (g_bz_lit (by decide)) E dX10_has_17
    · have h := hif.2 c
      clear hif
      refine g_iconst C (v := 1) dX10_has_12 (q := 13) rfl (by decide) ?_
      refine g_goto C dX10_has_13 (tgt := 17) (by decide) ?_
      obtain rfl := Option.some.inj h
      exact g_zret C (g_bz_lit (by decide)) E dX10_has_17
def f_X10_setUsed (x1 : Int32) (M : g_M) : Option (Int32 × g_M) :=
  (some (g_u M 13 1 x1)).bind fun M1 => (some (g_u M1 13 2 ((M1.1 13 2) + 1))).bind fun M2 => some (M.1 13 1, M2)
set_option maxRecDepth 100000 in
theorem m_X10_setUsed {l : Launch} {Y : g_Y} {x1 : Int32} {M : g_M} {p : Int32 × g_M} (h : f_X10_setUsed x1 M = some p) : g_R l Y (0) yX10_setUsed cX10_setUsed 3 (some .int) [g_r Y 13, .int x1] M (some (.int p.1)) p.2 := by
  unfold f_X10_setUsed at h
  refine g_R_of kP_X10 rfl (Nat.le_of_ble_eq_true rfl) (fun X C E => ?_)
  show g_G 3 X Y 0 [(0, g_r Y 13), (1, .int x1)] [] M
  refine g_aload_n C 0 dX10_setUsed_0 (q := 1) rfl rfl rfl ?_
  refine g_get C (k := 13) (i := 1) (by decide) (gc_13 Y _ _) rfl kU_X10 (by decide) kF_X10_9 rfl dX10_setUsed_1 (q := 4) rfl ?_
  refine g_istore_n C dX10_setUsed_4 (q := 5) rfl rfl (by decide) (lv' := [(2, .int (M.1 13 1)), (0, g_r Y 13), (1, .int x1)]) rfl ?_
  refine g_aload_n C 1 dX10_setUsed_5 (q := 6) rfl rfl rfl ?_
  refine g_iload_n C 2 dX10_setUsed_6 (q := 7) rfl rfl rfl ?_
  obtain ⟨M1, hM1, h⟩ := g_bind h
  refine g_put C (k := 13) (i := 1) (ty := .int) (by decide) (gc_13 Y _ _) (gp_13_1 Y _ _ _) rfl kU_X10 tyX10_ok nmX10 (by decide) kF_X10_9 rfl rfl rfl rfl (Nat.le_of_ble_eq_true rfl) dX10_setUsed_7 (q := 10) rfl ?_
  refine g_mem hM1 ?_
  refine g_aload_n C 1 dX10_setUsed_10 (q := 11) rfl rfl rfl ?_
  refine g_dup C dX10_setUsed_11 (q := 12) rfl rfl ?_
  refine g_get C (k := 13) (i := 2) (by decide) (gc_13 Y _ _) rfl kU_X10 (by decide) kF_X10_33 rfl dX10_setUsed_12 (q := 15) rfl ?_
  refine g_iconst C (v := 1) dX10_setUsed_15 (q := 16) rfl (by decide) ?_
  refine g_iadd C dX10_setUsed_16 (q := 17) rfl ?_
  obtain ⟨M2, hM2, h⟩ := g_bind h
  refine g_put C (k := 13) (i := 2) (ty := .int) (by decide) (gc_13 Y _ _) (gp_13_2 Y _ _ _) rfl kU_X10 tyX10_ok nmX10 (by decide) kF_X10_33 rfl rfl rfl rfl (Nat.le_of_ble_eq_true rfl) dX10_setUsed_17 (q := 20) rfl ?_
  refine g_mem hM2 ?_
  refine g_iload_n C 0 dX10_setUsed_20 (q := 21) rfl rfl rfl ?_
  obtain rfl := Option.some.inj h
  exact g_iret C E dX10_setUsed_21
theorem r_X10_setUsed {x1 : Int32} {M : g_M} {p : Int32 × g_M} (h : f_X10_setUsed x1 M = some p) : g_fr [] [(13, 1), (13, 2)] M p.2 := by
  unfold f_X10_setUsed at h
  have hf := g_fr.rfl (S := []) (T := [(13, 1), (13, 2)]) (M := M)
  obtain ⟨M1, hM1, h⟩ := g_bind h
  have hf := hf.pu hM1 (by decide)
  obtain ⟨M2, hM2, h⟩ := g_bind h
  have hf := hf.pu hM2 (by decide)
  obtain rfl := Option.some.inj h
  exact hf
def f_X0_present (M : g_M) : Option (Int32) :=
  some ((((1 : Int32) <<< ((M.1 3 0) &&& 31)) - 1) &&& ((M.1 3 1) ^^^ (-1)))
set_option maxRecDepth 100000 in
theorem m_X0_present {l : Launch} {Y : g_Y} {M : g_M} {p : Int32} (h : f_X0_present M = some p) : g_R l Y (0) yX0_present cX0_present 1 (some .int) [g_r Y 3] M (some (.int p)) M := by
  unfold f_X0_present at h
  refine g_R_of kP_X0 rfl (Nat.le_of_ble_eq_true rfl) (fun X C E => ?_)
  show g_G 1 X Y 0 [(0, g_r Y 3)] [] M
  refine g_iconst C (v := 1) dX0_present_0 (q := 1) rfl (by decide) ?_
  refine g_aload_n C 0 dX0_present_1 (q := 2) rfl rfl rfl ?_
  refine g_get C (k := 3) (i := 0) (by decide) (gc_3 Y _ _) rfl kU_X0 (by decide) kF_X0_24 rfl dX0_present_2 (q := 5) rfl ?_
  refine g_ishl C dX0_present_5 (q := 6) rfl ?_
  refine g_iconst C (v := 1) dX0_present_6 (q := 7) rfl (by decide) ?_
  refine g_isub C dX0_present_7 (q := 8) rfl ?_
  refine g_aload_n C 0 dX0_present_8 (q := 9) rfl rfl rfl ?_
  refine g_get C (k := 3) (i := 1) (by decide) (gc_3 Y _ _) rfl kU_X0 (by decide) kF_X0_28 rfl dX0_present_9 (q := 12) rfl ?_
  refine g_iconst C (v := (-1)) dX0_present_12 (q := 13) rfl (by decide) ?_
  refine g_ixor C dX0_present_13 (q := 14) rfl ?_
  refine g_iand C dX0_present_14 (q := 15) rfl ?_
  obtain rfl := Option.some.inj h
  exact g_iret C E dX0_present_15
def f_X10_partHolds (x0 : Int32) (x1 : Int32) (x2 : Int32) (x3 : Int32) (M : g_M) : Option (Int32) :=
  (if x0 = 0 then ((f_J6_bitCount_0f7a4 (x2 &&& x3) M).bind fun p1 => (if p1 < x1 then (some 0) else (some 1))) else (if x0 = 1 then ((if (x3 &&& (x2 ^^^ (-1))) = 0 then (some 1) else (some 0))) else (if (x2 &&& x3) = 0 then (some 0) else (some 1))))
set_option maxRecDepth 100000 in
theorem m_X10_partHolds {l : Launch} {Y : g_Y} {x0 : Int32} {x1 : Int32} {x2 : Int32} {x3 : Int32} {M : g_M} {p : Int32} (h : f_X10_partHolds x0 x1 x2 x3 M = some p) : g_R l Y (1) yX10_partHolds cX10_partHolds 4 (some .boolean) [.int x0, .int x1, .int x2, .int x3] M (some (.int p)) M := by
  unfold f_X10_partHolds at h
  refine g_R_of kP_X10 rfl (Nat.le_of_ble_eq_true rfl) (fun X C E => ?_)
  show g_G 4 X Y 0 [(0, .int x0), (1, .int x1), (2, .int x2), (3, .int x3)] [] M
  refine g_iload_n C 0 dX10_partHolds_0 (q := 1) rfl rfl rfl ?_
  by_cases e : x0 = 0
  · rw [if_pos e] at h
    refine g_look C (off := 27) (tgt := 28) dX10_partHolds_1 (by decide) (by rw [e]; decide) (by decide) ?_
    refine g_iload_n C 2 dX10_partHolds_28 (q := 29) rfl rfl rfl ?_
    refine g_iload_n C 3 dX10_partHolds_29 (q := 30) rfl rfl rfl ?_
    refine g_iand C dX10_partHolds_30 (q := 31) rfl ?_
    obtain ⟨p1, hp1, h⟩ := g_bind h
    refine g_callS C (as := [.int (x2 &&& x3)]) (st := []) (m_J6_bitCount_0f7a4 hp1) (g_hR (by decide)) (by decide) kM_X10_50 kT_J6_bitCount_0f7a4 kN_J6 kC_J6_bitCount_0f7a4 kD_J6_bitCount_0f7a4 rfl (Nat.le_of_ble_eq_true rfl) dX10_partHolds_31 (q := 34) rfl ?_
    show g_G 4 X Y 34 [(0, .int x0), (1, .int x1), (2, .int x2), (3, .int x3)] [.int p1] M
    refine g_iload_n C 1 dX10_partHolds_34 (q := 35) rfl rfl rfl ?_
    have hif := g_if h
    clear h
    refine g_icmp_lt C dX10_partHolds_35 (q := 38) (tgt := 42) rfl (by decide) (fun c => ?_) (fun c => ?_)
    · have h := hif.1 c
      clear hif
      refine g_iconst C (v := 0) dX10_partHolds_42 (q := 43) rfl (by decide) ?_
      obtain rfl := Option.some.inj h
      exact g_zret C (g_bz_lit (by decide)) E dX10_partHolds_43
    · have h := hif.2 c
      clear hif
      refine g_iconst C (v := 1) dX10_partHolds_38 (q := 39) rfl (by decide) ?_
      refine g_goto C dX10_partHolds_39 (tgt := 43) (by decide) ?_
      obtain rfl := Option.some.inj h
      exact g_zret C (g_bz_lit (by decide)) E dX10_partHolds_43
  rw [if_neg e] at h
  have n0 := g_toI (n := 0) (v := 0) (by decide) e
  by_cases e : x0 = 1
  · rw [if_pos e] at h
    refine g_look C (off := 43) (tgt := 44) dX10_partHolds_1 (by decide) (by rw [e]; decide) (by decide) ?_
    refine g_iload_n C 3 dX10_partHolds_44 (q := 45) rfl rfl rfl ?_
    refine g_iload_n C 2 dX10_partHolds_45 (q := 46) rfl rfl rfl ?_
    refine g_iconst C (v := (-1)) dX10_partHolds_46 (q := 47) rfl (by decide) ?_
    refine g_ixor C dX10_partHolds_47 (q := 48) rfl ?_
    refine g_iand C dX10_partHolds_48 (q := 49) rfl ?_
    have hif := g_if h
    clear h
    refine g_if_ne C dX10_partHolds_49 (q := 52) (tgt := 56) rfl (by decide) (fun c => ?_) (fun c => ?_)
    · have h := hif.2 c
      clear hif
      refine g_iconst C (v := 0) dX10_partHolds_56 (q := 57) rfl (by decide) ?_
      obtain rfl := Option.some.inj h
      exact g_zret C (g_bz_lit (by decide)) E dX10_partHolds_57
    · have h := hif.1 c
      clear hif
      refine g_iconst C (v := 1) dX10_partHolds_52 (q := 53) rfl (by decide) ?_
      refine g_goto C dX10_partHolds_53 (tgt := 57) (by decide) ?_
      obtain rfl := Option.some.inj h
      exact g_zret C (g_bz_lit (by decide)) E dX10_partHolds_57
  rw [if_neg e] at h
  have n1 := g_toI (n := 1) (v := 1) (by decide) e
  have hdef : g_G 4 X Y 58 [(0, .int x0), (1, .int x1), (2, .int x2), (3, .int x3)] [] M := by
    refine g_iload_n C 2 dX10_partHolds_58 (q := 59) rfl rfl rfl ?_
    refine g_iload_n C 3 dX10_partHolds_59 (q := 60) rfl rfl rfl ?_
    refine g_iand C dX10_partHolds_60 (q := 61) rfl ?_
    have hif := g_if h
    clear h
    refine g_if_eq C dX10_partHolds_61 (q := 64) (tgt := 68) rfl (by decide) (fun c => ?_) (fun c => ?_)
    · have h := hif.1 c
      clear hif
      refine g_iconst C (v := 0) dX10_partHolds_68 (q := 69) rfl (by decide) ?_
      obtain rfl := Option.some.inj h
      exact g_zret C (g_bz_lit (by decide)) E dX10_partHolds_69
    · have h := hif.2 c
      clear hif
      refine g_iconst C (v := 1) dX10_partHolds_64 (q := 65) rfl (by decide) ?_
      refine g_goto C dX10_partHolds_65 (tgt := 69) (by decide) ?_
      obtain rfl := Option.some.inj h
      exact g_zret C (g_bz_lit (by decide)) E dX10_partHolds_69
  refine g_look C (off := 57) (tgt := 58) dX10_partHolds_1 (by decide) (by simp [Op.lookupswitch.offset, Ne.symm n0, Ne.symm n1]) (by decide) hdef
def F_X0_weightOf_4 (M : g_M) (k33 : Int32 → Option (Int32)) (k : Int32 → Int32 → Int32 → Option (Int32)) (x1 : Int32) (x2 : Int32) (x3 : Int32) : Option (Int32) :=
  (if (M.1 3 0) ≤ x3 then (k33 x2) else ((g_ld M 4 10 x3).bind fun v1 => (some (x2 + (((x1 >>> (x3 &&& 31)) &&& 1) * v1))).bind fun y2 => k x1 y2 (x3 + 1)))
set_option maxRecDepth 100000 in
theorem t_X0_weightOf_4 {l : Launch} {X : g_X} {Y : g_Y} {p : Int32} {M : g_M} {k33 : Int32 → Option (Int32)} (C : g_C l (g_rm (0)) RX0 cX0_weightOf 4 X Y) (E : g_E (some .int) X Y (some (.int p)) M) (hk33 : ∀ (x2 : Int32), k33 x2 = some p → g_G 4 X Y 33 [(2, .int x2)] [] M) (n : Nat) : ∀ (x1 : Int32) (x2 : Int32) (x3 : Int32), g_lq3 (F_X0_weightOf_4 M k33) n x1 x2 x3 = some p → g_G 4 X Y 4 [(0, g_r Y 3), (1, .int x1), (2, .int x2), (3, .int x3)] [] M := by
  induction n with
  | zero => intro x1 x2 x3 h; exact (g_nn h).elim
  | succ n ih =>
    intro x1 x2 x3 h
    have h : F_X0_weightOf_4 M k33 (g_lq3 (F_X0_weightOf_4 M k33) n) x1 x2 x3 = some p := h
    generalize g_lq3 (F_X0_weightOf_4 M k33) n = k at h ih
    unfold F_X0_weightOf_4 at h
    refine g_iload_n C 3 dX0_weightOf_4 (q := 5) rfl rfl rfl ?_
    refine g_aload_n C 0 dX0_weightOf_5 (q := 6) rfl rfl rfl ?_
    refine g_get C (k := 3) (i := 0) (by decide) (gc_3 Y _ _) rfl kU_X0 (by decide) kF_X0_24 rfl dX0_weightOf_6 (q := 9) rfl ?_
    have hif := g_if h
    clear h
    refine g_icmp_ge C dX0_weightOf_9 (q := 12) (tgt := 33) rfl (by decide) (fun c => ?_) (fun c => ?_)
    · have h := hif.1 c
      clear hif
      refine g_sub [2] (lv' := [(2, .int x2)]) rfl ?_
      exact hk33 x2 h
    · have h := hif.2 c
      clear hif
      refine g_iload_n C 2 dX0_weightOf_12 (q := 13) rfl rfl rfl ?_
      refine g_iload_n C 1 dX0_weightOf_13 (q := 14) rfl rfl rfl ?_
      refine g_iload_n C 3 dX0_weightOf_14 (q := 15) rfl rfl rfl ?_
      refine g_ishr C dX0_weightOf_15 (q := 16) rfl ?_
      refine g_iconst C (v := 1) dX0_weightOf_16 (q := 17) rfl (by decide) ?_
      refine g_iand C dX0_weightOf_17 (q := 18) rfl ?_
      refine g_aload_n C 0 dX0_weightOf_18 (q := 19) rfl rfl rfl ?_
      refine g_get C (k := 3) (i := 4) (by decide) (gc_3 Y _ _) rfl kU_X0 (by decide) kF_X0_9 rfl dX0_weightOf_19 (q := 22) rfl ?_
      refine g_iload_n C 3 dX0_weightOf_22 (q := 23) rfl rfl rfl ?_
      obtain ⟨v1, hv1, h⟩ := g_bind h
      refine g_iald C (k := 4) (n := 10) (by decide) (gc_4 Y _ _) hv1 dX0_weightOf_23 (q := 24) rfl ?_
      refine g_imul C dX0_weightOf_24 (q := 25) rfl ?_
      refine g_iadd C dX0_weightOf_25 (q := 26) rfl ?_
      obtain ⟨y2, hy2, h⟩ := g_bind h
      refine g_top hy2 ?_
      refine g_istore_n C dX0_weightOf_26 (q := 27) rfl rfl (by decide) (lv' := [(2, .int y2), (0, g_r Y 3), (1, .int x1), (3, .int x3)]) rfl ?_
      refine g_iinc C (k := 3) (v := x3 + 1) dX0_weightOf_27 (q := 30) rfl rfl rfl (by decide) (lv' := [(3, .int (x3 + 1)), (2, .int y2), (0, g_r Y 3), (1, .int x1)]) rfl ?_
      refine g_goto C dX0_weightOf_30 (tgt := 4) (by decide) ?_
      refine g_sub [2, 3, 1, 0] (lv' := [(0, g_r Y 3), (1, .int x1), (2, .int y2), (3, .int (x3 + 1))]) rfl ?_
      exact ih x1 y2 (x3 + 1) h
def f_X0_weightOf (x1 : Int32) (M : g_M) : Option (Int32) :=
  g_lq3 (F_X0_weightOf_4 M (fun (x2 : Int32) => some x2)) 20000000 x1 0 0
set_option maxRecDepth 100000 in
theorem m_X0_weightOf {l : Launch} {Y : g_Y} {x1 : Int32} {M : g_M} {p : Int32} (h : f_X0_weightOf x1 M = some p) : g_R l Y (0) yX0_weightOf cX0_weightOf 4 (some .int) [g_r Y 3, .int x1] M (some (.int p)) M := by
  unfold f_X0_weightOf at h
  refine g_R_of kP_X0 rfl (Nat.le_of_ble_eq_true rfl) (fun X C E => ?_)
  show g_G 4 X Y 0 [(0, g_r Y 3), (1, .int x1)] [] M
  refine g_iconst C (v := 0) dX0_weightOf_0 (q := 1) rfl (by decide) ?_
  refine g_istore_n C dX0_weightOf_1 (q := 2) rfl rfl (by decide) (lv' := [(2, .int 0), (0, g_r Y 3), (1, .int x1)]) rfl ?_
  refine g_iconst C (v := 0) dX0_weightOf_2 (q := 3) rfl (by decide) ?_
  refine g_istore_n C dX0_weightOf_3 (q := 4) rfl rfl (by decide) (lv' := [(3, .int 0), (2, .int 0), (0, g_r Y 3), (1, .int x1)]) rfl ?_
  refine g_sub [2, 3, 1, 0] (lv' := [(0, g_r Y 3), (1, .int x1), (2, .int 0), (3, .int 0)]) rfl ?_
  refine t_X0_weightOf_4 C E ?_ 20000000 x1 0 0 h
  · intro x2 h
    try dsimp only at h
    refine g_iload_n C 0 dX0_weightOf_33 (q := 34) rfl rfl rfl ?_
    obtain rfl := Option.some.inj h
    exact g_iret C E dX0_weightOf_34
def f_X10_allow_13_3_152 (k : Int32 → Int32 → Int32 → Int32 → Int32 → Option (Int32)) (x1 : Int32) (x2 : Int32) (x4 : Int32) (x5 : Int32) (x6 : Int32) (s0 : Int32) (M : g_M) : Option (Int32) :=
  (if s0 = 0 then (k x1 x2 x4 ((x5 <<< (1 &&& 31)) ||| 0) (x6 + 1)) else (k x1 x2 x4 ((x5 <<< (1 &&& 31)) ||| 1) (x6 + 1)))
set_option maxRecDepth 100000 in
theorem t_X10_allow_13_3_152 {l : Launch} {X : g_X} {Y : g_Y} {p : Int32} {M : g_M} {k : Int32 → Int32 → Int32 → Int32 → Int32 → Option (Int32)} (C : g_C l (g_rm (2)) RX10 cX10_allow 11 X Y) (E : g_E (some .boolean) X Y (some (.int p)) M) (ih : ∀ (x1 : Int32) (x2 : Int32) (x4 : Int32) (x5 : Int32) (x6 : Int32), k x1 x2 x4 x5 x6 = some p → g_G 11 X Y 12 [(0, g_r Y 13), (1, .int x1), (2, .int x2), (3, g_r Y 3), (4, .int x4), (5, .int x5), (6, .int x6)] [] M) (x1 : Int32) (x2 : Int32) (x4 : Int32) (x5 : Int32) (x6 : Int32) (s0 : Int32) (h : f_X10_allow_13_3_152 k x1 x2 x4 x5 x6 s0 M = some p) : g_G 11 X Y 152 [(0, g_r Y 13), (1, .int x1), (2, .int x2), (3, g_r Y 3), (4, .int x4), (5, .int x5), (6, .int x6)] [.int s0] M := by
  unfold f_X10_allow_13_3_152 at h
  refine g_istore C dX10_allow_152 (q := 154) rfl (by decide) (lv' := [(10, .int s0), (0, g_r Y 13), (1, .int x1), (2, .int x2), (3, g_r Y 3), (4, .int x4), (5, .int x5), (6, .int x6)]) rfl ?_
  refine g_iload C 6 dX10_allow_154 (q := 156) rfl rfl ?_
  refine g_iconst C (v := 1) dX10_allow_156 (q := 157) rfl (by decide) ?_
  refine g_ishl C dX10_allow_157 (q := 158) rfl ?_
  refine g_iload C 0 dX10_allow_158 (q := 160) rfl rfl ?_
  have hif := g_if h
  clear h
  refine g_if_eq C dX10_allow_160 (q := 163) (tgt := 167) rfl (by decide) (fun c => ?_) (fun c => ?_)
  · have h := hif.1 c
    clear hif
    refine g_iconst C (v := 0) dX10_allow_167 (q := 168) rfl (by decide) ?_
    refine g_ior C dX10_allow_168 (q := 169) rfl ?_
    refine g_istore C dX10_allow_169 (q := 171) rfl (by decide) (lv' := [(5, .int ((x5 <<< (1 &&& 31)) ||| 0)), (10, .int s0), (0, g_r Y 13), (1, .int x1), (2, .int x2), (3, g_r Y 3), (4, .int x4), (6, .int x6)]) rfl ?_
    refine g_iinc C (k := 7) (v := x6 + 1) dX10_allow_171 (q := 174) rfl rfl rfl (by decide) (lv' := [(6, .int (x6 + 1)), (5, .int ((x5 <<< (1 &&& 31)) ||| 0)), (10, .int s0), (0, g_r Y 13), (1, .int x1), (2, .int x2), (3, g_r Y 3), (4, .int x4)]) rfl ?_
    refine g_goto C dX10_allow_174 (tgt := 12) (by decide) ?_
    refine g_sub [3, 4, 5, 6, 7, 1, 0] (lv' := [(0, g_r Y 13), (1, .int x1), (2, .int x2), (3, g_r Y 3), (4, .int x4), (5, .int ((x5 <<< (1 &&& 31)) ||| 0)), (6, .int (x6 + 1))]) rfl ?_
    exact ih x1 x2 x4 ((x5 <<< (1 &&& 31)) ||| 0) (x6 + 1) h
  · have h := hif.2 c
    clear hif
    refine g_iconst C (v := 1) dX10_allow_163 (q := 164) rfl (by decide) ?_
    refine g_goto C dX10_allow_164 (tgt := 168) (by decide) ?_
    refine g_ior C dX10_allow_168 (q := 169) rfl ?_
    refine g_istore C dX10_allow_169 (q := 171) rfl (by decide) (lv' := [(5, .int ((x5 <<< (1 &&& 31)) ||| 1)), (10, .int s0), (0, g_r Y 13), (1, .int x1), (2, .int x2), (3, g_r Y 3), (4, .int x4), (6, .int x6)]) rfl ?_
    refine g_iinc C (k := 7) (v := x6 + 1) dX10_allow_171 (q := 174) rfl rfl rfl (by decide) (lv' := [(6, .int (x6 + 1)), (5, .int ((x5 <<< (1 &&& 31)) ||| 1)), (10, .int s0), (0, g_r Y 13), (1, .int x1), (2, .int x2), (3, g_r Y 3), (4, .int x4)]) rfl ?_
    refine g_goto C dX10_allow_174 (tgt := 12) (by decide) ?_
    refine g_sub [3, 4, 5, 6, 7, 1, 0] (lv' := [(0, g_r Y 13), (1, .int x1), (2, .int x2), (3, g_r Y 3), (4, .int x4), (5, .int ((x5 <<< (1 &&& 31)) ||| 1)), (6, .int (x6 + 1))]) rfl ?_
    exact ih x1 x2 x4 ((x5 <<< (1 &&& 31)) ||| 1) (x6 + 1) h
def F_X10_allow_13_3_12 (M : g_M) (k177 : Int32 → Option (Int32)) (k : Int32 → Int32 → Int32 → Int32 → Int32 → Option (Int32)) (x1 : Int32) (x2 : Int32) (x4 : Int32) (x5 : Int32) (x6 : Int32) : Option (Int32) :=
  (g_ld M 14 8 x1).bind fun v2 => (if v2 ≤ x6 then (k177 x5) else ((g_in 8 x1).bind fun j3 => (g_ld M (16 + j3) 120 x6).bind fun v4 => (if (v4 &&& 7) = 4 then (k x1 x2 x4 (x5 ^^^ 1) (x6 + 1)) else ((if (v4 &&& 7) = 5 then ((some (((Int32.toUInt32 x5 >>> (Int32.toUInt32 1 &&& Int32.toUInt32 31)).toInt32) &&& ((x5 &&& 1) ||| (-2)))).bind fun y8 => k x1 x2 x4 y8 (x6 + 1)) else ((if (v4 &&& 7) = 6 then ((some (((Int32.toUInt32 x5 >>> (Int32.toUInt32 1 &&& Int32.toUInt32 31)).toInt32) ||| (x5 &&& 1))).bind fun y7 => k x1 x2 x4 y7 (x6 + 1)) else ((if (v4 &&& 7) = 3 then ((f_X0_weightOf x2 M).bind fun p6 => (if p6 < ((v4 >>> (3 &&& 31)) &&& 127) then (f_X10_allow_13_3_152 k x1 x2 x4 x5 x6 0 M) else (f_X10_allow_13_3_152 k x1 x2 x4 x5 x6 1 M))) else ((f_X10_partHolds (v4 &&& 7) ((v4 >>> (3 &&& 31)) &&& 127) x2 ((v4 >>> (10 &&& 31)) &&& x4) M).bind fun p5 => f_X10_allow_13_3_152 k x1 x2 x4 x5 x6 p5 M))))))))))
set_option maxRecDepth 100000 in
theorem t_X10_allow_13_3_12 {l : Launch} {X : g_X} {Y : g_Y} {p : Int32} {M : g_M} {k177 : Int32 → Option (Int32)} (C : g_C l (g_rm (2)) RX10 cX10_allow 11 X Y) (E : g_E (some .boolean) X Y (some (.int p)) M) (hk177 : ∀ (x5 : Int32), k177 x5 = some p → g_G 11 X Y 177 [(5, .int x5)] [] M) (n : Nat) : ∀ (x1 : Int32) (x2 : Int32) (x4 : Int32) (x5 : Int32) (x6 : Int32), g_lq5 (F_X10_allow_13_3_12 M k177) n x1 x2 x4 x5 x6 = some p → g_G 11 X Y 12 [(0, g_r Y 13), (1, .int x1), (2, .int x2), (3, g_r Y 3), (4, .int x4), (5, .int x5), (6, .int x6)] [] M := by
  induction n with
  | zero => intro x1 x2 x4 x5 x6 h; exact (g_nn h).elim
  | succ n ih =>
    intro x1 x2 x4 x5 x6 h
    have h : F_X10_allow_13_3_12 M k177 (g_lq5 (F_X10_allow_13_3_12 M k177) n) x1 x2 x4 x5 x6 = some p := h
    generalize g_lq5 (F_X10_allow_13_3_12 M k177) n = k at h ih
    unfold F_X10_allow_13_3_12 at h
    refine g_iload C 6 dX10_allow_12 (q := 14) rfl rfl ?_
    refine g_aload_n C 0 dX10_allow_14 (q := 15) rfl rfl rfl ?_
    refine g_get C (k := 13) (i := 3) (by decide) (gc_13 Y _ _) rfl kU_X10 (by decide) kF_X10_15 rfl dX10_allow_15 (q := 18) rfl ?_
    refine g_iload_n C 1 dX10_allow_18 (q := 19) rfl rfl rfl ?_
    obtain ⟨v2, hv2, h⟩ := g_bind h
    refine g_iald C (k := 14) (n := 8) (by decide) (gc_14 Y _ _) hv2 dX10_allow_19 (q := 20) rfl ?_
    have hif := g_if h
    clear h
    refine g_icmp_ge C dX10_allow_20 (q := 23) (tgt := 177) rfl (by decide) (fun c => ?_) (fun c => ?_)
    · have h := hif.1 c
      clear hif
      refine g_sub [5] (lv' := [(5, .int x5)]) rfl ?_
      exact hk177 x5 h
    · have h := hif.2 c
      clear hif
      refine g_aload_n C 0 dX10_allow_23 (q := 24) rfl rfl rfl ?_
      refine g_get C (k := 13) (i := 4) (by decide) (gc_13 Y _ _) rfl kU_X10 (by decide) kF_X10_21 rfl dX10_allow_24 (q := 27) rfl ?_
      refine g_iload_n C 1 dX10_allow_27 (q := 28) rfl rfl rfl ?_
      obtain ⟨j3, qj3, h⟩ := g_bind h
      have hj3 := (g_in_s qj3).2.2
      refine g_aldA C (k := 15) (n := 8) (b := 16) (by decide) (gc_15 Y _ _) qj3 dX10_allow_28 (q := 29) rfl ?_
      refine g_iload C 6 dX10_allow_29 (q := 31) rfl rfl ?_
      obtain ⟨v4, hv4, h⟩ := g_bind h
      refine g_iald C (k := (16 + j3)) (n := 120) (by omega) (gc_codes Y _ _ hj3) hv4 dX10_allow_31 (q := 32) rfl ?_
      refine g_istore C dX10_allow_32 (q := 34) rfl (by decide) (lv' := [(7, .int v4), (0, g_r Y 13), (1, .int x1), (2, .int x2), (3, g_r Y 3), (4, .int x4), (5, .int x5), (6, .int x6)]) rfl ?_
      refine g_iload C 0 dX10_allow_34 (q := 36) rfl rfl ?_
      refine g_bipush C (v := 7) dX10_allow_36 (q := 38) rfl (by decide) ?_
      refine g_iand C dX10_allow_38 (q := 39) rfl ?_
      refine g_istore C dX10_allow_39 (q := 41) rfl (by decide) (lv' := [(8, .int (v4 &&& 7)), (7, .int v4), (0, g_r Y 13), (1, .int x1), (2, .int x2), (3, g_r Y 3), (4, .int x4), (5, .int x5), (6, .int x6)]) rfl ?_
      refine g_iload C 7 dX10_allow_41 (q := 43) rfl rfl ?_
      refine g_iconst C (v := 1) dX10_allow_43 (q := 44) rfl (by decide) ?_
      refine g_iand C dX10_allow_44 (q := 45) rfl ?_
      refine g_istore C dX10_allow_45 (q := 47) rfl (by decide) (lv' := [(9, .int (x5 &&& 1)), (8, .int (v4 &&& 7)), (7, .int v4), (0, g_r Y 13), (1, .int x1), (2, .int x2), (3, g_r Y 3), (4, .int x4), (5, .int x5), (6, .int x6)]) rfl ?_
      refine g_iload C 1 dX10_allow_47 (q := 49) rfl rfl ?_
      refine g_iconst C (v := 4) dX10_allow_49 (q := 50) rfl (by decide) ?_
      have hif := g_if h
      clear h
      refine g_icmp_ne C dX10_allow_50 (q := 53) (tgt := 62) rfl (by decide) (fun c => ?_) (fun c => ?_)
      · have h := hif.2 c
        clear hif
        refine g_iload C 1 dX10_allow_62 (q := 64) rfl rfl ?_
        refine g_iconst C (v := 5) dX10_allow_64 (q := 65) rfl (by decide) ?_
        have hif := g_if h
        clear h
        refine g_icmp_ne C dX10_allow_65 (q := 68) (tgt := 83) rfl (by decide) (fun c => ?_) (fun c => ?_)
        · have h := hif.2 c
          clear hif
          refine g_iload C 1 dX10_allow_83 (q := 85) rfl rfl ?_
          refine g_bipush C (v := 6) dX10_allow_85 (q := 87) rfl (by decide) ?_
          have hif := g_if h
          clear h
          refine g_icmp_ne C dX10_allow_87 (q := 90) (tgt := 102) rfl (by decide) (fun c => ?_) (fun c => ?_)
          · have h := hif.2 c
            clear hif
            refine g_iload C 1 dX10_allow_102 (q := 104) rfl rfl ?_
            refine g_iconst C (v := 3) dX10_allow_104 (q := 105) rfl (by decide) ?_
            have hif := g_if h
            clear h
            refine g_icmp_ne C dX10_allow_105 (q := 108) (tgt := 131) rfl (by decide) (fun c => ?_) (fun c => ?_)
            · have h := hif.2 c
              clear hif
              refine g_iload C 1 dX10_allow_131 (q := 133) rfl rfl ?_
              refine g_iload C 2 dX10_allow_133 (q := 135) rfl rfl ?_
              refine g_iconst C (v := 3) dX10_allow_135 (q := 136) rfl (by decide) ?_
              refine g_ishr C dX10_allow_136 (q := 137) rfl ?_
              refine g_bipush C (v := 127) dX10_allow_137 (q := 139) rfl (by decide) ?_
              refine g_iand C dX10_allow_139 (q := 140) rfl ?_
              refine g_iload_n C 5 dX10_allow_140 (q := 141) rfl rfl rfl ?_
              refine g_iload C 2 dX10_allow_141 (q := 143) rfl rfl ?_
              refine g_bipush C (v := 10) dX10_allow_143 (q := 145) rfl (by decide) ?_
              refine g_ishr C dX10_allow_145 (q := 146) rfl ?_
              refine g_iload C 7 dX10_allow_146 (q := 148) rfl rfl ?_
              refine g_iand C dX10_allow_148 (q := 149) rfl ?_
              obtain ⟨p5, hp5, h⟩ := g_bind h
              refine g_callS C (as := [.int (v4 &&& 7), .int ((v4 >>> (3 &&& 31)) &&& 127), .int x2, .int ((v4 >>> (10 &&& 31)) &&& x4)]) (st := []) (m_X10_partHolds hp5) (g_hR (by decide)) (by decide) kM_X10_46 kT_X10_partHolds kN_X10 kC_X10_partHolds kD_X10_partHolds rfl (Nat.le_of_ble_eq_true rfl) dX10_allow_149 (q := 152) rfl ?_
              show g_G 11 X Y 152 [(9, .int (x5 &&& 1)), (8, .int (v4 &&& 7)), (7, .int v4), (0, g_r Y 13), (1, .int x1), (2, .int x2), (3, g_r Y 3), (4, .int x4), (5, .int x5), (6, .int x6)] [.int p5] M
              refine g_sub [3, 4, 5, 6, 7, 8, 9] (lv' := [(0, g_r Y 13), (1, .int x1), (2, .int x2), (3, g_r Y 3), (4, .int x4), (5, .int x5), (6, .int x6)]) rfl ?_
              exact t_X10_allow_13_3_152 C E ih x1 x2 x4 x5 x6 p5 h
            · have h := hif.1 c
              clear hif
              refine g_aload_n C 6 dX10_allow_108 (q := 109) rfl rfl rfl ?_
              refine g_iload_n C 5 dX10_allow_109 (q := 110) rfl rfl rfl ?_
              obtain ⟨p6, hp6, h⟩ := g_bind h
              refine g_callV C (k := 3) (as := [.int x2]) (st := []) (m_X0_weightOf hp6) (g_hR (by decide)) (by decide) (by decide) (gc_3 Y _ _) rfl kM_X10_42 kI_X0_weightOf kS_X0_weightOf kN_X0 kC_X0_weightOf kD_X0_weightOf rfl (Nat.le_of_ble_eq_true rfl) dX10_allow_110 (q := 113) rfl ?_
              show g_G 11 X Y 113 [(9, .int (x5 &&& 1)), (8, .int (v4 &&& 7)), (7, .int v4), (0, g_r Y 13), (1, .int x1), (2, .int x2), (3, g_r Y 3), (4, .int x4), (5, .int x5), (6, .int x6)] [.int p6] M
              refine g_iload C 2 dX10_allow_113 (q := 115) rfl rfl ?_
              refine g_iconst C (v := 3) dX10_allow_115 (q := 116) rfl (by decide) ?_
              refine g_ishr C dX10_allow_116 (q := 117) rfl ?_
              refine g_bipush C (v := 127) dX10_allow_117 (q := 119) rfl (by decide) ?_
              refine g_iand C dX10_allow_119 (q := 120) rfl ?_
              have hif := g_if h
              clear h
              refine g_icmp_lt C dX10_allow_120 (q := 123) (tgt := 127) rfl (by decide) (fun c => ?_) (fun c => ?_)
              · have h := hif.1 c
                clear hif
                refine g_iconst C (v := 0) dX10_allow_127 (q := 128) rfl (by decide) ?_
                refine g_goto C dX10_allow_128 (tgt := 152) (by decide) ?_
                refine g_sub [3, 4, 5, 6, 7, 8, 9] (lv' := [(0, g_r Y 13), (1, .int x1), (2, .int x2), (3, g_r Y 3), (4, .int x4), (5, .int x5), (6, .int x6)]) rfl ?_
                exact t_X10_allow_13_3_152 C E ih x1 x2 x4 x5 x6 0 h
              · have h := hif.2 c
                clear hif
                refine g_iconst C (v := 1) dX10_allow_123 (q := 124) rfl (by decide) ?_
                refine g_goto C dX10_allow_124 (tgt := 152) (by decide) ?_
                refine g_sub [3, 4, 5, 6, 7, 8, 9] (lv' := [(0, g_r Y 13), (1, .int x1), (2, .int x2), (3, g_r Y 3), (4, .int x4), (5, .int x5), (6, .int x6)]) rfl ?_
                exact t_X10_allow_13_3_152 C E ih x1 x2 x4 x5 x6 1 h
          · have h := hif.1 c
            clear hif
            refine g_iload C 8 dX10_allow_90 (q := 92) rfl rfl ?_
            refine g_iconst C (v := 1) dX10_allow_92 (q := 93) rfl (by decide) ?_
            refine g_iushr C dX10_allow_93 (q := 94) rfl ?_
            refine g_iload C 0 dX10_allow_94 (q := 96) rfl rfl ?_
            refine g_ior C dX10_allow_96 (q := 97) rfl ?_
            obtain ⟨y7, hy7, h⟩ := g_bind h
            refine g_top hy7 ?_
            refine g_istore C dX10_allow_97 (q := 99) rfl (by decide) (lv' := [(5, .int y7), (9, .int (x5 &&& 1)), (8, .int (v4 &&& 7)), (7, .int v4), (0, g_r Y 13), (1, .int x1), (2, .int x2), (3, g_r Y 3), (4, .int x4), (6, .int x6)]) rfl ?_
            refine g_goto C dX10_allow_99 (tgt := 171) (by decide) ?_
            refine g_iinc C (k := 9) (v := x6 + 1) dX10_allow_171 (q := 174) rfl rfl rfl (by decide) (lv' := [(6, .int (x6 + 1)), (5, .int y7), (9, .int (x5 &&& 1)), (8, .int (v4 &&& 7)), (7, .int v4), (0, g_r Y 13), (1, .int x1), (2, .int x2), (3, g_r Y 3), (4, .int x4)]) rfl ?_
            refine g_goto C dX10_allow_174 (tgt := 12) (by decide) ?_
            refine g_sub [5, 6, 7, 8, 9, 1, 0] (lv' := [(0, g_r Y 13), (1, .int x1), (2, .int x2), (3, g_r Y 3), (4, .int x4), (5, .int y7), (6, .int (x6 + 1))]) rfl ?_
            exact ih x1 x2 x4 y7 (x6 + 1) h
        · have h := hif.1 c
          clear hif
          refine g_iload C 8 dX10_allow_68 (q := 70) rfl rfl ?_
          refine g_iconst C (v := 1) dX10_allow_70 (q := 71) rfl (by decide) ?_
          refine g_iushr C dX10_allow_71 (q := 72) rfl ?_
          refine g_iload C 0 dX10_allow_72 (q := 74) rfl rfl ?_
          refine g_bipush C (v := (-2)) dX10_allow_74 (q := 76) rfl (by decide) ?_
          refine g_ior C dX10_allow_76 (q := 77) rfl ?_
          refine g_iand C dX10_allow_77 (q := 78) rfl ?_
          obtain ⟨y8, hy8, h⟩ := g_bind h
          refine g_top hy8 ?_
          refine g_istore C dX10_allow_78 (q := 80) rfl (by decide) (lv' := [(5, .int y8), (9, .int (x5 &&& 1)), (8, .int (v4 &&& 7)), (7, .int v4), (0, g_r Y 13), (1, .int x1), (2, .int x2), (3, g_r Y 3), (4, .int x4), (6, .int x6)]) rfl ?_
          refine g_goto C dX10_allow_80 (tgt := 171) (by decide) ?_
          refine g_iinc C (k := 9) (v := x6 + 1) dX10_allow_171 (q := 174) rfl rfl rfl (by decide) (lv' := [(6, .int (x6 + 1)), (5, .int y8), (9, .int (x5 &&& 1)), (8, .int (v4 &&& 7)), (7, .int v4), (0, g_r Y 13), (1, .int x1), (2, .int x2), (3, g_r Y 3), (4, .int x4)]) rfl ?_
          refine g_goto C dX10_allow_174 (tgt := 12) (by decide) ?_
          refine g_sub [5, 6, 7, 8, 9, 1, 0] (lv' := [(0, g_r Y 13), (1, .int x1), (2, .int x2), (3, g_r Y 3), (4, .int x4), (5, .int y8), (6, .int (x6 + 1))]) rfl ?_
          exact ih x1 x2 x4 y8 (x6 + 1) h
      · have h := hif.1 c
        clear hif
        refine g_iload C 8 dX10_allow_53 (q := 55) rfl rfl ?_
        refine g_iconst C (v := 1) dX10_allow_55 (q := 56) rfl (by decide) ?_
        refine g_ixor C dX10_allow_56 (q := 57) rfl ?_
        refine g_istore C dX10_allow_57 (q := 59) rfl (by decide) (lv' := [(5, .int (x5 ^^^ 1)), (9, .int (x5 &&& 1)), (8, .int (v4 &&& 7)), (7, .int v4), (0, g_r Y 13), (1, .int x1), (2, .int x2), (3, g_r Y 3), (4, .int x4), (6, .int x6)]) rfl ?_
        refine g_goto C dX10_allow_59 (tgt := 171) (by decide) ?_
        refine g_iinc C (k := 9) (v := x6 + 1) dX10_allow_171 (q := 174) rfl rfl rfl (by decide) (lv' := [(6, .int (x6 + 1)), (5, .int (x5 ^^^ 1)), (9, .int (x5 &&& 1)), (8, .int (v4 &&& 7)), (7, .int v4), (0, g_r Y 13), (1, .int x1), (2, .int x2), (3, g_r Y 3), (4, .int x4)]) rfl ?_
        refine g_goto C dX10_allow_174 (tgt := 12) (by decide) ?_
        refine g_sub [5, 6, 7, 8, 9, 1, 0] (lv' := [(0, g_r Y 13), (1, .int x1), (2, .int x2), (3, g_r Y 3), (4, .int x4), (5, .int (x5 ^^^ 1)), (6, .int (x6 + 1))]) rfl ?_
        exact ih x1 x2 x4 (x5 ^^^ 1) (x6 + 1) h
def f_X10_allow_13_3 (x1 : Int32) (x2 : Int32) (M : g_M) : Option (Int32) :=
  (f_X0_present M).bind fun p1 => g_lq5 (F_X10_allow_13_3_12 M (fun (x5 : Int32) => (if (x5 &&& 1) = 0 then (some 0) else (some 1)))) 20000000 x1 x2 p1 0 0
set_option maxRecDepth 100000 in
theorem m_X10_allow_13_3 {l : Launch} {Y : g_Y} {x1 : Int32} {x2 : Int32} {M : g_M} {p : Int32} (h : f_X10_allow_13_3 x1 x2 M = some p) : g_R l Y (2) yX10_allow cX10_allow 11 (some .boolean) [g_r Y 13, .int x1, .int x2, g_r Y 3] M (some (.int p)) M := by
  unfold f_X10_allow_13_3 at h
  refine g_R_of kP_X10 rfl (Nat.le_of_ble_eq_true rfl) (fun X C E => ?_)
  show g_G 11 X Y 0 [(0, g_r Y 13), (1, .int x1), (2, .int x2), (3, g_r Y 3)] [] M
  refine g_aload_n C 3 dX10_allow_0 (q := 1) rfl rfl rfl ?_
  obtain ⟨p1, hp1, h⟩ := g_bind h
  refine g_callV C (k := 3) (as := []) (st := []) (m_X0_present hp1) (g_hR (by decide)) (by decide) (by decide) (gc_3 Y _ _) rfl kM_X10_36 kI_X0_present kS_X0_present kN_X0 kC_X0_present kD_X0_present rfl (Nat.le_of_ble_eq_true rfl) dX10_allow_1 (q := 4) rfl ?_
  show g_G 11 X Y 4 [(0, g_r Y 13), (1, .int x1), (2, .int x2), (3, g_r Y 3)] [.int p1] M
  refine g_istore C dX10_allow_4 (q := 6) rfl (by decide) (lv' := [(4, .int p1), (0, g_r Y 13), (1, .int x1), (2, .int x2), (3, g_r Y 3)]) rfl ?_
  refine g_iconst C (v := 0) dX10_allow_6 (q := 7) rfl (by decide) ?_
  refine g_istore C dX10_allow_7 (q := 9) rfl (by decide) (lv' := [(5, .int 0), (4, .int p1), (0, g_r Y 13), (1, .int x1), (2, .int x2), (3, g_r Y 3)]) rfl ?_
  refine g_iconst C (v := 0) dX10_allow_9 (q := 10) rfl (by decide) ?_
  refine g_istore C dX10_allow_10 (q := 12) rfl (by decide) (lv' := [(6, .int 0), (5, .int 0), (4, .int p1), (0, g_r Y 13), (1, .int x1), (2, .int x2), (3, g_r Y 3)]) rfl ?_
  refine g_sub [3, 4, 5, 6, 2, 1, 0] (lv' := [(0, g_r Y 13), (1, .int x1), (2, .int x2), (3, g_r Y 3), (4, .int p1), (5, .int 0), (6, .int 0)]) rfl ?_
  refine t_X10_allow_13_3_12 C E ?_ 20000000 x1 x2 p1 0 0 h
  · intro x5 h
    try dsimp only at h
    refine g_iload C 0 dX10_allow_177 (q := 179) rfl rfl ?_
    refine g_iconst C (v := 1) dX10_allow_179 (q := 180) rfl (by decide) ?_
    refine g_iand C dX10_allow_180 (q := 181) rfl ?_
    have hif := g_if h
    clear h
    refine g_if_eq C dX10_allow_181 (q := 184) (tgt := 188) rfl (by decide) (fun c => ?_) (fun c => ?_)
    · have h := hif.1 c
      clear hif
      refine g_iconst C (v := 0) dX10_allow_188 (q := 189) rfl (by decide) ?_
      obtain rfl := Option.some.inj h
      exact g_zret C (g_bz_lit (by decide)) E dX10_allow_189
    · have h := hif.2 c
      clear hif
      refine g_iconst C (v := 1) dX10_allow_184 (q := 185) rfl (by decide) ?_
      refine g_goto C dX10_allow_185 (tgt := 189) (by decide) ?_
      obtain rfl := Option.some.inj h
      exact g_zret C (g_bz_lit (by decide)) E dX10_allow_189
def F_X1_firstFall_32 (M : g_M) (k62 : Int32 → Int32 → Option (Int32)) (k75 : Int32 → Option (Int32)) (k : Int32 → Int32 → Option (Int32)) (x1 : Int32) (x2 : Int32) : Option (Int32) :=
  (if 10 ≤ x2 then (k75 x1) else ((if (((M.1 39 1) >>> (x2 &&& 31)) &&& 1) = 0 then (k x1 (x2 + 1)) else ((g_ld M 40 1024 (x1 ||| ((1 : Int32) <<< (x2 &&& 31)))).bind fun v2 => (if v2 = 0 then (k62 x1 x2) else (k x1 (x2 + 1)))))))
set_option maxRecDepth 100000 in
theorem t_X1_firstFall_32 {l : Launch} {X : g_X} {Y : g_Y} {p : Int32} {M : g_M} {k62 : Int32 → Int32 → Option (Int32)} {k75 : Int32 → Option (Int32)} (C : g_C l (g_rm (0)) RX1 cX1_firstFall 3 X Y) (E : g_E (some .int) X Y (some (.int p)) M) (hk62 : ∀ (x1 : Int32) (x2 : Int32), k62 x1 x2 = some p → g_G 3 X Y 62 [(1, .int x1), (2, .int x2)] [] M) (hk75 : ∀ (x1 : Int32), k75 x1 = some p → g_G 3 X Y 75 [(0, g_r Y 39), (1, .int x1)] [] M) (n : Nat) : ∀ (x1 : Int32) (x2 : Int32), g_lq2 (F_X1_firstFall_32 M k62 k75) n x1 x2 = some p → g_G 3 X Y 32 [(0, g_r Y 39), (1, .int x1), (2, .int x2)] [] M := by
  induction n with
  | zero => intro x1 x2 h; exact (g_nn h).elim
  | succ n ih =>
    intro x1 x2 h
    have h : F_X1_firstFall_32 M k62 k75 (g_lq2 (F_X1_firstFall_32 M k62 k75) n) x1 x2 = some p := h
    generalize g_lq2 (F_X1_firstFall_32 M k62 k75) n = k at h ih
    unfold F_X1_firstFall_32 at h
    refine g_iload_n C 2 dX1_firstFall_32 (q := 33) rfl rfl rfl ?_
    refine g_bipush C (v := 10) dX1_firstFall_33 (q := 35) rfl (by decide) ?_
    have hif := g_if h
    clear h
    refine g_icmp_ge C dX1_firstFall_35 (q := 38) (tgt := 75) rfl (by decide) (fun c => ?_) (fun c => ?_)
    · have h := hif.1 c
      clear hif
      refine g_sub [0, 1] (lv' := [(0, g_r Y 39), (1, .int x1)]) rfl ?_
      exact hk75 x1 h
    · have h := hif.2 c
      clear hif
      refine g_aload_n C 0 dX1_firstFall_38 (q := 39) rfl rfl rfl ?_
      refine g_get C (k := 39) (i := 1) (by decide) (gc_39 Y _ _) rfl kU_X1 (by decide) kF_X1_19 rfl dX1_firstFall_39 (q := 42) rfl ?_
      refine g_iload_n C 2 dX1_firstFall_42 (q := 43) rfl rfl rfl ?_
      refine g_ishr C dX1_firstFall_43 (q := 44) rfl ?_
      refine g_iconst C (v := 1) dX1_firstFall_44 (q := 45) rfl (by decide) ?_
      refine g_iand C dX1_firstFall_45 (q := 46) rfl ?_
      have hif := g_if h
      clear h
      refine g_if_eq C dX1_firstFall_46 (q := 49) (tgt := 69) rfl (by decide) (fun c => ?_) (fun c => ?_)
      · have h := hif.1 c
        clear hif
        refine g_iinc C (k := 2) (v := x2 + 1) dX1_firstFall_69 (q := 72) rfl rfl rfl (by decide) (lv' := [(2, .int (x2 + 1)), (0, g_r Y 39), (1, .int x1)]) rfl ?_
        refine g_goto C dX1_firstFall_72 (tgt := 32) (by decide) ?_
        refine g_sub [1, 2, 0] (lv' := [(0, g_r Y 39), (1, .int x1), (2, .int (x2 + 1))]) rfl ?_
        exact ih x1 (x2 + 1) h
      · have h := hif.2 c
        clear hif
        refine g_aload_n C 0 dX1_firstFall_49 (q := 50) rfl rfl rfl ?_
        refine g_get C (k := 39) (i := 0) (by decide) (gc_39 Y _ _) rfl kU_X1 (by decide) kF_X1_9 rfl dX1_firstFall_50 (q := 53) rfl ?_
        refine g_iload_n C 1 dX1_firstFall_53 (q := 54) rfl rfl rfl ?_
        refine g_iconst C (v := 1) dX1_firstFall_54 (q := 55) rfl (by decide) ?_
        refine g_iload_n C 2 dX1_firstFall_55 (q := 56) rfl rfl rfl ?_
        refine g_ishl C dX1_firstFall_56 (q := 57) rfl ?_
        refine g_ior C dX1_firstFall_57 (q := 58) rfl ?_
        obtain ⟨v2, hv2, h⟩ := g_bind h
        refine g_zald C (k := 40) (n := 1024) (by decide) (gc_40 Y _ _) hv2 dX1_firstFall_58 (q := 59) rfl ?_
        have hif := g_if h
        clear h
        refine g_if_ne C dX1_firstFall_59 (q := 62) (tgt := 69) rfl (by decide) (fun c => ?_) (fun c => ?_)
        · have h := hif.2 c
          clear hif
          refine g_iinc C (k := 2) (v := x2 + 1) dX1_firstFall_69 (q := 72) rfl rfl rfl (by decide) (lv' := [(2, .int (x2 + 1)), (0, g_r Y 39), (1, .int x1)]) rfl ?_
          refine g_goto C dX1_firstFall_72 (tgt := 32) (by decide) ?_
          refine g_sub [1, 2, 0] (lv' := [(0, g_r Y 39), (1, .int x1), (2, .int (x2 + 1))]) rfl ?_
          exact ih x1 (x2 + 1) h
        · have h := hif.1 c
          clear hif
          refine g_sub [1, 2] (lv' := [(1, .int x1), (2, .int x2)]) rfl ?_
          exact hk62 x1 x2 h
def F_X1_firstFall_2 (M : g_M) (k62 : Int32 → Int32 → Option (Int32)) (k81 : Option (Int32)) (k : Int32 → Option (Int32)) (x1 : Int32) : Option (Int32) :=
  (if (M.1 39 1) < x1 then (k81) else ((if (x1 &&& ((M.1 39 1) ^^^ (-1))) = 0 then ((g_ld M 40 1024 x1).bind fun v1 => (if v1 = 0 then (k (x1 + 1)) else (g_lq2 (F_X1_firstFall_32 M (fun (x1 : Int32) (x2 : Int32) => k62 x1 x2) (fun (x1 : Int32) => k (x1 + 1))) 20000000 x1 0))) else (k (x1 + 1)))))
set_option maxRecDepth 100000 in
theorem t_X1_firstFall_2 {l : Launch} {X : g_X} {Y : g_Y} {p : Int32} {M : g_M} {k62 : Int32 → Int32 → Option (Int32)} {k81 : Option (Int32)} (C : g_C l (g_rm (0)) RX1 cX1_firstFall 3 X Y) (E : g_E (some .int) X Y (some (.int p)) M) (hk62 : ∀ (x1 : Int32) (x2 : Int32), k62 x1 x2 = some p → g_G 3 X Y 62 [(1, .int x1), (2, .int x2)] [] M) (hk81 : k81 = some p → g_G 3 X Y 81 [] [] M) (n : Nat) : ∀ (x1 : Int32), g_lq1 (F_X1_firstFall_2 M k62 k81) n x1 = some p → g_G 3 X Y 2 [(0, g_r Y 39), (1, .int x1)] [] M := by
  induction n with
  | zero => intro x1 h; exact (g_nn h).elim
  | succ n ih =>
    intro x1 h
    have h : F_X1_firstFall_2 M k62 k81 (g_lq1 (F_X1_firstFall_2 M k62 k81) n) x1 = some p := h
    generalize g_lq1 (F_X1_firstFall_2 M k62 k81) n = k at h ih
    unfold F_X1_firstFall_2 at h
    refine g_iload_n C 1 dX1_firstFall_2 (q := 3) rfl rfl rfl ?_
    refine g_aload_n C 0 dX1_firstFall_3 (q := 4) rfl rfl rfl ?_
    refine g_get C (k := 39) (i := 1) (by decide) (gc_39 Y _ _) rfl kU_X1 (by decide) kF_X1_19 rfl dX1_firstFall_4 (q := 7) rfl ?_
    have hif := g_if h
    clear h
    refine g_icmp_gt C dX1_firstFall_7 (q := 10) (tgt := 81) rfl (by decide) (fun c => ?_) (fun c => ?_)
    · have h := hif.1 c
      clear hif
      refine g_sub [] (lv' := []) rfl ?_
      exact hk81 h
    · have h := hif.2 c
      clear hif
      refine g_iload_n C 1 dX1_firstFall_10 (q := 11) rfl rfl rfl ?_
      refine g_aload_n C 0 dX1_firstFall_11 (q := 12) rfl rfl rfl ?_
      refine g_get C (k := 39) (i := 1) (by decide) (gc_39 Y _ _) rfl kU_X1 (by decide) kF_X1_19 rfl dX1_firstFall_12 (q := 15) rfl ?_
      refine g_iconst C (v := (-1)) dX1_firstFall_15 (q := 16) rfl (by decide) ?_
      refine g_ixor C dX1_firstFall_16 (q := 17) rfl ?_
      refine g_iand C dX1_firstFall_17 (q := 18) rfl ?_
      have hif := g_if h
      clear h
      refine g_if_ne C dX1_firstFall_18 (q := 21) (tgt := 75) rfl (by decide) (fun c => ?_) (fun c => ?_)
      · have h := hif.2 c
        clear hif
        refine g_iinc C (k := 1) (v := x1 + 1) dX1_firstFall_75 (q := 78) rfl rfl rfl (by decide) (lv' := [(1, .int (x1 + 1)), (0, g_r Y 39)]) rfl ?_
        refine g_goto C dX1_firstFall_78 (tgt := 2) (by decide) ?_
        refine g_sub [1, 0] (lv' := [(0, g_r Y 39), (1, .int (x1 + 1))]) rfl ?_
        exact ih (x1 + 1) h
      · have h := hif.1 c
        clear hif
        refine g_aload_n C 0 dX1_firstFall_21 (q := 22) rfl rfl rfl ?_
        refine g_get C (k := 39) (i := 0) (by decide) (gc_39 Y _ _) rfl kU_X1 (by decide) kF_X1_9 rfl dX1_firstFall_22 (q := 25) rfl ?_
        refine g_iload_n C 1 dX1_firstFall_25 (q := 26) rfl rfl rfl ?_
        obtain ⟨v1, hv1, h⟩ := g_bind h
        refine g_zald C (k := 40) (n := 1024) (by decide) (gc_40 Y _ _) hv1 dX1_firstFall_26 (q := 27) rfl ?_
        have hif := g_if h
        clear h
        refine g_if_eq C dX1_firstFall_27 (q := 30) (tgt := 75) rfl (by decide) (fun c => ?_) (fun c => ?_)
        · have h := hif.1 c
          clear hif
          refine g_iinc C (k := 1) (v := x1 + 1) dX1_firstFall_75 (q := 78) rfl rfl rfl (by decide) (lv' := [(1, .int (x1 + 1)), (0, g_r Y 39)]) rfl ?_
          refine g_goto C dX1_firstFall_78 (tgt := 2) (by decide) ?_
          refine g_sub [1, 0] (lv' := [(0, g_r Y 39), (1, .int (x1 + 1))]) rfl ?_
          exact ih (x1 + 1) h
        · have h := hif.2 c
          clear hif
          refine g_iconst C (v := 0) dX1_firstFall_30 (q := 31) rfl (by decide) ?_
          refine g_istore_n C dX1_firstFall_31 (q := 32) rfl rfl (by decide) (lv' := [(2, .int 0), (0, g_r Y 39), (1, .int x1)]) rfl ?_
          refine g_sub [1, 2, 0] (lv' := [(0, g_r Y 39), (1, .int x1), (2, .int 0)]) rfl ?_
          refine t_X1_firstFall_32 C E ?_ ?_ 20000000 x1 0 h
          · intro x1 x2 h
            try dsimp only at h
            refine g_sub [0, 1] (lv' := [(1, .int x1), (2, .int x2)]) rfl ?_
            exact hk62 x1 x2 h
          · intro x1 h
            try dsimp only at h
            refine g_iinc C (k := 1) (v := x1 + 1) dX1_firstFall_75 (q := 78) rfl rfl rfl (by decide) (lv' := [(1, .int (x1 + 1)), (0, g_r Y 39)]) rfl ?_
            refine g_goto C dX1_firstFall_78 (tgt := 2) (by decide) ?_
            refine g_sub [1, 0] (lv' := [(0, g_r Y 39), (1, .int (x1 + 1))]) rfl ?_
            exact ih (x1 + 1) h
def f_X1_firstFall (M : g_M) : Option (Int32) :=
  g_lq1 (F_X1_firstFall_2 M (fun (x1 : Int32) (x2 : Int32) => some ((16 * x1) + x2)) (some (-1))) 20000000 0
set_option maxRecDepth 100000 in
theorem m_X1_firstFall {l : Launch} {Y : g_Y} {M : g_M} {p : Int32} (h : f_X1_firstFall M = some p) : g_R l Y (0) yX1_firstFall cX1_firstFall 3 (some .int) [g_r Y 39] M (some (.int p)) M := by
  unfold f_X1_firstFall at h
  refine g_R_of kP_X1 rfl (Nat.le_of_ble_eq_true rfl) (fun X C E => ?_)
  show g_G 3 X Y 0 [(0, g_r Y 39)] [] M
  refine g_iconst C (v := 0) dX1_firstFall_0 (q := 1) rfl (by decide) ?_
  refine g_istore_n C dX1_firstFall_1 (q := 2) rfl rfl (by decide) (lv' := [(1, .int 0), (0, g_r Y 39)]) rfl ?_
  refine g_sub [1, 0] (lv' := [(0, g_r Y 39), (1, .int 0)]) rfl ?_
  refine t_X1_firstFall_2 C E ?_ ?_ 20000000 0 h
  · intro x1 x2 h
    try dsimp only at h
    refine g_bipush C (v := 16) dX1_firstFall_62 (q := 64) rfl (by decide) ?_
    refine g_iload_n C 0 dX1_firstFall_64 (q := 65) rfl rfl rfl ?_
    refine g_imul C dX1_firstFall_65 (q := 66) rfl ?_
    refine g_iload_n C 1 dX1_firstFall_66 (q := 67) rfl rfl rfl ?_
    refine g_iadd C dX1_firstFall_67 (q := 68) rfl ?_
    obtain rfl := Option.some.inj h
    exact g_iret C E dX1_firstFall_68
  · intro  h
    try dsimp only at h
    refine g_iconst C (v := (-1)) dX1_firstFall_81 (q := 82) rfl (by decide) ?_
    obtain rfl := Option.some.inj h
    exact g_iret C E dX1_firstFall_82
def f_X6_add (x1 : Int32) (M : g_M) : Option (g_M) :=
  (if 252 ≤ (M.1 43 1) then (some M) else ((g_st M 44 252 (M.1 43 1) x1).bind fun M1 => (some (g_u M1 43 1 ((M1.1 43 1) + 1))).bind fun M2 => some M2))
set_option maxRecDepth 100000 in
theorem m_X6_add {l : Launch} {Y : g_Y} {x1 : Int32} {M : g_M} {p : g_M} (h : f_X6_add x1 M = some p) : g_R l Y (0) yX6_add cX6_add 2 none [g_r Y 43, .int x1] M none p := by
  unfold f_X6_add at h
  refine g_R_of kP_X6 rfl (Nat.le_of_ble_eq_true rfl) (fun X C E => ?_)
  show g_G 2 X Y 0 [(0, g_r Y 43), (1, .int x1)] [] M
  refine g_aload_n C 0 dX6_add_0 (q := 1) rfl rfl rfl ?_
  refine g_get C (k := 43) (i := 1) (by decide) (gc_43 Y _ _) rfl kU_X6 (by decide) kF_X6_19 rfl dX6_add_1 (q := 4) rfl ?_
  refine g_sipush C (v := 252) dX6_add_4 (q := 7) rfl (by decide) ?_
  have hif := g_if h
  clear h
  refine g_icmp_ge C dX6_add_7 (q := 10) (tgt := 30) rfl (by decide) (fun c => ?_) (fun c => ?_)
  · have h := hif.1 c
    clear hif
    obtain rfl := Option.some.inj h
    exact g_vret C E dX6_add_30
  · have h := hif.2 c
    clear hif
    refine g_aload_n C 0 dX6_add_10 (q := 11) rfl rfl rfl ?_
    refine g_get C (k := 43) (i := 0) (by decide) (gc_43 Y _ _) rfl kU_X6 (by decide) kF_X6_11 rfl dX6_add_11 (q := 14) rfl ?_
    refine g_aload_n C 0 dX6_add_14 (q := 15) rfl rfl rfl ?_
    refine g_get C (k := 43) (i := 1) (by decide) (gc_43 Y _ _) rfl kU_X6 (by decide) kF_X6_19 rfl dX6_add_15 (q := 18) rfl ?_
    refine g_iload_n C 1 dX6_add_18 (q := 19) rfl rfl rfl ?_
    obtain ⟨M1, hM1, h⟩ := g_bind h
    refine g_iast C (k := 44) (n := 252) (by decide) (fun a => gc_44 Y a _) hM1 dX6_add_19 (q := 20) rfl ?_
    refine g_aload_n C 0 dX6_add_20 (q := 21) rfl rfl rfl ?_
    refine g_dup C dX6_add_21 (q := 22) rfl rfl ?_
    refine g_get C (k := 43) (i := 1) (by decide) (gc_43 Y _ _) rfl kU_X6 (by decide) kF_X6_19 rfl dX6_add_22 (q := 25) rfl ?_
    refine g_iconst C (v := 1) dX6_add_25 (q := 26) rfl (by decide) ?_
    refine g_iadd C dX6_add_26 (q := 27) rfl ?_
    obtain ⟨M2, hM2, h⟩ := g_bind h
    refine g_put C (k := 43) (i := 1) (ty := .int) (by decide) (gc_43 Y _ _) (gp_43_1 Y _ _ _) rfl kU_X6 tyX6_ok nmX6 (by decide) kF_X6_19 rfl rfl rfl rfl (Nat.le_of_ble_eq_true rfl) dX6_add_27 (q := 30) rfl ?_
    refine g_mem hM2 ?_
    obtain rfl := Option.some.inj h
    exact g_vret C E dX6_add_30
theorem r_X6_add {x1 : Int32} {M : g_M} {p : g_M} (h : f_X6_add x1 M = some p) : g_fr [44] [(43, 1)] M p := by
  unfold f_X6_add at h
  have hf := g_fr.rfl (S := [44]) (T := [(43, 1)]) (M := M)
  rcases g_ifs h with h | h
  · obtain rfl := Option.some.inj h
    exact hf
  · obtain ⟨M1, hM1, h⟩ := g_bind h
    have hf := hf.st hM1 (by decide)
    obtain ⟨M2, hM2, h⟩ := g_bind h
    have hf := hf.pu hM2 (by decide)
    obtain rfl := Option.some.inj h
    exact hf
def F_X6_findLeast_43_39_31 (k79 : Int32 → Int32 → g_M → Option (g_M)) (k : Int32 → Int32 → Int32 → g_M → Option (g_M)) (x2 : Int32) (x3 : Int32) (x4 : Int32) (M : g_M) : Option (g_M) :=
  (if 10 ≤ x4 then (k79 x2 x3 M) else ((if x3 = 0 then ((if ((x2 >>> (x4 &&& 31)) &&& 1) = 0 then (k x2 0 (x4 + 1) M) else ((g_ld M 45 1024 (x2 &&& (((1 : Int32) <<< (x4 &&& 31)) ^^^ (-1)))).bind fun v2 => (if v2 = 0 then (k x2 0 (x4 + 1) M) else (k x2 1 (x4 + 1) M))))) else (k79 x2 x3 M))))
set_option maxRecDepth 100000 in
theorem t_X6_findLeast_43_39_31 {l : Launch} {X : g_X} {Y : g_Y} {p : g_M} {k79 : Int32 → Int32 → g_M → Option (g_M)} (C : g_C l (g_rm (1)) RX6 cX6_findLeast 5 X Y) (E : g_E none X Y none p) (hk79 : ∀ (x2 : Int32) (x3 : Int32) (M : g_M), k79 x2 x3 M = some p → g_G 5 X Y 79 [(0, g_r Y 43), (1, g_r Y 39), (2, .int x2), (3, .int x3)] [] M) (n : Nat) : ∀ (x2 : Int32) (x3 : Int32) (x4 : Int32) (M : g_M), g_lp3 (F_X6_findLeast_43_39_31 k79) n x2 x3 x4 M = some p → g_G 5 X Y 31 [(0, g_r Y 43), (1, g_r Y 39), (2, .int x2), (3, .int x3), (4, .int x4)] [] M := by
  induction n with
  | zero => intro x2 x3 x4 M h; exact (g_nn h).elim
  | succ n ih =>
    intro x2 x3 x4 M h
    have h : F_X6_findLeast_43_39_31 k79 (g_lp3 (F_X6_findLeast_43_39_31 k79) n) x2 x3 x4 M = some p := h
    generalize g_lp3 (F_X6_findLeast_43_39_31 k79) n = k at h ih
    unfold F_X6_findLeast_43_39_31 at h
    refine g_iload C 4 dX6_findLeast_31 (q := 33) rfl rfl ?_
    refine g_bipush C (v := 10) dX6_findLeast_33 (q := 35) rfl (by decide) ?_
    have hif := g_if h
    clear h
    refine g_icmp_ge C dX6_findLeast_35 (q := 38) (tgt := 79) rfl (by decide) (fun c => ?_) (fun c => ?_)
    · have h := hif.1 c
      clear hif
      refine g_sub [0, 1, 2, 3] (lv' := [(0, g_r Y 43), (1, g_r Y 39), (2, .int x2), (3, .int x3)]) rfl ?_
      exact hk79 x2 x3 M h
    · have h := hif.2 c
      clear hif
      refine g_iload_n C 3 dX6_findLeast_38 (q := 39) rfl rfl rfl ?_
      have hif := g_if h
      clear h
      refine g_if_ne C dX6_findLeast_39 (q := 42) (tgt := 79) rfl (by decide) (fun c => ?_) (fun c => ?_)
      · have h := hif.2 c
        clear hif
        refine g_sub [0, 1, 2, 3] (lv' := [(0, g_r Y 43), (1, g_r Y 39), (2, .int x2), (3, .int x3)]) rfl ?_
        exact hk79 x2 x3 M h
      · have h := hif.1 c
        clear hif
        refine g_iload_n C 2 dX6_findLeast_42 (q := 43) rfl rfl rfl ?_
        refine g_iload C 4 dX6_findLeast_43 (q := 45) rfl rfl ?_
        refine g_ishr C dX6_findLeast_45 (q := 46) rfl ?_
        refine g_iconst C (v := 1) dX6_findLeast_46 (q := 47) rfl (by decide) ?_
        refine g_iand C dX6_findLeast_47 (q := 48) rfl ?_
        have hif := g_if h
        clear h
        refine g_if_eq C dX6_findLeast_48 (q := 51) (tgt := 71) rfl (by decide) (fun c => ?_) (fun c => ?_)
        · have h := hif.1 c
          clear hif
          refine g_iconst C (v := 0) dX6_findLeast_71 (q := 72) rfl (by decide) ?_
          refine g_istore_n C dX6_findLeast_72 (q := 73) rfl rfl (by decide) (lv' := [(3, .int 0), (0, g_r Y 43), (1, g_r Y 39), (2, .int x2), (4, .int x4)]) rfl ?_
          refine g_iinc C (k := 4) (v := x4 + 1) dX6_findLeast_73 (q := 76) rfl rfl rfl (by decide) (lv' := [(4, .int (x4 + 1)), (3, .int 0), (0, g_r Y 43), (1, g_r Y 39), (2, .int x2)]) rfl ?_
          refine g_goto C dX6_findLeast_76 (tgt := 31) (by decide) ?_
          refine g_sub [2, 3, 4, 1, 0] (lv' := [(0, g_r Y 43), (1, g_r Y 39), (2, .int x2), (3, .int 0), (4, .int (x4 + 1))]) rfl ?_
          exact ih x2 0 (x4 + 1) M h
        · have h := hif.2 c
          clear hif
          refine g_aload_n C 0 dX6_findLeast_51 (q := 52) rfl rfl rfl ?_
          refine g_get C (k := 43) (i := 2) (by decide) (gc_43 Y _ _) rfl kU_X6 (by decide) kF_X6_15 rfl dX6_findLeast_52 (q := 55) rfl ?_
          refine g_iload_n C 2 dX6_findLeast_55 (q := 56) rfl rfl rfl ?_
          refine g_iconst C (v := 1) dX6_findLeast_56 (q := 57) rfl (by decide) ?_
          refine g_iload C 4 dX6_findLeast_57 (q := 59) rfl rfl ?_
          refine g_ishl C dX6_findLeast_59 (q := 60) rfl ?_
          refine g_iconst C (v := (-1)) dX6_findLeast_60 (q := 61) rfl (by decide) ?_
          refine g_ixor C dX6_findLeast_61 (q := 62) rfl ?_
          refine g_iand C dX6_findLeast_62 (q := 63) rfl ?_
          obtain ⟨v2, hv2, h⟩ := g_bind h
          refine g_zald C (k := 45) (n := 1024) (by decide) (gc_45 Y _ _) hv2 dX6_findLeast_63 (q := 64) rfl ?_
          have hif := g_if h
          clear h
          refine g_if_eq C dX6_findLeast_64 (q := 67) (tgt := 71) rfl (by decide) (fun c => ?_) (fun c => ?_)
          · have h := hif.1 c
            clear hif
            refine g_iconst C (v := 0) dX6_findLeast_71 (q := 72) rfl (by decide) ?_
            refine g_istore_n C dX6_findLeast_72 (q := 73) rfl rfl (by decide) (lv' := [(3, .int 0), (0, g_r Y 43), (1, g_r Y 39), (2, .int x2), (4, .int x4)]) rfl ?_
            refine g_iinc C (k := 4) (v := x4 + 1) dX6_findLeast_73 (q := 76) rfl rfl rfl (by decide) (lv' := [(4, .int (x4 + 1)), (3, .int 0), (0, g_r Y 43), (1, g_r Y 39), (2, .int x2)]) rfl ?_
            refine g_goto C dX6_findLeast_76 (tgt := 31) (by decide) ?_
            refine g_sub [2, 3, 4, 1, 0] (lv' := [(0, g_r Y 43), (1, g_r Y 39), (2, .int x2), (3, .int 0), (4, .int (x4 + 1))]) rfl ?_
            exact ih x2 0 (x4 + 1) M h
          · have h := hif.2 c
            clear hif
            refine g_iconst C (v := 1) dX6_findLeast_67 (q := 68) rfl (by decide) ?_
            refine g_goto C dX6_findLeast_68 (tgt := 72) (by decide) ?_
            refine g_istore_n C dX6_findLeast_72 (q := 73) rfl rfl (by decide) (lv' := [(3, .int 1), (0, g_r Y 43), (1, g_r Y 39), (2, .int x2), (4, .int x4)]) rfl ?_
            refine g_iinc C (k := 4) (v := x4 + 1) dX6_findLeast_73 (q := 76) rfl rfl rfl (by decide) (lv' := [(4, .int (x4 + 1)), (3, .int 1), (0, g_r Y 43), (1, g_r Y 39), (2, .int x2)]) rfl ?_
            refine g_goto C dX6_findLeast_76 (tgt := 31) (by decide) ?_
            refine g_sub [2, 3, 4, 1, 0] (lv' := [(0, g_r Y 43), (1, g_r Y 39), (2, .int x2), (3, .int 1), (4, .int (x4 + 1))]) rfl ?_
            exact ih x2 1 (x4 + 1) M h
theorem r_X6_findLeast_43_39_31 {p : g_M} {k79 : Int32 → Int32 → g_M → Option (g_M)} (hk79 : ∀ (x2 : Int32) (x3 : Int32) (M : g_M), k79 x2 x3 M = some p → g_fr [44, 45] [(43, 1)] M p) (n : Nat) : ∀ (x2 : Int32) (x3 : Int32) (x4 : Int32) (M : g_M), g_lp3 (F_X6_findLeast_43_39_31 k79) n x2 x3 x4 M = some p → g_fr [44, 45] [(43, 1)] M p := by
  induction n with
  | zero => intro x2 x3 x4 M h; exact (g_nn h).elim
  | succ n ih =>
    intro x2 x3 x4 M h
    have h : F_X6_findLeast_43_39_31 k79 (g_lp3 (F_X6_findLeast_43_39_31 k79) n) x2 x3 x4 M = some p := h
    generalize g_lp3 (F_X6_findLeast_43_39_31 k79) n = k at h ih
    unfold F_X6_findLeast_43_39_31 at h
    have hf := g_fr.rfl (S := [44, 45]) (T := [(43, 1)]) (M := M)
    rcases g_ifs h with h | h
    · exact hf.trans (hk79 x2 x3 M h)
    · rcases g_ifs h with h | h
      · rcases g_ifs h with h | h
        · exact hf.trans (ih x2 0 (x4 + 1) M h)
        · obtain ⟨v2, -, h⟩ := g_bind h
          rcases g_ifs h with h | h
          · exact hf.trans (ih x2 0 (x4 + 1) M h)
          · exact hf.trans (ih x2 1 (x4 + 1) M h)
      · exact hf.trans (hk79 x2 x3 M h)
def f_X6_findLeast_43_39_102 (k : Int32 → g_M → Option (g_M)) (x2 : Int32) (x3 : Int32) (s0 : Int32) (s1 : Int32) (M : g_M) : Option (g_M) :=
  (g_bz s0).bind fun z4 => (g_st M 45 1024 s1 z4).bind fun M3 => (g_ld M3 45 1024 x2).bind fun v5 => (if v5 = 0 then (k (x2 + 1) M3) else ((if x3 = 0 then ((f_X6_add x2 M3).bind fun p6 => k (x2 + 1) p6) else (k (x2 + 1) M3))))
set_option maxRecDepth 100000 in
theorem t_X6_findLeast_43_39_102 {l : Launch} {X : g_X} {Y : g_Y} {p : g_M} {k : Int32 → g_M → Option (g_M)} (C : g_C l (g_rm (1)) RX6 cX6_findLeast 5 X Y) (E : g_E none X Y none p) (ih : ∀ (x2 : Int32) (M : g_M), k x2 M = some p → g_G 5 X Y 7 [(0, g_r Y 43), (1, g_r Y 39), (2, .int x2)] [] M) (x2 : Int32) (x3 : Int32) (s0 : Int32) (s1 : Int32) (M : g_M) (h : f_X6_findLeast_43_39_102 k x2 x3 s0 s1 M = some p) : g_G 5 X Y 102 [(0, g_r Y 43), (1, g_r Y 39), (2, .int x2), (3, .int x3)] [.int s0, .int s1, g_r Y 45] M := by
  unfold f_X6_findLeast_43_39_102 at h
  obtain ⟨z4, hz4, h⟩ := g_bind h
  obtain ⟨M3, hM3, h⟩ := g_bind h
  refine g_zast C (k := 45) (n := 1024) (by decide) (fun a => gc_45 Y a _) hz4 hM3 dX6_findLeast_102 (q := 103) rfl ?_
  refine g_aload_n C 0 dX6_findLeast_103 (q := 104) rfl rfl rfl ?_
  refine g_get C (k := 43) (i := 2) (by decide) (gc_43 Y _ _) rfl kU_X6 (by decide) kF_X6_15 rfl dX6_findLeast_104 (q := 107) rfl ?_
  refine g_iload_n C 2 dX6_findLeast_107 (q := 108) rfl rfl rfl ?_
  obtain ⟨v5, hv5, h⟩ := g_bind h
  refine g_zald C (k := 45) (n := 1024) (by decide) (gc_45 Y _ _) hv5 dX6_findLeast_108 (q := 109) rfl ?_
  have hif := g_if h
  clear h
  refine g_if_eq C dX6_findLeast_109 (q := 112) (tgt := 121) rfl (by decide) (fun c => ?_) (fun c => ?_)
  · have h := hif.1 c
    clear hif
    refine g_iinc C (k := 2) (v := x2 + 1) dX6_findLeast_121 (q := 124) rfl rfl rfl (by decide) (lv' := [(2, .int (x2 + 1)), (0, g_r Y 43), (1, g_r Y 39), (3, .int x3)]) rfl ?_
    refine g_goto C dX6_findLeast_124 (tgt := 7) (by decide) ?_
    refine g_sub [1, 2, 0] (lv' := [(0, g_r Y 43), (1, g_r Y 39), (2, .int (x2 + 1))]) rfl ?_
    exact ih (x2 + 1) M3 h
  · have h := hif.2 c
    clear hif
    refine g_iload_n C 3 dX6_findLeast_112 (q := 113) rfl rfl rfl ?_
    have hif := g_if h
    clear h
    refine g_if_ne C dX6_findLeast_113 (q := 116) (tgt := 121) rfl (by decide) (fun c => ?_) (fun c => ?_)
    · have h := hif.2 c
      clear hif
      refine g_iinc C (k := 2) (v := x2 + 1) dX6_findLeast_121 (q := 124) rfl rfl rfl (by decide) (lv' := [(2, .int (x2 + 1)), (0, g_r Y 43), (1, g_r Y 39), (3, .int x3)]) rfl ?_
      refine g_goto C dX6_findLeast_124 (tgt := 7) (by decide) ?_
      refine g_sub [1, 2, 0] (lv' := [(0, g_r Y 43), (1, g_r Y 39), (2, .int (x2 + 1))]) rfl ?_
      exact ih (x2 + 1) M3 h
    · have h := hif.1 c
      clear hif
      refine g_aload_n C 0 dX6_findLeast_116 (q := 117) rfl rfl rfl ?_
      refine g_iload_n C 2 dX6_findLeast_117 (q := 118) rfl rfl rfl ?_
      obtain ⟨p6, hp6, h⟩ := g_bind h
      refine g_callV C (k := 43) (as := [.int x2]) (st := []) (m_X6_add hp6) (g_hR (by decide)) (by decide) (by decide) (gc_43 Y _ _) rfl kM_X6_31 kI_X6_add kS_X6_add kN_X6 kC_X6_add kD_X6_add rfl (Nat.le_of_ble_eq_true rfl) dX6_findLeast_118 (q := 121) rfl ?_
      show g_G 5 X Y 121 [(0, g_r Y 43), (1, g_r Y 39), (2, .int x2), (3, .int x3)] [] p6
      refine g_iinc C (k := 2) (v := x2 + 1) dX6_findLeast_121 (q := 124) rfl rfl rfl (by decide) (lv' := [(2, .int (x2 + 1)), (0, g_r Y 43), (1, g_r Y 39), (3, .int x3)]) rfl ?_
      refine g_goto C dX6_findLeast_124 (tgt := 7) (by decide) ?_
      refine g_sub [1, 2, 0] (lv' := [(0, g_r Y 43), (1, g_r Y 39), (2, .int (x2 + 1))]) rfl ?_
      exact ih (x2 + 1) p6 h
theorem r_X6_findLeast_43_39_102 {p : g_M} {k : Int32 → g_M → Option (g_M)} (ih : ∀ (x2 : Int32) (M : g_M), k x2 M = some p → g_fr [44, 45] [(43, 1)] M p) (x2 : Int32) (x3 : Int32) (s0 : Int32) (s1 : Int32) (M : g_M) (h : f_X6_findLeast_43_39_102 k x2 x3 s0 s1 M = some p) : g_fr [44, 45] [(43, 1)] M p := by
  unfold f_X6_findLeast_43_39_102 at h
  have hf := g_fr.rfl (S := [44, 45]) (T := [(43, 1)]) (M := M)
  obtain ⟨z4, -, h⟩ := g_bind h
  obtain ⟨M3, hM3, h⟩ := g_bind h
  have hf := hf.st hM3 (by decide)
  obtain ⟨v5, -, h⟩ := g_bind h
  rcases g_ifs h with h | h
  · exact hf.trans (ih (x2 + 1) M3 h)
  · rcases g_ifs h with h | h
    · obtain ⟨p6, hp6, h⟩ := g_bind h
      have hf := hf.trans ((r_X6_add hp6).mono (by decide) (by decide))
      exact hf.trans (ih (x2 + 1) p6 h)
    · exact hf.trans (ih (x2 + 1) M3 h)
def f_X6_findLeast_43_39_79 (k : Int32 → g_M → Option (g_M)) (x2 : Int32) (x3 : Int32) (M : g_M) : Option (g_M) :=
  (if x3 = 0 then ((g_ld M 40 1024 x2).bind fun v7 => (if v7 = 0 then (f_X6_findLeast_43_39_102 k x2 x3 0 x2 M) else (f_X6_findLeast_43_39_102 k x2 x3 1 x2 M))) else (f_X6_findLeast_43_39_102 k x2 x3 1 x2 M))
set_option maxRecDepth 100000 in
theorem t_X6_findLeast_43_39_79 {l : Launch} {X : g_X} {Y : g_Y} {p : g_M} {k : Int32 → g_M → Option (g_M)} (C : g_C l (g_rm (1)) RX6 cX6_findLeast 5 X Y) (E : g_E none X Y none p) (ih : ∀ (x2 : Int32) (M : g_M), k x2 M = some p → g_G 5 X Y 7 [(0, g_r Y 43), (1, g_r Y 39), (2, .int x2)] [] M) (x2 : Int32) (x3 : Int32) (M : g_M) (h : f_X6_findLeast_43_39_79 k x2 x3 M = some p) : g_G 5 X Y 79 [(0, g_r Y 43), (1, g_r Y 39), (2, .int x2), (3, .int x3)] [] M := by
  unfold f_X6_findLeast_43_39_79 at h
  refine g_aload_n C 0 dX6_findLeast_79 (q := 80) rfl rfl rfl ?_
  refine g_get C (k := 43) (i := 2) (by decide) (gc_43 Y _ _) rfl kU_X6 (by decide) kF_X6_15 rfl dX6_findLeast_80 (q := 83) rfl ?_
  refine g_iload_n C 2 dX6_findLeast_83 (q := 84) rfl rfl rfl ?_
  refine g_iload_n C 3 dX6_findLeast_84 (q := 85) rfl rfl rfl ?_
  have hif := g_if h
  clear h
  refine g_if_ne C dX6_findLeast_85 (q := 88) (tgt := 97) rfl (by decide) (fun c => ?_) (fun c => ?_)
  · have h := hif.2 c
    clear hif
    refine g_iconst C (v := 1) dX6_findLeast_97 (q := 98) rfl (by decide) ?_
    refine g_goto C dX6_findLeast_98 (tgt := 102) (by decide) ?_
    refine g_sub [0, 1, 2, 3] (lv' := [(0, g_r Y 43), (1, g_r Y 39), (2, .int x2), (3, .int x3)]) rfl ?_
    exact t_X6_findLeast_43_39_102 C E ih x2 x3 1 x2 M h
  · have h := hif.1 c
    clear hif
    refine g_aload_n C 1 dX6_findLeast_88 (q := 89) rfl rfl rfl ?_
    refine g_get C (k := 39) (i := 0) (by decide) (gc_39 Y _ _) rfl kU_X1 (by decide) kF_X6_28 rfl dX6_findLeast_89 (q := 92) rfl ?_
    refine g_iload_n C 2 dX6_findLeast_92 (q := 93) rfl rfl rfl ?_
    obtain ⟨v7, hv7, h⟩ := g_bind h
    refine g_zald C (k := 40) (n := 1024) (by decide) (gc_40 Y _ _) hv7 dX6_findLeast_93 (q := 94) rfl ?_
    have hif := g_if h
    clear h
    refine g_if_eq C dX6_findLeast_94 (q := 97) (tgt := 101) rfl (by decide) (fun c => ?_) (fun c => ?_)
    · have h := hif.1 c
      clear hif
      refine g_iconst C (v := 0) dX6_findLeast_101 (q := 102) rfl (by decide) ?_
      refine g_sub [0, 1, 2, 3] (lv' := [(0, g_r Y 43), (1, g_r Y 39), (2, .int x2), (3, .int x3)]) rfl ?_
      exact t_X6_findLeast_43_39_102 C E ih x2 x3 0 x2 M h
    · have h := hif.2 c
      clear hif
      refine g_iconst C (v := 1) dX6_findLeast_97 (q := 98) rfl (by decide) ?_
      refine g_goto C dX6_findLeast_98 (tgt := 102) (by decide) ?_
      refine g_sub [0, 1, 2, 3] (lv' := [(0, g_r Y 43), (1, g_r Y 39), (2, .int x2), (3, .int x3)]) rfl ?_
      exact t_X6_findLeast_43_39_102 C E ih x2 x3 1 x2 M h
theorem r_X6_findLeast_43_39_79 {p : g_M} {k : Int32 → g_M → Option (g_M)} (ih : ∀ (x2 : Int32) (M : g_M), k x2 M = some p → g_fr [44, 45] [(43, 1)] M p) (x2 : Int32) (x3 : Int32) (M : g_M) (h : f_X6_findLeast_43_39_79 k x2 x3 M = some p) : g_fr [44, 45] [(43, 1)] M p := by
  unfold f_X6_findLeast_43_39_79 at h
  have hf := g_fr.rfl (S := [44, 45]) (T := [(43, 1)]) (M := M)
  rcases g_ifs h with h | h
  · obtain ⟨v7, -, h⟩ := g_bind h
    rcases g_ifs h with h | h
    · exact hf.trans (r_X6_findLeast_43_39_102 ih x2 x3 0 x2 M h)
    · exact hf.trans (r_X6_findLeast_43_39_102 ih x2 x3 1 x2 M h)
  · exact hf.trans (r_X6_findLeast_43_39_102 ih x2 x3 1 x2 M h)
def F_X6_findLeast_43_39_7 (k127 : g_M → Option (g_M)) (k : Int32 → g_M → Option (g_M)) (x2 : Int32) (M : g_M) : Option (g_M) :=
  (if (M.1 39 1) < x2 then (k127 M) else ((if (x2 &&& ((M.1 39 1) ^^^ (-1))) = 0 then (g_lp3 (F_X6_findLeast_43_39_31 (fun (x2 : Int32) (x3 : Int32) (M : g_M) => f_X6_findLeast_43_39_79 k x2 x3 M)) 20000000 x2 0 0 M) else (k (x2 + 1) M))))
set_option maxRecDepth 100000 in
theorem t_X6_findLeast_43_39_7 {l : Launch} {X : g_X} {Y : g_Y} {p : g_M} {k127 : g_M → Option (g_M)} (C : g_C l (g_rm (1)) RX6 cX6_findLeast 5 X Y) (E : g_E none X Y none p) (hk127 : ∀ (M : g_M), k127 M = some p → g_G 5 X Y 127 [] [] M) (n : Nat) : ∀ (x2 : Int32) (M : g_M), g_lp1 (F_X6_findLeast_43_39_7 k127) n x2 M = some p → g_G 5 X Y 7 [(0, g_r Y 43), (1, g_r Y 39), (2, .int x2)] [] M := by
  induction n with
  | zero => intro x2 M h; exact (g_nn h).elim
  | succ n ih =>
    intro x2 M h
    have h : F_X6_findLeast_43_39_7 k127 (g_lp1 (F_X6_findLeast_43_39_7 k127) n) x2 M = some p := h
    generalize g_lp1 (F_X6_findLeast_43_39_7 k127) n = k at h ih
    unfold F_X6_findLeast_43_39_7 at h
    refine g_iload_n C 2 dX6_findLeast_7 (q := 8) rfl rfl rfl ?_
    refine g_aload_n C 1 dX6_findLeast_8 (q := 9) rfl rfl rfl ?_
    refine g_get C (k := 39) (i := 1) (by decide) (gc_39 Y _ _) rfl kU_X1 (by decide) kF_X6_23 rfl dX6_findLeast_9 (q := 12) rfl ?_
    have hif := g_if h
    clear h
    refine g_icmp_gt C dX6_findLeast_12 (q := 15) (tgt := 127) rfl (by decide) (fun c => ?_) (fun c => ?_)
    · have h := hif.1 c
      clear hif
      refine g_sub [] (lv' := []) rfl ?_
      exact hk127 M h
    · have h := hif.2 c
      clear hif
      refine g_iload_n C 2 dX6_findLeast_15 (q := 16) rfl rfl rfl ?_
      refine g_aload_n C 1 dX6_findLeast_16 (q := 17) rfl rfl rfl ?_
      refine g_get C (k := 39) (i := 1) (by decide) (gc_39 Y _ _) rfl kU_X1 (by decide) kF_X6_23 rfl dX6_findLeast_17 (q := 20) rfl ?_
      refine g_iconst C (v := (-1)) dX6_findLeast_20 (q := 21) rfl (by decide) ?_
      refine g_ixor C dX6_findLeast_21 (q := 22) rfl ?_
      refine g_iand C dX6_findLeast_22 (q := 23) rfl ?_
      have hif := g_if h
      clear h
      refine g_if_ne C dX6_findLeast_23 (q := 26) (tgt := 121) rfl (by decide) (fun c => ?_) (fun c => ?_)
      · have h := hif.2 c
        clear hif
        refine g_iinc C (k := 2) (v := x2 + 1) dX6_findLeast_121 (q := 124) rfl rfl rfl (by decide) (lv' := [(2, .int (x2 + 1)), (0, g_r Y 43), (1, g_r Y 39)]) rfl ?_
        refine g_goto C dX6_findLeast_124 (tgt := 7) (by decide) ?_
        refine g_sub [1, 2, 0] (lv' := [(0, g_r Y 43), (1, g_r Y 39), (2, .int (x2 + 1))]) rfl ?_
        exact ih (x2 + 1) M h
      · have h := hif.1 c
        clear hif
        refine g_iconst C (v := 0) dX6_findLeast_26 (q := 27) rfl (by decide) ?_
        refine g_istore_n C dX6_findLeast_27 (q := 28) rfl rfl (by decide) (lv' := [(3, .int 0), (0, g_r Y 43), (1, g_r Y 39), (2, .int x2)]) rfl ?_
        refine g_iconst C (v := 0) dX6_findLeast_28 (q := 29) rfl (by decide) ?_
        refine g_istore C dX6_findLeast_29 (q := 31) rfl (by decide) (lv' := [(4, .int 0), (3, .int 0), (0, g_r Y 43), (1, g_r Y 39), (2, .int x2)]) rfl ?_
        refine g_sub [2, 3, 4, 1, 0] (lv' := [(0, g_r Y 43), (1, g_r Y 39), (2, .int x2), (3, .int 0), (4, .int 0)]) rfl ?_
        refine t_X6_findLeast_43_39_31 C E ?_ 20000000 x2 0 0 M h
        · intro x2 x3 M h
          try dsimp only at h
          refine g_sub [0, 1, 2, 3] (lv' := [(0, g_r Y 43), (1, g_r Y 39), (2, .int x2), (3, .int x3)]) rfl ?_
          exact t_X6_findLeast_43_39_79 C E ih x2 x3 M h
theorem r_X6_findLeast_43_39_7 {p : g_M} {k127 : g_M → Option (g_M)} (hk127 : ∀ (M : g_M), k127 M = some p → g_fr [44, 45] [(43, 1)] M p) (n : Nat) : ∀ (x2 : Int32) (M : g_M), g_lp1 (F_X6_findLeast_43_39_7 k127) n x2 M = some p → g_fr [44, 45] [(43, 1)] M p := by
  induction n with
  | zero => intro x2 M h; exact (g_nn h).elim
  | succ n ih =>
    intro x2 M h
    have h : F_X6_findLeast_43_39_7 k127 (g_lp1 (F_X6_findLeast_43_39_7 k127) n) x2 M = some p := h
    generalize g_lp1 (F_X6_findLeast_43_39_7 k127) n = k at h ih
    unfold F_X6_findLeast_43_39_7 at h
    have hf := g_fr.rfl (S := [44, 45]) (T := [(43, 1)]) (M := M)
    rcases g_ifs h with h | h
    · exact hf.trans (hk127 M h)
    · rcases g_ifs h with h | h
      · refine hf.trans (r_X6_findLeast_43_39_31 ?_ 20000000 x2 0 0 M h)
        · intro x2 x3 M h
          try dsimp only at h
          have hf := g_fr.rfl (S := [44, 45]) (T := [(43, 1)]) (M := M)
          exact hf.trans (r_X6_findLeast_43_39_79 ih x2 x3 M h)
      · exact hf.trans (ih (x2 + 1) M h)
def f_X6_findLeast_43_39 (M : g_M) : Option (g_M) :=
  (some (g_u M 43 1 0)).bind fun M1 => g_lp1 (F_X6_findLeast_43_39_7 (fun (M : g_M) => some M)) 20000000 0 M1
set_option maxRecDepth 100000 in
theorem m_X6_findLeast_43_39 {l : Launch} {Y : g_Y} {M : g_M} {p : g_M} (h : f_X6_findLeast_43_39 M = some p) : g_R l Y (1) yX6_findLeast cX6_findLeast 5 none [g_r Y 43, g_r Y 39] M none p := by
  unfold f_X6_findLeast_43_39 at h
  refine g_R_of kP_X6 rfl (Nat.le_of_ble_eq_true rfl) (fun X C E => ?_)
  show g_G 5 X Y 0 [(0, g_r Y 43), (1, g_r Y 39)] [] M
  refine g_aload_n C 0 dX6_findLeast_0 (q := 1) rfl rfl rfl ?_
  refine g_iconst C (v := 0) dX6_findLeast_1 (q := 2) rfl (by decide) ?_
  obtain ⟨M1, hM1, h⟩ := g_bind h
  refine g_put C (k := 43) (i := 1) (ty := .int) (by decide) (gc_43 Y _ _) (gp_43_1 Y _ _ _) rfl kU_X6 tyX6_ok nmX6 (by decide) kF_X6_19 rfl rfl rfl rfl (Nat.le_of_ble_eq_true rfl) dX6_findLeast_2 (q := 5) rfl ?_
  refine g_mem hM1 ?_
  refine g_iconst C (v := 0) dX6_findLeast_5 (q := 6) rfl (by decide) ?_
  refine g_istore_n C dX6_findLeast_6 (q := 7) rfl rfl (by decide) (lv' := [(2, .int 0), (0, g_r Y 43), (1, g_r Y 39)]) rfl ?_
  refine g_sub [1, 2, 0] (lv' := [(0, g_r Y 43), (1, g_r Y 39), (2, .int 0)]) rfl ?_
  refine t_X6_findLeast_43_39_7 C E ?_ 20000000 0 M1 h
  · intro M h
    try dsimp only at h
    obtain rfl := Option.some.inj h
    exact g_vret C E dX6_findLeast_127
theorem r_X6_findLeast_43_39 {M : g_M} {p : g_M} (h : f_X6_findLeast_43_39 M = some p) : g_fr [44, 45] [(43, 1)] M p := by
  unfold f_X6_findLeast_43_39 at h
  have hf := g_fr.rfl (S := [44, 45]) (T := [(43, 1)]) (M := M)
  obtain ⟨M1, hM1, h⟩ := g_bind h
  have hf := hf.pu hM1 (by decide)
  refine hf.trans (r_X6_findLeast_43_39_7 ?_ 20000000 0 M1 h)
  · intro M h
    try dsimp only at h
    have hf := g_fr.rfl (S := [44, 45]) (T := [(43, 1)]) (M := M)
    obtain rfl := Option.some.inj h
    exact hf
