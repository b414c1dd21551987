def f_X12_byteAt (x1 : Int32) (M : g_M) : Option (Int32) :=
  (if x1 < (M.1 59 7) then ((if (M.1 59 6) = 0 then ((g_ld M 62 120 x1).bind fun v2 => some v2) else ((g_ld M 60 1208 ((M.1 59 6) + x1)).bind fun v1 => some v1))) else (some (-1)))
set_option maxRecDepth 100000 in
theorem m_X12_byteAt {l : Launch} {Y : g_Y} {x1 : Int32} {M : g_M} {p : Int32} (h : f_X12_byteAt x1 M = some p) : g_R l Y (0) yX12_byteAt cX12_byteAt 2 (some .int) [g_r Y 59, .int x1] M (some (.int p)) M := by
  unfold f_X12_byteAt at h
  refine g_R_of kP_X12 rfl (Nat.le_of_ble_eq_true rfl) (fun X C E => ?_)
  show g_G 2 X Y 0 [(0, g_r Y 59), (1, .int x1)] [] M
  refine g_iload_n C 1 dX12_byteAt_0 (q := 1) rfl rfl rfl ?_
  refine g_aload_n C 0 dX12_byteAt_1 (q := 2) rfl rfl rfl ?_
  refine g_get C (k := 59) (i := 7) (by decide) (gc_59 Y _ _) rfl kU_X12 (by decide) kF_X12_68 rfl dX12_byteAt_2 (q := 5) rfl ?_
  have hif := g_if h
  clear h
  refine g_icmp_lt C dX12_byteAt_5 (q := 8) (tgt := 12) rfl (by decide) (fun c => ?_) (fun c => ?_)
  · have h := hif.1 c
    clear hif
    refine g_aload_n C 0 dX12_byteAt_12 (q := 13) rfl rfl rfl ?_
    refine g_get C (k := 59) (i := 6) (by decide) (gc_59 Y _ _) rfl kU_X12 (by decide) kF_X12_72 rfl dX12_byteAt_13 (q := 16) rfl ?_
    have hif := g_if h
    clear h
    refine g_if_ne C dX12_byteAt_16 (q := 19) (tgt := 28) rfl (by decide) (fun c => ?_) (fun c => ?_)
    · have h := hif.2 c
      clear hif
      refine g_aload_n C 0 dX12_byteAt_28 (q := 29) rfl rfl rfl ?_
      refine g_get C (k := 59) (i := 0) (by decide) (gc_59 Y _ _) rfl kU_X12 (by decide) kF_X12_7 rfl dX12_byteAt_29 (q := 32) rfl ?_
      refine g_aload_n C 0 dX12_byteAt_32 (q := 33) rfl rfl rfl ?_
      refine g_get C (k := 59) (i := 6) (by decide) (gc_59 Y _ _) rfl kU_X12 (by decide) kF_X12_72 rfl dX12_byteAt_33 (q := 36) rfl ?_
      refine g_iload_n C 1 dX12_byteAt_36 (q := 37) rfl rfl rfl ?_
      refine g_iadd C dX12_byteAt_37 (q := 38) rfl ?_
      obtain ⟨v1, hv1, h⟩ := g_bind h
      refine g_iald C (k := 60) (n := 1208) (by decide) (gc_60 Y _ _) hv1 dX12_byteAt_38 (q := 39) rfl ?_
      obtain rfl := Option.some.inj h
      exact g_iret C E dX12_byteAt_39
    · have h := hif.1 c
      clear hif
      refine g_aload_n C 0 dX12_byteAt_19 (q := 20) rfl rfl rfl ?_
      refine g_get C (k := 59) (i := 3) (by decide) (gc_59 Y _ _) rfl kU_X12 (by decide) kF_X12_16 rfl dX12_byteAt_20 (q := 23) rfl ?_
      refine g_iload_n C 1 dX12_byteAt_23 (q := 24) rfl rfl rfl ?_
      obtain ⟨v2, hv2, h⟩ := g_bind h
      refine g_iald C (k := 62) (n := 120) (by decide) (gc_62 Y _ _) hv2 dX12_byteAt_24 (q := 25) rfl ?_
      refine g_goto C dX12_byteAt_25 (tgt := 39) (by decide) ?_
      obtain rfl := Option.some.inj h
      exact g_iret C E dX12_byteAt_39
  · have h := hif.2 c
    clear hif
    refine g_iconst C (v := (-1)) dX12_byteAt_8 (q := 9) rfl (by decide) ?_
    refine g_goto C dX12_byteAt_9 (tgt := 39) (by decide) ?_
    obtain rfl := Option.some.inj h
    exact g_iret C E dX12_byteAt_39
def F_X12_isWord_59_37 (M : g_M) (j : Nat) (k79 : Int32 → Option (Int32)) (k : Int32 → Int32 → Option (Int32)) (x2 : Int32) (x3 : Int32) : Option (Int32) :=
  (f_J0_length_8abf5 j M).bind fun p2 => (if p2 ≤ x3 then (k79 x2) else ((if x2 = 0 then (k 0 (x3 + 1)) else ((f_X12_byteAt ((M.1 59 12) + x3) M).bind fun p3 => (f_J0_charAt_5068e j x3 M).bind fun p4 => (if p3 = p4 then (k 1 (x3 + 1)) else (k 0 (x3 + 1)))))))
set_option maxRecDepth 100000 in
theorem t_X12_isWord_59_37 {l : Launch} {X : g_X} {Y : g_Y} {p : Int32} {M : g_M} {k79 : Int32 → Option (Int32)} (j : Nat) (C : g_C l (g_rm (5)) RX12 cX12_isWord 4 X Y) (E : g_E (some .boolean) X Y (some (.int p)) M) (hj : j < 11) (hk79 : ∀ (x2 : Int32), k79 x2 = some p → g_G 4 X Y 79 [(2, .int x2)] [] M) (n : Nat) : ∀ (x2 : Int32) (x3 : Int32), g_lq2 (F_X12_isWord_59_37 M j k79) n x2 x3 = some p → g_G 4 X Y 37 [(0, g_r Y 59), (1, .ref (Y.2.2.2.1 j)), (2, .int x2), (3, .int x3)] [] M := by
  induction n with
  | zero => intro x2 x3 h; exact (g_nn h).elim
  | succ n ih =>
    intro x2 x3 h
    have h : F_X12_isWord_59_37 M j k79 (g_lq2 (F_X12_isWord_59_37 M j k79) n) x2 x3 = some p := h
    generalize g_lq2 (F_X12_isWord_59_37 M j k79) n = k at h ih
    unfold F_X12_isWord_59_37 at h
    refine g_iload_n C 3 dX12_isWord_37 (q := 38) rfl rfl rfl ?_
    refine g_aload_n C 1 dX12_isWord_38 (q := 39) rfl rfl rfl ?_
    obtain ⟨p2, hp2, h⟩ := g_bind h
    refine g_callT C (j := j) (as := []) (st := [.int x3]) (m_J0_length_8abf5 (by omega) hp2) (g_hR (by decide)) (by decide) (by omega) kM_X12_102 kI_J0_length_8abf5 kS_J0_length_8abf5 kN_J0 kC_J0_length_8abf5 kD_J0_length_8abf5 rfl (Nat.le_of_ble_eq_true rfl) dX12_isWord_39 (q := 42) rfl ?_
    show g_G 4 X Y 42 [(0, g_r Y 59), (1, .ref (Y.2.2.2.1 j)), (2, .int x2), (3, .int x3)] [.int p2, .int x3] M
    have hif := g_if h
    clear h
    refine g_icmp_ge C dX12_isWord_42 (q := 45) (tgt := 79) rfl (by decide) (fun c => ?_) (fun c => ?_)
    · have h := hif.1 c
      clear hif
      refine g_sub [2] (lv' := [(2, .int x2)]) rfl ?_
      exact hk79 x2 h
    · have h := hif.2 c
      clear hif
      refine g_iload_n C 2 dX12_isWord_45 (q := 46) rfl rfl rfl ?_
      have hif := g_if h
      clear h
      refine g_if_eq C dX12_isWord_46 (q := 49) (tgt := 71) rfl (by decide) (fun c => ?_) (fun c => ?_)
      · have h := hif.1 c
        clear hif
        refine g_iconst C (v := 0) dX12_isWord_71 (q := 72) rfl (by decide) ?_
        refine g_istore_n C dX12_isWord_72 (q := 73) rfl rfl (by decide) (lv' := [(2, .int 0), (0, g_r Y 59), (1, .ref (Y.2.2.2.1 j)), (3, .int x3)]) rfl ?_
        refine g_iinc C (k := 3) (v := x3 + 1) dX12_isWord_73 (q := 76) rfl rfl rfl (by decide) (lv' := [(3, .int (x3 + 1)), (2, .int 0), (0, g_r Y 59), (1, .ref (Y.2.2.2.1 j))]) rfl ?_
        refine g_goto C dX12_isWord_76 (tgt := 37) (by decide) ?_
        refine g_sub [2, 3, 1, 0] (lv' := [(0, g_r Y 59), (1, .ref (Y.2.2.2.1 j)), (2, .int 0), (3, .int (x3 + 1))]) rfl ?_
        exact ih 0 (x3 + 1) h
      · have h := hif.2 c
        clear hif
        refine g_aload_n C 0 dX12_isWord_49 (q := 50) rfl rfl rfl ?_
        refine g_aload_n C 0 dX12_isWord_50 (q := 51) rfl rfl rfl ?_
        refine g_get C (k := 59) (i := 12) (by decide) (gc_59 Y _ _) rfl kU_X12 (by decide) kF_X12_82 rfl dX12_isWord_51 (q := 54) rfl ?_
        refine g_iload_n C 3 dX12_isWord_54 (q := 55) rfl rfl rfl ?_
        refine g_iadd C dX12_isWord_55 (q := 56) rfl ?_
        obtain ⟨p3, hp3, h⟩ := g_bind h
        refine g_callV C (k := 59) (as := [.int ((M.1 59 12) + x3)]) (st := []) (m_X12_byteAt hp3) (g_hR (by decide)) (by decide) (by decide) (gc_59 Y _ _) rfl kM_X12_78 kI_X12_byteAt kS_X12_byteAt kN_X12 kC_X12_byteAt kD_X12_byteAt rfl (Nat.le_of_ble_eq_true rfl) dX12_isWord_56 (q := 59) rfl ?_
        show g_G 4 X Y 59 [(0, g_r Y 59), (1, .ref (Y.2.2.2.1 j)), (2, .int x2), (3, .int x3)] [.int p3] M
        refine g_aload_n C 1 dX12_isWord_59 (q := 60) rfl rfl rfl ?_
        refine g_iload_n C 3 dX12_isWord_60 (q := 61) rfl rfl rfl ?_
        obtain ⟨p4, hp4, h⟩ := g_bind h
        refine g_callT C (j := j) (as := [.int x3]) (st := [.int p3]) (m_J0_charAt_5068e (by omega) hp4) (g_hR (by decide)) (by decide) (by omega) kM_X12_108 kI_J0_charAt_5068e kS_J0_charAt_5068e kN_J0 kC_J0_charAt_5068e kD_J0_charAt_5068e rfl (Nat.le_of_ble_eq_true rfl) dX12_isWord_61 (q := 64) rfl ?_
        show g_G 4 X Y 64 [(0, g_r Y 59), (1, .ref (Y.2.2.2.1 j)), (2, .int x2), (3, .int x3)] [.int p4, .int p3] M
        have hif := g_if h
        clear h
        refine g_icmp_ne C dX12_isWord_64 (q := 67) (tgt := 71) rfl (by decide) (fun c => ?_) (fun c => ?_)
        · have h := hif.2 c
          clear hif
          refine g_iconst C (v := 0) dX12_isWord_71 (q := 72) rfl (by decide) ?_
          refine g_istore_n C dX12_isWord_72 (q := 73) rfl rfl (by decide) (lv' := [(2, .int 0), (0, g_r Y 59), (1, .ref (Y.2.2.2.1 j)), (3, .int x3)]) rfl ?_
          refine g_iinc C (k := 3) (v := x3 + 1) dX12_isWord_73 (q := 76) rfl rfl rfl (by decide) (lv' := [(3, .int (x3 + 1)), (2, .int 0), (0, g_r Y 59), (1, .ref (Y.2.2.2.1 j))]) rfl ?_
          refine g_goto C dX12_isWord_76 (tgt := 37) (by decide) ?_
          refine g_sub [2, 3, 1, 0] (lv' := [(0, g_r Y 59), (1, .ref (Y.2.2.2.1 j)), (2, .int 0), (3, .int (x3 + 1))]) rfl ?_
          exact ih 0 (x3 + 1) h
        · have h := hif.1 c
          clear hif
          refine g_iconst C (v := 1) dX12_isWord_67 (q := 68) rfl (by decide) ?_
          refine g_goto C dX12_isWord_68 (tgt := 72) (by decide) ?_
          refine g_istore_n C dX12_isWord_72 (q := 73) rfl rfl (by decide) (lv' := [(2, .int 1), (0, g_r Y 59), (1, .ref (Y.2.2.2.1 j)), (3, .int x3)]) rfl ?_
          refine g_iinc C (k := 3) (v := x3 + 1) dX12_isWord_73 (q := 76) rfl rfl rfl (by decide) (lv' := [(3, .int (x3 + 1)), (2, .int 1), (0, g_r Y 59), (1, .ref (Y.2.2.2.1 j))]) rfl ?_
          refine g_goto C dX12_isWord_76 (tgt := 37) (by decide) ?_
          refine g_sub [2, 3, 1, 0] (lv' := [(0, g_r Y 59), (1, .ref (Y.2.2.2.1 j)), (2, .int 1), (3, .int (x3 + 1))]) rfl ?_
          exact ih 1 (x3 + 1) h
def f_X12_isWord_59 (j : Nat) (M : g_M) : Option (Int32) :=
  (if (M.1 59 16) = 0 then ((if (M.1 59 11) = 1 then ((f_J0_length_8abf5 j M).bind fun p1 => (if ((M.1 59 13) - (M.1 59 12)) = p1 then (g_lq2 (F_X12_isWord_59_37 M j (fun (x2 : Int32) => (g_bz x2).bind fun z5 => some z5)) 20000000 1 0) else (some 0))) else (some 0))) else (some 0))
set_option maxRecDepth 100000 in
theorem m_X12_isWord_59 {l : Launch} {Y : g_Y} (j : Nat) (hj : j < 11) {M : g_M} {p : Int32} (h : f_X12_isWord_59 j M = some p) : g_R l Y (5) yX12_isWord cX12_isWord 4 (some .boolean) [g_r Y 59, .ref (Y.2.2.2.1 j)] M (some (.int p)) M := by
  unfold f_X12_isWord_59 at h
  refine g_R_of kP_X12 rfl (Nat.le_of_ble_eq_true rfl) (fun X C E => ?_)
  show g_G 4 X Y 0 [(0, g_r Y 59), (1, .ref (Y.2.2.2.1 j))] [] M
  refine g_aload_n C 0 dX12_isWord_0 (q := 1) rfl rfl rfl ?_
  refine g_get C (k := 59) (i := 16) (by decide) (gc_59 Y _ _) rfl kU_X12 (by decide) kF_X12_98 rfl dX12_isWord_1 (q := 4) rfl ?_
  have hif := g_if h
  clear h
  refine g_if_ne C dX12_isWord_4 (q := 7) (tgt := 31) rfl (by decide) (fun c => ?_) (fun c => ?_)
  · have h := hif.2 c
    clear hif
    refine g_iconst C (v := 0) dX12_isWord_31 (q := 32) rfl (by decide) ?_
    obtain rfl := Option.some.inj h
    exact g_zret C (g_bz_lit (by decide)) E dX12_isWord_32
  · have h := hif.1 c
    clear hif
    refine g_aload_n C 0 dX12_isWord_7 (q := 8) rfl rfl rfl ?_
    refine g_get C (k := 59) (i := 11) (by decide) (gc_59 Y _ _) rfl kU_X12 (by decide) kF_X12_85 rfl dX12_isWord_8 (q := 11) rfl ?_
    refine g_iconst C (v := 1) dX12_isWord_11 (q := 12) rfl (by decide) ?_
    have hif := g_if h
    clear h
    refine g_icmp_ne C dX12_isWord_12 (q := 15) (tgt := 31) rfl (by decide) (fun c => ?_) (fun c => ?_)
    · have h := hif.2 c
      clear hif
      refine g_iconst C (v := 0) dX12_isWord_31 (q := 32) rfl (by decide) ?_
      obtain rfl := Option.some.inj h
      exact g_zret C (g_bz_lit (by decide)) E dX12_isWord_32
    · have h := hif.1 c
      clear hif
      refine g_aload_n C 0 dX12_isWord_15 (q := 16) rfl rfl rfl ?_
      refine g_get C (k := 59) (i := 13) (by decide) (gc_59 Y _ _) rfl kU_X12 (by decide) kF_X12_75 rfl dX12_isWord_16 (q := 19) rfl ?_
      refine g_aload_n C 0 dX12_isWord_19 (q := 20) rfl rfl rfl ?_
      refine g_get C (k := 59) (i := 12) (by decide) (gc_59 Y _ _) rfl kU_X12 (by decide) kF_X12_82 rfl dX12_isWord_20 (q := 23) rfl ?_
      refine g_isub C dX12_isWord_23 (q := 24) rfl ?_
      refine g_aload_n C 1 dX12_isWord_24 (q := 25) rfl rfl rfl ?_
      obtain ⟨p1, hp1, h⟩ := g_bind h
      refine g_callT C (j := j) (as := []) (st := [.int ((M.1 59 13) - (M.1 59 12))]) (m_J0_length_8abf5 (by omega) hp1) (g_hR (by decide)) (by decide) (by omega) kM_X12_102 kI_J0_length_8abf5 kS_J0_length_8abf5 kN_J0 kC_J0_length_8abf5 kD_J0_length_8abf5 rfl (Nat.le_of_ble_eq_true rfl) dX12_isWord_25 (q := 28) rfl ?_
      show g_G 4 X Y 28 [(0, g_r Y 59), (1, .ref (Y.2.2.2.1 j))] [.int p1, .int ((M.1 59 13) - (M.1 59 12))] M
      have hif := g_if h
      clear h
      refine g_icmp_eq C dX12_isWord_28 (q := 31) (tgt := 33) rfl (by decide) (fun c => ?_) (fun c => ?_)
      · have h := hif.1 c
        clear hif
        refine g_iconst C (v := 1) dX12_isWord_33 (q := 34) rfl (by decide) ?_
        refine g_istore_n C dX12_isWord_34 (q := 35) rfl rfl (by decide) (lv' := [(2, .int 1), (0, g_r Y 59), (1, .ref (Y.2.2.2.1 j))]) rfl ?_
        refine g_iconst C (v := 0) dX12_isWord_35 (q := 36) rfl (by decide) ?_
        refine g_istore_n C dX12_isWord_36 (q := 37) rfl rfl (by decide) (lv' := [(3, .int 0), (2, .int 1), (0, g_r Y 59), (1, .ref (Y.2.2.2.1 j))]) rfl ?_
        refine g_sub [2, 3, 1, 0] (lv' := [(0, g_r Y 59), (1, .ref (Y.2.2.2.1 j)), (2, .int 1), (3, .int 0)]) rfl ?_
        refine t_X12_isWord_59_37 j C E hj ?_ 20000000 1 0 h
        · intro x2 h
          try dsimp only at h
          refine g_iload_n C 0 dX12_isWord_79 (q := 80) rfl rfl rfl ?_
          obtain ⟨z5, hz5, h⟩ := g_bind h
          obtain rfl := Option.some.inj h
          exact g_zret C hz5 E dX12_isWord_80
      · have h := hif.2 c
        clear hif
        refine g_iconst C (v := 0) dX12_isWord_31 (q := 32) rfl (by decide) ?_
        obtain rfl := Option.some.inj h
        exact g_zret C (g_bz_lit (by decide)) E dX12_isWord_32
def f_X12_isSign (x1 : Int32) (M : g_M) : Option (Int32) :=
  (if (M.1 59 16) = 0 then ((if (M.1 59 11) = 3 then ((if (M.1 59 14) = x1 then (some 1) else (some 0))) else (some 0))) else (some 0))
set_option maxRecDepth 100000 in
theorem m_X12_isSign {l : Launch} {Y : g_Y} {x1 : Int32} {M : g_M} {p : Int32} (h : f_X12_isSign x1 M = some p) : g_R l Y (0) yX12_isSign cX12_isSign 2 (some .boolean) [g_r Y 59, .int x1] M (some (.int p)) M := by
  unfold f_X12_isSign at h
  refine g_R_of kP_X12 rfl (Nat.le_of_ble_eq_true rfl) (fun X C E => ?_)
  show g_G 2 X Y 0 [(0, g_r Y 59), (1, .int x1)] [] M
  refine g_aload_n C 0 dX12_isSign_0 (q := 1) rfl rfl rfl ?_
  refine g_get C (k := 59) (i := 16) (by decide) (gc_59 Y _ _) rfl kU_X12 (by decide) kF_X12_98 rfl dX12_isSign_1 (q := 4) rfl ?_
  have hif := g_if h
  clear h
  refine g_if_ne C dX12_isSign_4 (q := 7) (tgt := 27) rfl (by decide) (fun c => ?_) (fun c => ?_)
  · have h := hif.2 c
    clear hif
    refine g_iconst C (v := 0) dX12_isSign_27 (q := 28) rfl (by decide) ?_
    obtain rfl := Option.some.inj h
    exact g_zret C (g_bz_lit (by decide)) E dX12_isSign_28
  · have h := hif.1 c
    clear hif
    refine g_aload_n C 0 dX12_isSign_7 (q := 8) rfl rfl rfl ?_
    refine g_get C (k := 59) (i := 11) (by decide) (gc_59 Y _ _) rfl kU_X12 (by decide) kF_X12_85 rfl dX12_isSign_8 (q := 11) rfl ?_
    refine g_iconst C (v := 3) dX12_isSign_11 (q := 12) rfl (by decide) ?_
    have hif := g_if h
    clear h
    refine g_icmp_ne C dX12_isSign_12 (q := 15) (tgt := 27) rfl (by decide) (fun c => ?_) (fun c => ?_)
    · have h := hif.2 c
      clear hif
      refine g_iconst C (v := 0) dX12_isSign_27 (q := 28) rfl (by decide) ?_
      obtain rfl := Option.some.inj h
      exact g_zret C (g_bz_lit (by decide)) E dX12_isSign_28
    · have h := hif.1 c
      clear hif
      refine g_aload_n C 0 dX12_isSign_15 (q := 16) rfl rfl rfl ?_
      refine g_get C (k := 59) (i := 14) (by decide) (gc_59 Y _ _) rfl kU_X12 (by decide) kF_X12_95 rfl dX12_isSign_16 (q := 19) rfl ?_
      refine g_iload_n C 1 dX12_isSign_19 (q := 20) rfl rfl rfl ?_
      have hif := g_if h
      clear h
      refine g_icmp_ne C dX12_isSign_20 (q := 23) (tgt := 27) rfl (by decide) (fun c => ?_) (fun c => ?_)
      · have h := hif.2 c
        clear hif
        refine g_iconst C (v := 0) dX12_isSign_27 (q := 28) rfl (by decide) ?_
        obtain rfl := Option.some.inj h
        exact g_zret C (g_bz_lit (by decide)) E dX12_isSign_28
      · have h := hif.1 c
        clear hif
        refine g_iconst C (v := 1) dX12_isSign_23 (q := 24) rfl (by decide) ?_
        refine g_goto C dX12_isSign_24 (tgt := 28) (by decide) ?_
        obtain rfl := Option.some.inj h
        exact g_zret C (g_bz_lit (by decide)) E dX12_isSign_28
def f_X12_in (x0 : Int32) (x1 : Int32) (x2 : Int32) (M : g_M) : Option (Int32) :=
  (if x0 < x1 then (some 0) else ((if x2 < x0 then (some 0) else (some 1))))
set_option maxRecDepth 100000 in
theorem m_X12_in {l : Launch} {Y : g_Y} {x0 : Int32} {x1 : Int32} {x2 : Int32} {M : g_M} {p : Int32} (h : f_X12_in x0 x1 x2 M = some p) : g_R l Y (0) yX12_in cX12_in 3 (some .boolean) [.int x0, .int x1, .int x2] M (some (.int p)) M := by
  unfold f_X12_in at h
  refine g_R_of kP_X12 rfl (Nat.le_of_ble_eq_true rfl) (fun X C E => ?_)
  show g_G 3 X Y 0 [(0, .int x0), (1, .int x1), (2, .int x2)] [] M
  refine g_iload_n C 0 dX12_in_0 (q := 1) rfl rfl rfl ?_
  refine g_iload_n C 1 dX12_in_1 (q := 2) rfl rfl rfl ?_
  have hif := g_if h
  clear h
  refine g_icmp_lt C dX12_in_2 (q := 5) (tgt := 14) rfl (by decide) (fun c => ?_) (fun c => ?_)
  · have h := hif.1 c
    clear hif
    refine g_iconst C (v := 0) dX12_in_14 (q := 15) rfl (by decide) ?_
    obtain rfl := Option.some.inj h
    exact g_zret C (g_bz_lit (by decide)) E dX12_in_15
  · have h := hif.2 c
    clear hif
    refine g_iload_n C 0 dX12_in_5 (q := 6) rfl rfl rfl ?_
    refine g_iload_n C 2 dX12_in_6 (q := 7) rfl rfl rfl ?_
    have hif := g_if h
    clear h
    refine g_icmp_gt C dX12_in_7 (q := 10) (tgt := 14) rfl (by decide) (fun c => ?_) (fun c => ?_)
    · have h := hif.1 c
      clear hif
      refine g_iconst C (v := 0) dX12_in_14 (q := 15) rfl (by decide) ?_
      obtain rfl := Option.some.inj h
      exact g_zret C (g_bz_lit (by decide)) E dX12_in_15
    · have h := hif.2 c
      clear hif
      refine g_iconst C (v := 1) dX12_in_10 (q := 11) rfl (by decide) ?_
      refine g_goto C dX12_in_11 (tgt := 15) (by decide) ?_
      obtain rfl := Option.some.inj h
      exact g_zret C (g_bz_lit (by decide)) E dX12_in_15
def f_X12_isLetter (x0 : Int32) (M : g_M) : Option (Int32) :=
  (f_X12_in x0 97 122 M).bind fun p1 => (g_bz p1).bind fun z2 => some z2
set_option maxRecDepth 100000 in
theorem m_X12_isLetter {l : Launch} {Y : g_Y} {x0 : Int32} {M : g_M} {p : Int32} (h : f_X12_isLetter x0 M = some p) : g_R l Y (1) yX12_isLetter cX12_isLetter 1 (some .boolean) [.int x0] M (some (.int p)) M := by
  unfold f_X12_isLetter at h
  refine g_R_of kP_X12 rfl (Nat.le_of_ble_eq_true rfl) (fun X C E => ?_)
  show g_G 1 X Y 0 [(0, .int x0)] [] M
  refine g_iload_n C 0 dX12_isLetter_0 (q := 1) rfl rfl rfl ?_
  refine g_bipush C (v := 97) dX12_isLetter_1 (q := 3) rfl (by decide) ?_
  refine g_bipush C (v := 122) dX12_isLetter_3 (q := 5) rfl (by decide) ?_
  obtain ⟨p1, hp1, h⟩ := g_bind h
  refine g_callS C (as := [.int x0, .int 97, .int 122]) (st := []) (m_X12_in hp1) (g_hR (by decide)) (by decide) kM_X12_64 kT_X12_in kN_X12 kC_X12_in kD_X12_in rfl (Nat.le_of_ble_eq_true rfl) dX12_isLetter_5 (q := 8) rfl ?_
  show g_G 1 X Y 8 [(0, .int x0)] [.int p1] M
  obtain ⟨z2, hz2, h⟩ := g_bind h
  obtain rfl := Option.some.inj h
  exact g_zret C hz2 E dX12_isLetter_8
def f_X12_isDigit (x0 : Int32) (M : g_M) : Option (Int32) :=
  (f_X12_in x0 48 57 M).bind fun p1 => (g_bz p1).bind fun z2 => some z2
set_option maxRecDepth 100000 in
theorem m_X12_isDigit {l : Launch} {Y : g_Y} {x0 : Int32} {M : g_M} {p : Int32} (h : f_X12_isDigit x0 M = some p) : g_R l Y (1) yX12_isDigit cX12_isDigit 1 (some .boolean) [.int x0] M (some (.int p)) M := by
  unfold f_X12_isDigit at h
  refine g_R_of kP_X12 rfl (Nat.le_of_ble_eq_true rfl) (fun X C E => ?_)
  show g_G 1 X Y 0 [(0, .int x0)] [] M
  refine g_iload_n C 0 dX12_isDigit_0 (q := 1) rfl rfl rfl ?_
  refine g_bipush C (v := 48) dX12_isDigit_1 (q := 3) rfl (by decide) ?_
  refine g_bipush C (v := 57) dX12_isDigit_3 (q := 5) rfl (by decide) ?_
  obtain ⟨p1, hp1, h⟩ := g_bind h
  refine g_callS C (as := [.int x0, .int 48, .int 57]) (st := []) (m_X12_in hp1) (g_hR (by decide)) (by decide) kM_X12_64 kT_X12_in kN_X12 kC_X12_in kD_X12_in rfl (Nat.le_of_ble_eq_true rfl) dX12_isDigit_5 (q := 8) rfl ?_
  show g_G 1 X Y 8 [(0, .int x0)] [.int p1] M
  obtain ⟨z2, hz2, h⟩ := g_bind h
  obtain rfl := Option.some.inj h
  exact g_zret C hz2 E dX12_isDigit_8
def F_X12_next_0 (k26 : g_M → Option (g_M)) (k : g_M → Option (g_M)) (M : g_M) : Option (g_M) :=
  (f_X12_byteAt (M.1 59 13) M).bind fun p1 => (if p1 = 32 then ((some (g_u M 59 13 ((M.1 59 13) + 1))).bind fun M2 => k M2) else (k26 M))
set_option maxRecDepth 100000 in
theorem t_X12_next_0 {l : Launch} {X : g_X} {Y : g_Y} {p : g_M} {k26 : g_M → Option (g_M)} (C : g_C l (g_rm (2)) RX12 cX12_next 2 X Y) (E : g_E none X Y none p) (hk26 : ∀ (M : g_M), k26 M = some p → g_G 2 X Y 26 [(0, g_r Y 59)] [] M) (n : Nat) : ∀ (M : g_M), g_lp0 (F_X12_next_0 k26) n M = some p → g_G 2 X Y 0 [(0, g_r Y 59)] [] M := by
  induction n with
  | zero => intro M h; exact (g_nn h).elim
  | succ n ih =>
    intro M h
    have h : F_X12_next_0 k26 (g_lp0 (F_X12_next_0 k26) n) M = some p := h
    generalize g_lp0 (F_X12_next_0 k26) n = k at h ih
    unfold F_X12_next_0 at h
    refine g_aload_n C 0 dX12_next_0 (q := 1) rfl rfl rfl ?_
    refine g_aload_n C 0 dX12_next_1 (q := 2) rfl rfl rfl ?_
    refine g_get C (k := 59) (i := 13) (by decide) (gc_59 Y _ _) rfl kU_X12 (by decide) kF_X12_75 rfl dX12_next_2 (q := 5) rfl ?_
    obtain ⟨p1, hp1, h⟩ := g_bind h
    refine g_callV C (k := 59) (as := [.int (M.1 59 13)]) (st := []) (m_X12_byteAt hp1) (g_hR (by decide)) (by decide) (by decide) (gc_59 Y _ _) rfl kM_X12_78 kI_X12_byteAt kS_X12_byteAt kN_X12 kC_X12_byteAt kD_X12_byteAt rfl (Nat.le_of_ble_eq_true rfl) dX12_next_5 (q := 8) rfl ?_
    show g_G 2 X Y 8 [(0, g_r Y 59)] [.int p1] M
    refine g_bipush C (v := 32) dX12_next_8 (q := 10) rfl (by decide) ?_
    have hif := g_if h
    clear h
    refine g_icmp_ne C dX12_next_10 (q := 13) (tgt := 26) rfl (by decide) (fun c => ?_) (fun c => ?_)
    · have h := hif.2 c
      clear hif
      refine g_sub [0] (lv' := [(0, g_r Y 59)]) rfl ?_
      exact hk26 M h
    · have h := hif.1 c
      clear hif
      refine g_aload_n C 0 dX12_next_13 (q := 14) rfl rfl rfl ?_
      refine g_dup C dX12_next_14 (q := 15) rfl rfl ?_
      refine g_get C (k := 59) (i := 13) (by decide) (gc_59 Y _ _) rfl kU_X12 (by decide) kF_X12_75 rfl dX12_next_15 (q := 18) rfl ?_
      refine g_iconst C (v := 1) dX12_next_18 (q := 19) rfl (by decide) ?_
      refine g_iadd C dX12_next_19 (q := 20) rfl ?_
      obtain ⟨M2, hM2, h⟩ := g_bind h
      refine g_put C (k := 59) (i := 13) (ty := .int) (by decide) (gc_59 Y _ _) (gp_59_13 Y _ _ _) rfl kU_X12 tyX12_ok nmX12 (by decide) kF_X12_75 rfl rfl rfl rfl (Nat.le_of_ble_eq_true rfl) dX12_next_20 (q := 23) rfl ?_
      refine g_mem hM2 ?_
      refine g_goto C dX12_next_23 (tgt := 0) (by decide) ?_
      refine g_sub [0] (lv' := [(0, g_r Y 59)]) rfl ?_
      exact ih M2 h
theorem r_X12_next_0 {p : g_M} {k26 : g_M → Option (g_M)} (hk26 : ∀ (M : g_M), k26 M = some p → g_fr [] [(59, 11), (59, 12), (59, 13), (59, 14)] M p) (n : Nat) : ∀ (M : g_M), g_lp0 (F_X12_next_0 k26) n M = some p → g_fr [] [(59, 11), (59, 12), (59, 13), (59, 14)] M p := by
  induction n with
  | zero => intro M h; exact (g_nn h).elim
  | succ n ih =>
    intro M h
    have h : F_X12_next_0 k26 (g_lp0 (F_X12_next_0 k26) n) M = some p := h
    generalize g_lp0 (F_X12_next_0 k26) n = k at h ih
    unfold F_X12_next_0 at h
    have hf := g_fr.rfl (S := []) (T := [(59, 11), (59, 12), (59, 13), (59, 14)]) (M := M)
    obtain ⟨p1, -, h⟩ := g_bind h
    rcases g_ifs h with h | h
    · obtain ⟨M2, hM2, h⟩ := g_bind h
      have hf := hf.pu hM2 (by decide)
      exact hf.trans (ih M2 h)
    · exact hf.trans (hk26 M h)
def f_X12_next_207 (x1 : Int32) (s0 : Int32) (M : g_M) : Option (g_M) :=
  (some (g_u M 59 11 s0)).bind fun M7 => (some (g_u M7 59 14 x1)).bind fun M8 => (some (g_u M8 59 13 ((M8.1 59 13) + 1))).bind fun M9 => some M9
set_option maxRecDepth 100000 in
theorem t_X12_next_207 {l : Launch} {X : g_X} {Y : g_Y} {p : g_M} (C : g_C l (g_rm (2)) RX12 cX12_next 2 X Y) (E : g_E none X Y none p) (x1 : Int32) (s0 : Int32) (M : g_M) (h : f_X12_next_207 x1 s0 M = some p) : g_G 2 X Y 207 [(0, g_r Y 59), (1, .int x1)] [.int s0, g_r Y 59] M := by
  unfold f_X12_next_207 at h
  obtain ⟨M7, hM7, h⟩ := g_bind h
  refine g_put C (k := 59) (i := 11) (ty := .int) (by decide) (gc_59 Y _ _) (gp_59_11 Y _ _ _) rfl kU_X12 tyX12_ok nmX12 (by decide) kF_X12_85 rfl rfl rfl rfl (Nat.le_of_ble_eq_true rfl) dX12_next_207 (q := 210) rfl ?_
  refine g_mem hM7 ?_
  refine g_aload_n C 0 dX12_next_210 (q := 211) rfl rfl rfl ?_
  refine g_iload_n C 1 dX12_next_211 (q := 212) rfl rfl rfl ?_
  obtain ⟨M8, hM8, h⟩ := g_bind h
  refine g_put C (k := 59) (i := 14) (ty := .int) (by decide) (gc_59 Y _ _) (gp_59_14 Y _ _ _) rfl kU_X12 tyX12_ok nmX12 (by decide) kF_X12_95 rfl rfl rfl rfl (Nat.le_of_ble_eq_true rfl) dX12_next_212 (q := 215) rfl ?_
  refine g_mem hM8 ?_
  refine g_aload_n C 0 dX12_next_215 (q := 216) rfl rfl rfl ?_
  refine g_dup C dX12_next_216 (q := 217) rfl rfl ?_
  refine g_get C (k := 59) (i := 13) (by decide) (gc_59 Y _ _) rfl kU_X12 (by decide) kF_X12_75 rfl dX12_next_217 (q := 220) rfl ?_
  refine g_iconst C (v := 1) dX12_next_220 (q := 221) rfl (by decide) ?_
  refine g_iadd C dX12_next_221 (q := 222) rfl ?_
  obtain ⟨M9, hM9, h⟩ := g_bind h
  refine g_put C (k := 59) (i := 13) (ty := .int) (by decide) (gc_59 Y _ _) (gp_59_13 Y _ _ _) rfl kU_X12 tyX12_ok nmX12 (by decide) kF_X12_75 rfl rfl rfl rfl (Nat.le_of_ble_eq_true rfl) dX12_next_222 (q := 225) rfl ?_
  refine g_mem hM9 ?_
  obtain rfl := Option.some.inj h
  exact g_vret C E dX12_next_225
theorem r_X12_next_207 {p : g_M} (x1 : Int32) (s0 : Int32) (M : g_M) (h : f_X12_next_207 x1 s0 M = some p) : g_fr [] [(59, 11), (59, 12), (59, 13), (59, 14)] M p := by
  unfold f_X12_next_207 at h
  have hf := g_fr.rfl (S := []) (T := [(59, 11), (59, 12), (59, 13), (59, 14)]) (M := M)
  obtain ⟨M7, hM7, h⟩ := g_bind h
  have hf := hf.pu hM7 (by decide)
  obtain ⟨M8, hM8, h⟩ := g_bind h
  have hf := hf.pu hM8 (by decide)
  obtain ⟨M9, hM9, h⟩ := g_bind h
  have hf := hf.pu hM9 (by decide)
  obtain rfl := Option.some.inj h
  exact hf
def f_X12_next_161 (k : g_M → Option (g_M)) (s0 : Int32) (M : g_M) : Option (g_M) :=
  (some (g_u M 59 14 s0)).bind fun M15 => (some (g_u M15 59 13 ((M15.1 59 13) + 1))).bind fun M16 => k M16
set_option maxRecDepth 100000 in
theorem t_X12_next_161 {l : Launch} {X : g_X} {Y : g_Y} {p : g_M} {k : g_M → Option (g_M)} (C : g_C l (g_rm (2)) RX12 cX12_next 2 X Y) (E : g_E none X Y none p) (ih : ∀ (M : g_M), k M = some p → g_G 2 X Y 111 [(0, g_r Y 59)] [] M) (s0 : Int32) (M : g_M) (h : f_X12_next_161 k s0 M = some p) : g_G 2 X Y 161 [(0, g_r Y 59)] [.int s0, g_r Y 59] M := by
  unfold f_X12_next_161 at h
  obtain ⟨M15, hM15, h⟩ := g_bind h
  refine g_put C (k := 59) (i := 14) (ty := .int) (by decide) (gc_59 Y _ _) (gp_59_14 Y _ _ _) rfl kU_X12 tyX12_ok nmX12 (by decide) kF_X12_95 rfl rfl rfl rfl (Nat.le_of_ble_eq_true rfl) dX12_next_161 (q := 164) rfl ?_
  refine g_mem hM15 ?_
  refine g_aload_n C 0 dX12_next_164 (q := 165) rfl rfl rfl ?_
  refine g_dup C dX12_next_165 (q := 166) rfl rfl ?_
  refine g_get C (k := 59) (i := 13) (by decide) (gc_59 Y _ _) rfl kU_X12 (by decide) kF_X12_75 rfl dX12_next_166 (q := 169) rfl ?_
  refine g_iconst C (v := 1) dX12_next_169 (q := 170) rfl (by decide) ?_
  refine g_iadd C dX12_next_170 (q := 171) rfl ?_
  obtain ⟨M16, hM16, h⟩ := g_bind h
  refine g_put C (k := 59) (i := 13) (ty := .int) (by decide) (gc_59 Y _ _) (gp_59_13 Y _ _ _) rfl kU_X12 tyX12_ok nmX12 (by decide) kF_X12_75 rfl rfl rfl rfl (Nat.le_of_ble_eq_true rfl) dX12_next_171 (q := 174) rfl ?_
  refine g_mem hM16 ?_
  refine g_goto C dX12_next_174 (tgt := 111) (by decide) ?_
  refine g_sub [0] (lv' := [(0, g_r Y 59)]) rfl ?_
  exact ih M16 h
theorem r_X12_next_161 {p : g_M} {k : g_M → Option (g_M)} (ih : ∀ (M : g_M), k M = some p → g_fr [] [(59, 11), (59, 12), (59, 13), (59, 14)] M p) (s0 : Int32) (M : g_M) (h : f_X12_next_161 k s0 M = some p) : g_fr [] [(59, 11), (59, 12), (59, 13), (59, 14)] M p := by
  unfold f_X12_next_161 at h
  have hf := g_fr.rfl (S := []) (T := [(59, 11), (59, 12), (59, 13), (59, 14)]) (M := M)
  obtain ⟨M15, hM15, h⟩ := g_bind h
  have hf := hf.pu hM15 (by decide)
  obtain ⟨M16, hM16, h⟩ := g_bind h
  have hf := hf.pu hM16 (by decide)
  exact hf.trans (ih M16 h)
def F_X12_next_111 (k225 : g_M → Option (g_M)) (k : g_M → Option (g_M)) (M : g_M) : Option (g_M) :=
  (f_X12_byteAt (M.1 59 13) M).bind fun p12 => (f_X12_isDigit p12 M).bind fun p13 => (if p13 = 0 then (k225 M) else ((if (M.1 59 14) ≤ 99 then ((f_X12_byteAt (M.1 59 13) M).bind fun p14 => f_X12_next_161 k (((10 * (M.1 59 14)) + p14) - 48) M) else (f_X12_next_161 k (M.1 59 14) M))))
set_option maxRecDepth 100000 in
theorem t_X12_next_111 {l : Launch} {X : g_X} {Y : g_Y} {p : g_M} {k225 : g_M → Option (g_M)} (C : g_C l (g_rm (2)) RX12 cX12_next 2 X Y) (E : g_E none X Y none p) (hk225 : ∀ (M : g_M), k225 M = some p → g_G 2 X Y 225 [] [] M) (n : Nat) : ∀ (M : g_M), g_lp0 (F_X12_next_111 k225) n M = some p → g_G 2 X Y 111 [(0, g_r Y 59)] [] M := by
  induction n with
  | zero => intro M h; exact (g_nn h).elim
  | succ n ih =>
    intro M h
    have h : F_X12_next_111 k225 (g_lp0 (F_X12_next_111 k225) n) M = some p := h
    generalize g_lp0 (F_X12_next_111 k225) n = k at h ih
    unfold F_X12_next_111 at h
    refine g_aload_n C 0 dX12_next_111 (q := 112) rfl rfl rfl ?_
    refine g_aload_n C 0 dX12_next_112 (q := 113) rfl rfl rfl ?_
    refine g_get C (k := 59) (i := 13) (by decide) (gc_59 Y _ _) rfl kU_X12 (by decide) kF_X12_75 rfl dX12_next_113 (q := 116) rfl ?_
    obtain ⟨p12, hp12, h⟩ := g_bind h
    refine g_callV C (k := 59) (as := [.int (M.1 59 13)]) (st := []) (m_X12_byteAt hp12) (g_hR (by decide)) (by decide) (by decide) (gc_59 Y _ _) rfl kM_X12_78 kI_X12_byteAt kS_X12_byteAt kN_X12 kC_X12_byteAt kD_X12_byteAt rfl (Nat.le_of_ble_eq_true rfl) dX12_next_116 (q := 119) rfl ?_
    show g_G 2 X Y 119 [(0, g_r Y 59)] [.int p12] M
    obtain ⟨p13, hp13, h⟩ := g_bind h
    refine g_callS C (as := [.int p12]) (st := []) (m_X12_isDigit hp13) (g_hR (by decide)) (by decide) kM_X12_92 kT_X12_isDigit kN_X12 kC_X12_isDigit kD_X12_isDigit rfl (Nat.le_of_ble_eq_true rfl) dX12_next_119 (q := 122) rfl ?_
    show g_G 2 X Y 122 [(0, g_r Y 59)] [.int p13] M
    have hif := g_if h
    clear h
    refine g_if_eq C dX12_next_122 (q := 125) (tgt := 225) rfl (by decide) (fun c => ?_) (fun c => ?_)
    · have h := hif.1 c
      clear hif
      refine g_sub [] (lv' := []) rfl ?_
      exact hk225 M h
    · have h := hif.2 c
      clear hif
      refine g_aload_n C 0 dX12_next_125 (q := 126) rfl rfl rfl ?_
      refine g_aload_n C 0 dX12_next_126 (q := 127) rfl rfl rfl ?_
      refine g_get C (k := 59) (i := 14) (by decide) (gc_59 Y _ _) rfl kU_X12 (by decide) kF_X12_95 rfl dX12_next_127 (q := 130) rfl ?_
      refine g_bipush C (v := 99) dX12_next_130 (q := 132) rfl (by decide) ?_
      have hif := g_if h
      clear h
      refine g_icmp_le C dX12_next_132 (q := 135) (tgt := 142) rfl (by decide) (fun c => ?_) (fun c => ?_)
      · have h := hif.1 c
        clear hif
        refine g_bipush C (v := 10) dX12_next_142 (q := 144) rfl (by decide) ?_
        refine g_aload_n C 0 dX12_next_144 (q := 145) rfl rfl rfl ?_
        refine g_get C (k := 59) (i := 14) (by decide) (gc_59 Y _ _) rfl kU_X12 (by decide) kF_X12_95 rfl dX12_next_145 (q := 148) rfl ?_
        refine g_imul C dX12_next_148 (q := 149) rfl ?_
        refine g_aload_n C 0 dX12_next_149 (q := 150) rfl rfl rfl ?_
        refine g_aload_n C 0 dX12_next_150 (q := 151) rfl rfl rfl ?_
        refine g_get C (k := 59) (i := 13) (by decide) (gc_59 Y _ _) rfl kU_X12 (by decide) kF_X12_75 rfl dX12_next_151 (q := 154) rfl ?_
        obtain ⟨p14, hp14, h⟩ := g_bind h
        refine g_callV C (k := 59) (as := [.int (M.1 59 13)]) (st := [.int (10 * (M.1 59 14)), g_r Y 59]) (m_X12_byteAt hp14) (g_hR (by decide)) (by decide) (by decide) (gc_59 Y _ _) rfl kM_X12_78 kI_X12_byteAt kS_X12_byteAt kN_X12 kC_X12_byteAt kD_X12_byteAt rfl (Nat.le_of_ble_eq_true rfl) dX12_next_154 (q := 157) rfl ?_
        show g_G 2 X Y 157 [(0, g_r Y 59)] [.int p14, .int (10 * (M.1 59 14)), g_r Y 59] M
        refine g_iadd C dX12_next_157 (q := 158) rfl ?_
        refine g_bipush C (v := 48) dX12_next_158 (q := 160) rfl (by decide) ?_
        refine g_isub C dX12_next_160 (q := 161) rfl ?_
        refine g_sub [0] (lv' := [(0, g_r Y 59)]) rfl ?_
        exact t_X12_next_161 C E ih (((10 * (M.1 59 14)) + p14) - 48) M h
      · have h := hif.2 c
        clear hif
        refine g_aload_n C 0 dX12_next_135 (q := 136) rfl rfl rfl ?_
        refine g_get C (k := 59) (i := 14) (by decide) (gc_59 Y _ _) rfl kU_X12 (by decide) kF_X12_95 rfl dX12_next_136 (q := 139) rfl ?_
        refine g_goto C dX12_next_139 (tgt := 161) (by decide) ?_
        refine g_sub [0] (lv' := [(0, g_r Y 59)]) rfl ?_
        exact t_X12_next_161 C E ih (M.1 59 14) M h
theorem r_X12_next_111 {p : g_M} {k225 : g_M → Option (g_M)} (hk225 : ∀ (M : g_M), k225 M = some p → g_fr [] [(59, 11), (59, 12), (59, 13), (59, 14)] M p) (n : Nat) : ∀ (M : g_M), g_lp0 (F_X12_next_111 k225) n M = some p → g_fr [] [(59, 11), (59, 12), (59, 13), (59, 14)] M p := by
  induction n with
  | zero => intro M h; exact (g_nn h).elim
  | succ n ih =>
    intro M h
    have h : F_X12_next_111 k225 (g_lp0 (F_X12_next_111 k225) n) M = some p := h
    generalize g_lp0 (F_X12_next_111 k225) n = k at h ih
    unfold F_X12_next_111 at h
    have hf := g_fr.rfl (S := []) (T := [(59, 11), (59, 12), (59, 13), (59, 14)]) (M := M)
    obtain ⟨p12, -, h⟩ := g_bind h
    obtain ⟨p13, -, h⟩ := g_bind h
    rcases g_ifs h with h | h
    · exact hf.trans (hk225 M h)
    · rcases g_ifs h with h | h
      · obtain ⟨p14, -, h⟩ := g_bind h
        exact hf.trans (r_X12_next_161 ih (((10 * (M.1 59 14)) + p14) - 48) M h)
      · exact hf.trans (r_X12_next_161 ih (M.1 59 14) M h)
def F_X12_next_67 (k225 : g_M → Option (g_M)) (k : g_M → Option (g_M)) (M : g_M) : Option (g_M) :=
  (f_X12_byteAt (M.1 59 13) M).bind fun p18 => (f_X12_isLetter p18 M).bind fun p19 => (if p19 = 0 then (k225 M) else ((some (g_u M 59 13 ((M.1 59 13) + 1))).bind fun M20 => k M20))
set_option maxRecDepth 100000 in
theorem t_X12_next_67 {l : Launch} {X : g_X} {Y : g_Y} {p : g_M} {k225 : g_M → Option (g_M)} (C : g_C l (g_rm (2)) RX12 cX12_next 2 X Y) (E : g_E none X Y none p) (hk225 : ∀ (M : g_M), k225 M = some p → g_G 2 X Y 225 [] [] M) (n : Nat) : ∀ (M : g_M), g_lp0 (F_X12_next_67 k225) n M = some p → g_G 2 X Y 67 [(0, g_r Y 59)] [] M := by
  induction n with
  | zero => intro M h; exact (g_nn h).elim
  | succ n ih =>
    intro M h
    have h : F_X12_next_67 k225 (g_lp0 (F_X12_next_67 k225) n) M = some p := h
    generalize g_lp0 (F_X12_next_67 k225) n = k at h ih
    unfold F_X12_next_67 at h
    refine g_aload_n C 0 dX12_next_67 (q := 68) rfl rfl rfl ?_
    refine g_aload_n C 0 dX12_next_68 (q := 69) rfl rfl rfl ?_
    refine g_get C (k := 59) (i := 13) (by decide) (gc_59 Y _ _) rfl kU_X12 (by decide) kF_X12_75 rfl dX12_next_69 (q := 72) rfl ?_
    obtain ⟨p18, hp18, h⟩ := g_bind h
    refine g_callV C (k := 59) (as := [.int (M.1 59 13)]) (st := []) (m_X12_byteAt hp18) (g_hR (by decide)) (by decide) (by decide) (gc_59 Y _ _) rfl kM_X12_78 kI_X12_byteAt kS_X12_byteAt kN_X12 kC_X12_byteAt kD_X12_byteAt rfl (Nat.le_of_ble_eq_true rfl) dX12_next_72 (q := 75) rfl ?_
    show g_G 2 X Y 75 [(0, g_r Y 59)] [.int p18] M
    obtain ⟨p19, hp19, h⟩ := g_bind h
    refine g_callS C (as := [.int p18]) (st := []) (m_X12_isLetter hp19) (g_hR (by decide)) (by decide) kM_X12_88 kT_X12_isLetter kN_X12 kC_X12_isLetter kD_X12_isLetter rfl (Nat.le_of_ble_eq_true rfl) dX12_next_75 (q := 78) rfl ?_
    show g_G 2 X Y 78 [(0, g_r Y 59)] [.int p19] M
    have hif := g_if h
    clear h
    refine g_if_eq C dX12_next_78 (q := 81) (tgt := 225) rfl (by decide) (fun c => ?_) (fun c => ?_)
    · have h := hif.1 c
      clear hif
      refine g_sub [] (lv' := []) rfl ?_
      exact hk225 M h
    · have h := hif.2 c
      clear hif
      refine g_aload_n C 0 dX12_next_81 (q := 82) rfl rfl rfl ?_
      refine g_dup C dX12_next_82 (q := 83) rfl rfl ?_
      refine g_get C (k := 59) (i := 13) (by decide) (gc_59 Y _ _) rfl kU_X12 (by decide) kF_X12_75 rfl dX12_next_83 (q := 86) rfl ?_
      refine g_iconst C (v := 1) dX12_next_86 (q := 87) rfl (by decide) ?_
      refine g_iadd C dX12_next_87 (q := 88) rfl ?_
      obtain ⟨M20, hM20, h⟩ := g_bind h
      refine g_put C (k := 59) (i := 13) (ty := .int) (by decide) (gc_59 Y _ _) (gp_59_13 Y _ _ _) rfl kU_X12 tyX12_ok nmX12 (by decide) kF_X12_75 rfl rfl rfl rfl (Nat.le_of_ble_eq_true rfl) dX12_next_88 (q := 91) rfl ?_
      refine g_mem hM20 ?_
      refine g_goto C dX12_next_91 (tgt := 67) (by decide) ?_
      refine g_sub [0] (lv' := [(0, g_r Y 59)]) rfl ?_
      exact ih M20 h
theorem r_X12_next_67 {p : g_M} {k225 : g_M → Option (g_M)} (hk225 : ∀ (M : g_M), k225 M = some p → g_fr [] [(59, 11), (59, 12), (59, 13), (59, 14)] M p) (n : Nat) : ∀ (M : g_M), g_lp0 (F_X12_next_67 k225) n M = some p → g_fr [] [(59, 11), (59, 12), (59, 13), (59, 14)] M p := by
  induction n with
  | zero => intro M h; exact (g_nn h).elim
  | succ n ih =>
    intro M h
    have h : F_X12_next_67 k225 (g_lp0 (F_X12_next_67 k225) n) M = some p := h
    generalize g_lp0 (F_X12_next_67 k225) n = k at h ih
    unfold F_X12_next_67 at h
    have hf := g_fr.rfl (S := []) (T := [(59, 11), (59, 12), (59, 13), (59, 14)]) (M := M)
    obtain ⟨p18, -, h⟩ := g_bind h
    obtain ⟨p19, -, h⟩ := g_bind h
    rcases g_ifs h with h | h
    · exact hf.trans (hk225 M h)
    · obtain ⟨M20, hM20, h⟩ := g_bind h
      have hf := hf.pu hM20 (by decide)
      exact hf.trans (ih M20 h)
def f_X12_next (M : g_M) : Option (g_M) :=
  g_lp0 (F_X12_next_0 (fun (M : g_M) => (some (g_u M 59 12 (M.1 59 13))).bind fun M3 => (f_X12_byteAt (M3.1 59 13) M3).bind fun p4 => (if 0 ≤ p4 then ((f_X12_isLetter p4 M3).bind fun p5 => (if p5 = 0 then ((f_X12_isDigit p4 M3).bind fun p6 => (if p6 = 0 then ((if p4 = 40 then (f_X12_next_207 p4 3 M3) else ((if p4 = 41 then (f_X12_next_207 p4 3 M3) else ((if p4 = 91 then (f_X12_next_207 p4 3 M3) else ((if p4 = 93 then (f_X12_next_207 p4 3 M3) else (f_X12_next_207 p4 4 M3))))))))) else ((some (g_u M3 59 11 2)).bind fun M10 => (some (g_u M10 59 14 0)).bind fun M11 => g_lp0 (F_X12_next_111 (fun (M : g_M) => some M)) 20000000 M11))) else ((some (g_u M3 59 11 1)).bind fun M17 => g_lp0 (F_X12_next_67 (fun (M : g_M) => some M)) 20000000 M17))) else ((some (g_u M3 59 11 0)).bind fun M21 => some M21)))) 20000000 M
set_option maxRecDepth 100000 in
theorem m_X12_next {l : Launch} {Y : g_Y} {M : g_M} {p : g_M} (h : f_X12_next M = some p) : g_R l Y (2) yX12_next cX12_next 2 none [g_r Y 59] M none p := by
  unfold f_X12_next at h
  refine g_R_of kP_X12 rfl (Nat.le_of_ble_eq_true rfl) (fun X C E => ?_)
  show g_G 2 X Y 0 [(0, g_r Y 59)] [] M
  refine g_sub [0] (lv' := [(0, g_r Y 59)]) rfl ?_
  refine t_X12_next_0 C E ?_ 20000000 M h
  · intro M h
    try dsimp only at h
    refine g_aload_n C 0 dX12_next_26 (q := 27) rfl rfl rfl ?_
    refine g_aload_n C 0 dX12_next_27 (q := 28) rfl rfl rfl ?_
    refine g_get C (k := 59) (i := 13) (by decide) (gc_59 Y _ _) rfl kU_X12 (by decide) kF_X12_75 rfl dX12_next_28 (q := 31) rfl ?_
    obtain ⟨M3, hM3, h⟩ := g_bind h
    refine g_put C (k := 59) (i := 12) (ty := .int) (by decide) (gc_59 Y _ _) (gp_59_12 Y _ _ _) rfl kU_X12 tyX12_ok nmX12 (by decide) kF_X12_82 rfl rfl rfl rfl (Nat.le_of_ble_eq_true rfl) dX12_next_31 (q := 34) rfl ?_
    refine g_mem hM3 ?_
    refine g_aload_n C 0 dX12_next_34 (q := 35) rfl rfl rfl ?_
    refine g_aload_n C 0 dX12_next_35 (q := 36) rfl rfl rfl ?_
    refine g_get C (k := 59) (i := 13) (by decide) (gc_59 Y _ _) rfl kU_X12 (by decide) kF_X12_75 rfl dX12_next_36 (q := 39) rfl ?_
    obtain ⟨p4, hp4, h⟩ := g_bind h
    refine g_callV C (k := 59) (as := [.int (M3.1 59 13)]) (st := []) (m_X12_byteAt hp4) (g_hR (by decide)) (by decide) (by decide) (gc_59 Y _ _) rfl kM_X12_78 kI_X12_byteAt kS_X12_byteAt kN_X12 kC_X12_byteAt kD_X12_byteAt rfl (Nat.le_of_ble_eq_true rfl) dX12_next_39 (q := 42) rfl ?_
    show g_G 2 X Y 42 [(0, g_r Y 59)] [.int p4] M3
    refine g_istore_n C dX12_next_42 (q := 43) rfl rfl (by decide) (lv' := [(1, .int p4), (0, g_r Y 59)]) rfl ?_
    refine g_iload_n C 0 dX12_next_43 (q := 44) rfl rfl rfl ?_
    have hif := g_if h
    clear h
    refine g_if_ge C dX12_next_44 (q := 47) (tgt := 55) rfl (by decide) (fun c => ?_) (fun c => ?_)
    · have h := hif.1 c
      clear hif
      refine g_iload_n C 0 dX12_next_55 (q := 56) rfl rfl rfl ?_
      obtain ⟨p5, hp5, h⟩ := g_bind h
      refine g_callS C (as := [.int p4]) (st := []) (m_X12_isLetter hp5) (g_hR (by decide)) (by decide) kM_X12_88 kT_X12_isLetter kN_X12 kC_X12_isLetter kD_X12_isLetter rfl (Nat.le_of_ble_eq_true rfl) dX12_next_56 (q := 59) rfl ?_
      show g_G 2 X Y 59 [(1, .int p4), (0, g_r Y 59)] [.int p5] M3
      have hif := g_if h
      clear h
      refine g_if_eq C dX12_next_59 (q := 62) (tgt := 94) rfl (by decide) (fun c => ?_) (fun c => ?_)
      · have h := hif.1 c
        clear hif
        refine g_iload_n C 0 dX12_next_94 (q := 95) rfl rfl rfl ?_
        obtain ⟨p6, hp6, h⟩ := g_bind h
        refine g_callS C (as := [.int p4]) (st := []) (m_X12_isDigit hp6) (g_hR (by decide)) (by decide) kM_X12_92 kT_X12_isDigit kN_X12 kC_X12_isDigit kD_X12_isDigit rfl (Nat.le_of_ble_eq_true rfl) dX12_next_95 (q := 98) rfl ?_
        show g_G 2 X Y 98 [(1, .int p4), (0, g_r Y 59)] [.int p6] M3
        have hif := g_if h
        clear h
        refine g_if_eq C dX12_next_98 (q := 101) (tgt := 177) rfl (by decide) (fun c => ?_) (fun c => ?_)
        · have h := hif.1 c
          clear hif
          refine g_aload_n C 1 dX12_next_177 (q := 178) rfl rfl rfl ?_
          refine g_iload_n C 0 dX12_next_178 (q := 179) rfl rfl rfl ?_
          refine g_bipush C (v := 40) dX12_next_179 (q := 181) rfl (by decide) ?_
          have hif := g_if h
          clear h
          refine g_icmp_eq C dX12_next_181 (q := 184) (tgt := 202) rfl (by decide) (fun c => ?_) (fun c => ?_)
          · have h := hif.1 c
            clear hif
            refine g_iconst C (v := 3) dX12_next_202 (q := 203) rfl (by decide) ?_
            refine g_goto C dX12_next_203 (tgt := 207) (by decide) ?_
            refine g_sub [1, 0] (lv' := [(0, g_r Y 59), (1, .int p4)]) rfl ?_
            exact t_X12_next_207 C E p4 3 M3 h
          · have h := hif.2 c
            clear hif
            refine g_iload_n C 0 dX12_next_184 (q := 185) rfl rfl rfl ?_
            refine g_bipush C (v := 41) dX12_next_185 (q := 187) rfl (by decide) ?_
            have hif := g_if h
            clear h
            refine g_icmp_eq C dX12_next_187 (q := 190) (tgt := 202) rfl (by decide) (fun c => ?_) (fun c => ?_)
            · have h := hif.1 c
              clear hif
              refine g_iconst C (v := 3) dX12_next_202 (q := 203) rfl (by decide) ?_
              refine g_goto C dX12_next_203 (tgt := 207) (by decide) ?_
              refine g_sub [1, 0] (lv' := [(0, g_r Y 59), (1, .int p4)]) rfl ?_
              exact t_X12_next_207 C E p4 3 M3 h
            · have h := hif.2 c
              clear hif
              refine g_iload_n C 0 dX12_next_190 (q := 191) rfl rfl rfl ?_
              refine g_bipush C (v := 91) dX12_next_191 (q := 193) rfl (by decide) ?_
              have hif := g_if h
              clear h
              refine g_icmp_eq C dX12_next_193 (q := 196) (tgt := 202) rfl (by decide) (fun c => ?_) (fun c => ?_)
              · have h := hif.1 c
                clear hif
                refine g_iconst C (v := 3) dX12_next_202 (q := 203) rfl (by decide) ?_
                refine g_goto C dX12_next_203 (tgt := 207) (by decide) ?_
                refine g_sub [1, 0] (lv' := [(0, g_r Y 59), (1, .int p4)]) rfl ?_
                exact t_X12_next_207 C E p4 3 M3 h
              · have h := hif.2 c
                clear hif
                refine g_iload_n C 0 dX12_next_196 (q := 197) rfl rfl rfl ?_
                refine g_bipush C (v := 93) dX12_next_197 (q := 199) rfl (by decide) ?_
                have hif := g_if h
                clear h
                refine g_icmp_ne C dX12_next_199 (q := 202) (tgt := 206) rfl (by decide) (fun c => ?_) (fun c => ?_)
                · have h := hif.2 c
                  clear hif
                  refine g_iconst C (v := 4) dX12_next_206 (q := 207) rfl (by decide) ?_
                  refine g_sub [1, 0] (lv' := [(0, g_r Y 59), (1, .int p4)]) rfl ?_
                  exact t_X12_next_207 C E p4 4 M3 h
                · have h := hif.1 c
                  clear hif
                  refine g_iconst C (v := 3) dX12_next_202 (q := 203) rfl (by decide) ?_
                  refine g_goto C dX12_next_203 (tgt := 207) (by decide) ?_
                  refine g_sub [1, 0] (lv' := [(0, g_r Y 59), (1, .int p4)]) rfl ?_
                  exact t_X12_next_207 C E p4 3 M3 h
        · have h := hif.2 c
          clear hif
          refine g_aload_n C 1 dX12_next_101 (q := 102) rfl rfl rfl ?_
          refine g_iconst C (v := 2) dX12_next_102 (q := 103) rfl (by decide) ?_
          obtain ⟨M10, hM10, h⟩ := g_bind h
          refine g_put C (k := 59) (i := 11) (ty := .int) (by decide) (gc_59 Y _ _) (gp_59_11 Y _ _ _) rfl kU_X12 tyX12_ok nmX12 (by decide) kF_X12_85 rfl rfl rfl rfl (Nat.le_of_ble_eq_true rfl) dX12_next_103 (q := 106) rfl ?_
          refine g_mem hM10 ?_
          refine g_aload_n C 1 dX12_next_106 (q := 107) rfl rfl rfl ?_
          refine g_iconst C (v := 0) dX12_next_107 (q := 108) rfl (by decide) ?_
          obtain ⟨M11, hM11, h⟩ := g_bind h
          refine g_put C (k := 59) (i := 14) (ty := .int) (by decide) (gc_59 Y _ _) (gp_59_14 Y _ _ _) rfl kU_X12 tyX12_ok nmX12 (by decide) kF_X12_95 rfl rfl rfl rfl (Nat.le_of_ble_eq_true rfl) dX12_next_108 (q := 111) rfl ?_
          refine g_mem hM11 ?_
          refine g_sub [1] (lv' := [(0, g_r Y 59)]) rfl ?_
          refine t_X12_next_111 C E ?_ 20000000 M11 h
          · intro M h
            try dsimp only at h
            obtain rfl := Option.some.inj h
            exact g_vret C E dX12_next_225
      · have h := hif.2 c
        clear hif
        refine g_aload_n C 1 dX12_next_62 (q := 63) rfl rfl rfl ?_
        refine g_iconst C (v := 1) dX12_next_63 (q := 64) rfl (by decide) ?_
        obtain ⟨M17, hM17, h⟩ := g_bind h
        refine g_put C (k := 59) (i := 11) (ty := .int) (by decide) (gc_59 Y _ _) (gp_59_11 Y _ _ _) rfl kU_X12 tyX12_ok nmX12 (by decide) kF_X12_85 rfl rfl rfl rfl (Nat.le_of_ble_eq_true rfl) dX12_next_64 (q := 67) rfl ?_
        refine g_mem hM17 ?_
        refine g_sub [1] (lv' := [(0, g_r Y 59)]) rfl ?_
        refine t_X12_next_67 C E ?_ 20000000 M17 h
        · intro M h
          try dsimp only at h
          obtain rfl := Option.some.inj h
          exact g_vret C E dX12_next_225
    · have h := hif.2 c
      clear hif
      refine g_aload_n C 1 dX12_next_47 (q := 48) rfl rfl rfl ?_
      refine g_iconst C (v := 0) dX12_next_48 (q := 49) rfl (by decide) ?_
      obtain ⟨M21, hM21, h⟩ := g_bind h
      refine g_put C (k := 59) (i := 11) (ty := .int) (by decide) (gc_59 Y _ _) (gp_59_11 Y _ _ _) rfl kU_X12 tyX12_ok nmX12 (by decide) kF_X12_85 rfl rfl rfl rfl (Nat.le_of_ble_eq_true rfl) dX12_next_49 (q := 52) rfl ?_
      refine g_mem hM21 ?_
      refine g_goto C dX12_next_52 (tgt := 225) (by decide) ?_
      obtain rfl := Option.some.inj h
      exact g_vret C E dX12_next_225
theorem r_X12_next {M : g_M} {p : g_M} (h : f_X12_next M = some p) : g_fr [] [(59, 11), (59, 12), (59, 13), (59, 14)] M p := by
  unfold f_X12_next at h
  have hf := g_fr.rfl (S := []) (T := [(59, 11), (59, 12), (59, 13), (59, 14)]) (M := M)
  refine hf.trans (r_X12_next_0 ?_ 20000000 M h)
  · intro M h
    try dsimp only at h
    have hf := g_fr.rfl (S := []) (T := [(59, 11), (59, 12), (59, 13), (59, 14)]) (M := M)
    obtain ⟨M3, hM3, h⟩ := g_bind h
    have hf := hf.pu hM3 (by decide)
    obtain ⟨p4, -, h⟩ := g_bind h
    rcases g_ifs h with h | h
    · obtain ⟨p5, -, h⟩ := g_bind h
      rcases g_ifs h with h | h
      · obtain ⟨p6, -, h⟩ := g_bind h
        rcases g_ifs h with h | h
        · rcases g_ifs h with h | h
          · exact hf.trans (r_X12_next_207 p4 3 M3 h)
          · rcases g_ifs h with h | h
            · exact hf.trans (r_X12_next_207 p4 3 M3 h)
            · rcases g_ifs h with h | h
              · exact hf.trans (r_X12_next_207 p4 3 M3 h)
              · rcases g_ifs h with h | h
                · exact hf.trans (r_X12_next_207 p4 3 M3 h)
                · exact hf.trans (r_X12_next_207 p4 4 M3 h)
        · obtain ⟨M10, hM10, h⟩ := g_bind h
          have hf := hf.pu hM10 (by decide)
          obtain ⟨M11, hM11, h⟩ := g_bind h
          have hf := hf.pu hM11 (by decide)
          refine hf.trans (r_X12_next_111 ?_ 20000000 M11 h)
          · intro M h
            try dsimp only at h
            have hf := g_fr.rfl (S := []) (T := [(59, 11), (59, 12), (59, 13), (59, 14)]) (M := M)
            obtain rfl := Option.some.inj h
            exact hf
      · obtain ⟨M17, hM17, h⟩ := g_bind h
        have hf := hf.pu hM17 (by decide)
        refine hf.trans (r_X12_next_67 ?_ 20000000 M17 h)
        · intro M h
          try dsimp only at h
          have hf := g_fr.rfl (S := []) (T := [(59, 11), (59, 12), (59, 13), (59, 14)]) (M := M)
          obtain rfl := Option.some.inj h
          exact hf
    · obtain ⟨M21, hM21, h⟩ := g_bind h
      have hf := hf.pu hM21 (by decide)
      obtain rfl := Option.some.inj h
      exact hf
def f_X12_opens (M : g_M) : Option (Int32 × g_M) :=
  (if (M.1 59 15) = 6 then ((some (g_u M 59 16 1)).bind fun M3 => some (0, M3)) else ((some (g_u M 59 15 ((M.1 59 15) + 1))).bind fun M1 => (f_X12_next M1).bind fun p2 => some (1, p2)))
set_option maxRecDepth 100000 in
theorem m_X12_opens {l : Launch} {Y : g_Y} {M : g_M} {p : Int32 × g_M} (h : f_X12_opens M = some p) : g_R l Y (3) yX12_opens cX12_opens 1 (some .boolean) [g_r Y 59] M (some (.int p.1)) p.2 := by
  unfold f_X12_opens at h
  refine g_R_of kP_X12 rfl (Nat.le_of_ble_eq_true rfl) (fun X C E => ?_)
  show g_G 1 X Y 0 [(0, g_r Y 59)] [] M
  refine g_aload_n C 0 dX12_opens_0 (q := 1) rfl rfl rfl ?_
  refine g_get C (k := 59) (i := 15) (by decide) (gc_59 Y _ _) rfl kU_X12 (by decide) kF_X12_134 rfl dX12_opens_1 (q := 4) rfl ?_
  refine g_bipush C (v := 6) dX12_opens_4 (q := 6) rfl (by decide) ?_
  have hif := g_if h
  clear h
  refine g_icmp_ne C dX12_opens_6 (q := 9) (tgt := 16) rfl (by decide) (fun c => ?_) (fun c => ?_)
  · have h := hif.2 c
    clear hif
    refine g_aload_n C 0 dX12_opens_16 (q := 17) rfl rfl rfl ?_
    refine g_dup C dX12_opens_17 (q := 18) rfl rfl ?_
    refine g_get C (k := 59) (i := 15) (by decide) (gc_59 Y _ _) rfl kU_X12 (by decide) kF_X12_134 rfl dX12_opens_18 (q := 21) rfl ?_
    refine g_iconst C (v := 1) dX12_opens_21 (q := 22) rfl (by decide) ?_
    refine g_iadd C dX12_opens_22 (q := 23) rfl ?_
    obtain ⟨M1, hM1, h⟩ := g_bind h
    refine g_put C (k := 59) (i := 15) (ty := .int) (by decide) (gc_59 Y _ _) (gp_59_15 Y _ _ _) rfl kU_X12 tyX12_ok nmX12 (by decide) kF_X12_134 rfl rfl rfl rfl (Nat.le_of_ble_eq_true rfl) dX12_opens_23 (q := 26) rfl ?_
    refine g_mem hM1 ?_
    refine g_aload_n C 0 dX12_opens_26 (q := 27) rfl rfl rfl ?_
    obtain ⟨p2, hp2, h⟩ := g_bind h
    refine g_callV C (k := 59) (as := []) (st := []) (m_X12_next hp2) (g_hR (by decide)) (by decide) (by decide) (gc_59 Y _ _) rfl kM_X12_112 kI_X12_next kS_X12_next kN_X12 kC_X12_next kD_X12_next rfl (Nat.le_of_ble_eq_true rfl) dX12_opens_27 (q := 30) rfl ?_
    show g_G 1 X Y 30 [(0, g_r Y 59)] [] p2
    refine g_iconst C (v := 1) dX12_opens_30 (q := 31) rfl (by decide) ?_
    obtain rfl := Option.some.inj h
    exact g_zret C (g_bz_lit (by decide)) E dX12_opens_31
  · have h := hif.1 c
    clear hif
    refine g_aload_n C 0 dX12_opens_9 (q := 10) rfl rfl rfl ?_
    refine g_iconst C (v := 1) dX12_opens_10 (q := 11) rfl (by decide) ?_
    obtain ⟨M3, hM3, h⟩ := g_bind h
    refine g_put C (k := 59) (i := 16) (ty := .boolean) (by decide) (gc_59 Y _ _) (gp_59_16 Y _ _ _) rfl kU_X12 tyX12_ok nmX12 (by decide) kF_X12_98 rfl rfl (g_zn (by decide)).1 (g_zn (by decide)).2.1 (Nat.le_of_ble_eq_true rfl) dX12_opens_11 (q := 14) rfl ?_
    refine g_mem hM3 ?_
    refine g_iconst C (v := 0) dX12_opens_14 (q := 15) rfl (by decide) ?_
    obtain rfl := Option.some.inj h
    exact g_zret C (g_bz_lit (by decide)) E dX12_opens_15
theorem r_X12_opens {M : g_M} {p : Int32 × g_M} (h : f_X12_opens M = some p) : g_fr [] [(59, 11), (59, 12), (59, 13), (59, 14), (59, 15), (59, 16)] M p.2 := by
  unfold f_X12_opens at h
  have hf := g_fr.rfl (S := []) (T := [(59, 11), (59, 12), (59, 13), (59, 14), (59, 15), (59, 16)]) (M := M)
  rcases g_ifs h with h | h
  · obtain ⟨M3, hM3, h⟩ := g_bind h
    have hf := hf.pu hM3 (by decide)
    obtain rfl := Option.some.inj h
    exact hf
  · obtain ⟨M1, hM1, h⟩ := g_bind h
    have hf := hf.pu hM1 (by decide)
    obtain ⟨p2, hp2, h⟩ := g_bind h
    have hf := hf.trans ((r_X12_next hp2).mono (by decide) (by decide))
    obtain rfl := Option.some.inj h
    exact hf
def f_X12_need_31 (M : g_M) : Option (Int32 × g_M) :=
  (if (M.1 59 16) = 0 then (some (1, M)) else (some (0, M)))
set_option maxRecDepth 100000 in
theorem t_X12_need_31 {l : Launch} {X : g_X} {Y : g_Y} {p : Int32 × g_M} (C : g_C l (g_rm (3)) RX12 cX12_need 2 X Y) (E : g_E (some .boolean) X Y (some (.int p.1)) p.2) (M : g_M) (h : f_X12_need_31 M = some p) : g_G 2 X Y 31 [(0, g_r Y 59)] [] M := by
  unfold f_X12_need_31 at h
  refine g_aload_n C 0 dX12_need_31 (q := 32) rfl rfl rfl ?_
  refine g_get C (k := 59) (i := 16) (by decide) (gc_59 Y _ _) rfl kU_X12 (by decide) kF_X12_98 rfl dX12_need_32 (q := 35) rfl ?_
  have hif := g_if h
  clear h
  refine g_if_ne C dX12_need_35 (q := 38) (tgt := 42) rfl (by decide) (fun c => ?_) (fun c => ?_)
  · have h := hif.2 c
    clear hif
    refine g_iconst C (v := 0) dX12_need_42 (q := 43) rfl (by decide) ?_
    obtain rfl := Option.some.inj h
    exact g_zret C (g_bz_lit (by decide)) E dX12_need_43
  · have h := hif.1 c
    clear hif
    refine g_iconst C (v := 1) dX12_need_38 (q := 39) rfl (by decide) ?_
    refine g_goto C dX12_need_39 (tgt := 43) (by decide) ?_
    obtain rfl := Option.some.inj h
    exact g_zret C (g_bz_lit (by decide)) E dX12_need_43
theorem r_X12_need_31 {p : Int32 × g_M} (M : g_M) (h : f_X12_need_31 M = some p) : g_fr [] [(59, 11), (59, 12), (59, 13), (59, 14), (59, 16)] M p.2 := by
  unfold f_X12_need_31 at h
  have hf := g_fr.rfl (S := []) (T := [(59, 11), (59, 12), (59, 13), (59, 14), (59, 16)]) (M := M)
  rcases g_ifs h with h | h
  · obtain rfl := Option.some.inj h
    exact hf
  · obtain rfl := Option.some.inj h
    exact hf
def f_X12_need_17 (s0 : Int32) (M : g_M) : Option (Int32 × g_M) :=
  (g_bz s0).bind fun z1 => (some (g_u M 59 16 z1)).bind fun M2 => (if (M2.1 59 16) = 0 then ((f_X12_next M2).bind fun p3 => f_X12_need_31 p3) else (f_X12_need_31 M2))
set_option maxRecDepth 100000 in
theorem t_X12_need_17 {l : Launch} {X : g_X} {Y : g_Y} {p : Int32 × g_M} (C : g_C l (g_rm (3)) RX12 cX12_need 2 X Y) (E : g_E (some .boolean) X Y (some (.int p.1)) p.2) (s0 : Int32) (M : g_M) (h : f_X12_need_17 s0 M = some p) : g_G 2 X Y 17 [(0, g_r Y 59)] [.int s0, g_r Y 59] M := by
  unfold f_X12_need_17 at h
  obtain ⟨z1, hz1, h⟩ := g_bind h
  obtain ⟨M2, hM2, h⟩ := g_bind h
  refine g_putz C (k := 59) (i := 16) hz1 (by decide) (gc_59 Y _ _) (gp_59_16 Y _ _ _) rfl kU_X12 tyX12_ok nmX12 (by decide) kF_X12_98 rfl rfl (Nat.le_of_ble_eq_true rfl) dX12_need_17 (q := 20) rfl ?_
  refine g_mem hM2 ?_
  refine g_aload_n C 0 dX12_need_20 (q := 21) rfl rfl rfl ?_
  refine g_get C (k := 59) (i := 16) (by decide) (gc_59 Y _ _) rfl kU_X12 (by decide) kF_X12_98 rfl dX12_need_21 (q := 24) rfl ?_
  have hif := g_if h
  clear h
  refine g_if_ne C dX12_need_24 (q := 27) (tgt := 31) rfl (by decide) (fun c => ?_) (fun c => ?_)
  · have h := hif.2 c
    clear hif
    refine g_sub [0] (lv' := [(0, g_r Y 59)]) rfl ?_
    exact t_X12_need_31 C E M2 h
  · have h := hif.1 c
    clear hif
    refine g_aload_n C 0 dX12_need_27 (q := 28) rfl rfl rfl ?_
    obtain ⟨p3, hp3, h⟩ := g_bind h
    refine g_callV C (k := 59) (as := []) (st := []) (m_X12_next hp3) (g_hR (by decide)) (by decide) (by decide) (gc_59 Y _ _) rfl kM_X12_112 kI_X12_next kS_X12_next kN_X12 kC_X12_next kD_X12_next rfl (Nat.le_of_ble_eq_true rfl) dX12_need_28 (q := 31) rfl ?_
    show g_G 2 X Y 31 [(0, g_r Y 59)] [] p3
    refine g_sub [0] (lv' := [(0, g_r Y 59)]) rfl ?_
    exact t_X12_need_31 C E p3 h
theorem r_X12_need_17 {p : Int32 × g_M} (s0 : Int32) (M : g_M) (h : f_X12_need_17 s0 M = some p) : g_fr [] [(59, 11), (59, 12), (59, 13), (59, 14), (59, 16)] M p.2 := by
  unfold f_X12_need_17 at h
  have hf := g_fr.rfl (S := []) (T := [(59, 11), (59, 12), (59, 13), (59, 14), (59, 16)]) (M := M)
  obtain ⟨z1, -, h⟩ := g_bind h
  obtain ⟨M2, hM2, h⟩ := g_bind h
  have hf := hf.pu hM2 (by decide)
  rcases g_ifs h with h | h
  · obtain ⟨p3, hp3, h⟩ := g_bind h
    have hf := hf.trans ((r_X12_next hp3).mono (by decide) (by decide))
    exact hf.trans (r_X12_need_31 p3 h)
  · exact hf.trans (r_X12_need_31 M2 h)
def f_X12_need (x1 : Int32) (M : g_M) : Option (Int32 × g_M) :=
  (if (M.1 59 16) = 0 then ((if x1 = 0 then (f_X12_need_17 1 M) else (f_X12_need_17 0 M))) else (f_X12_need_17 1 M))
set_option maxRecDepth 100000 in
theorem m_X12_need {l : Launch} {Y : g_Y} {x1 : Int32} {M : g_M} {p : Int32 × g_M} (h : f_X12_need x1 M = some p) : g_R l Y (3) yX12_need cX12_need 2 (some .boolean) [g_r Y 59, .int x1] M (some (.int p.1)) p.2 := by
  unfold f_X12_need at h
  refine g_R_of kP_X12 rfl (Nat.le_of_ble_eq_true rfl) (fun X C E => ?_)
  show g_G 2 X Y 0 [(0, g_r Y 59), (1, .int x1)] [] M
  refine g_aload_n C 0 dX12_need_0 (q := 1) rfl rfl rfl ?_
  refine g_aload_n C 0 dX12_need_1 (q := 2) rfl rfl rfl ?_
  refine g_get C (k := 59) (i := 16) (by decide) (gc_59 Y _ _) rfl kU_X12 (by decide) kF_X12_98 rfl dX12_need_2 (q := 5) rfl ?_
  have hif := g_if h
  clear h
  refine g_if_ne C dX12_need_5 (q := 8) (tgt := 12) rfl (by decide) (fun c => ?_) (fun c => ?_)
  · have h := hif.2 c
    clear hif
    refine g_iconst C (v := 1) dX12_need_12 (q := 13) rfl (by decide) ?_
    refine g_goto C dX12_need_13 (tgt := 17) (by decide) ?_
    refine g_sub [0] (lv' := [(0, g_r Y 59)]) rfl ?_
    exact t_X12_need_17 C E 1 M h
  · have h := hif.1 c
    clear hif
    refine g_iload_n C 1 dX12_need_8 (q := 9) rfl rfl rfl ?_
    have hif := g_if h
    clear h
    refine g_if_ne C dX12_need_9 (q := 12) (tgt := 16) rfl (by decide) (fun c => ?_) (fun c => ?_)
    · have h := hif.2 c
      clear hif
      refine g_iconst C (v := 0) dX12_need_16 (q := 17) rfl (by decide) ?_
      refine g_sub [0] (lv' := [(0, g_r Y 59)]) rfl ?_
      exact t_X12_need_17 C E 0 M h
    · have h := hif.1 c
      clear hif
      refine g_iconst C (v := 1) dX12_need_12 (q := 13) rfl (by decide) ?_
      refine g_goto C dX12_need_13 (tgt := 17) (by decide) ?_
      refine g_sub [0] (lv' := [(0, g_r Y 59)]) rfl ?_
      exact t_X12_need_17 C E 1 M h
theorem r_X12_need {x1 : Int32} {M : g_M} {p : Int32 × g_M} (h : f_X12_need x1 M = some p) : g_fr [] [(59, 11), (59, 12), (59, 13), (59, 14), (59, 16)] M p.2 := by
  unfold f_X12_need at h
  have hf := g_fr.rfl (S := []) (T := [(59, 11), (59, 12), (59, 13), (59, 14), (59, 16)]) (M := M)
  rcases g_ifs h with h | h
  · rcases g_ifs h with h | h
    · exact hf.trans (r_X12_need_17 1 M h)
    · exact hf.trans (r_X12_need_17 0 M h)
  · exact hf.trans (r_X12_need_17 1 M h)
def f_X12_number_31 (x2 : Int32) (s0 : Int32) (M : g_M) : Option (Int32 × g_M) :=
  (f_X12_need s0 M).bind fun p1 => (if p1.1 = 0 then (some (0, p1.2)) else (some (x2, p1.2)))
set_option maxRecDepth 100000 in
theorem t_X12_number_31 {l : Launch} {X : g_X} {Y : g_Y} {p : Int32 × g_M} (C : g_C l (g_rm (4)) RX12 cX12_number 3 X Y) (E : g_E (some .int) X Y (some (.int p.1)) p.2) (x2 : Int32) (s0 : Int32) (M : g_M) (h : f_X12_number_31 x2 s0 M = some p) : g_G 3 X Y 31 [(2, .int x2)] [.int s0, g_r Y 59] M := by
  unfold f_X12_number_31 at h
  obtain ⟨p1, hp1, h⟩ := g_bind h
  refine g_callV C (k := 59) (as := [.int s0]) (st := []) (m_X12_need hp1) (g_hR (by decide)) (by decide) (by decide) (gc_59 Y _ _) rfl kM_X12_115 kI_X12_need kS_X12_need kN_X12 kC_X12_need kD_X12_need rfl (Nat.le_of_ble_eq_true rfl) dX12_number_31 (q := 34) rfl ?_
  show g_G 3 X Y 34 [(2, .int x2)] [.int p1.1] p1.2
  have hif := g_if h
  clear h
  refine g_if_eq C dX12_number_34 (q := 37) (tgt := 41) rfl (by decide) (fun c => ?_) (fun c => ?_)
  · have h := hif.1 c
    clear hif
    refine g_iconst C (v := 0) dX12_number_41 (q := 42) rfl (by decide) ?_
    obtain rfl := Option.some.inj h
    exact g_iret C E dX12_number_42
  · have h := hif.2 c
    clear hif
    refine g_iload_n C 0 dX12_number_37 (q := 38) rfl rfl rfl ?_
    refine g_goto C dX12_number_38 (tgt := 42) (by decide) ?_
    obtain rfl := Option.some.inj h
    exact g_iret C E dX12_number_42
theorem r_X12_number_31 {p : Int32 × g_M} (x2 : Int32) (s0 : Int32) (M : g_M) (h : f_X12_number_31 x2 s0 M = some p) : g_fr [] [(59, 11), (59, 12), (59, 13), (59, 14), (59, 16)] M p.2 := by
  unfold f_X12_number_31 at h
  have hf := g_fr.rfl (S := []) (T := [(59, 11), (59, 12), (59, 13), (59, 14), (59, 16)]) (M := M)
  obtain ⟨p1, hp1, h⟩ := g_bind h
  have hf := hf.trans ((r_X12_need hp1).mono (by decide) (by decide))
  rcases g_ifs h with h | h
  · obtain rfl := Option.some.inj h
    exact hf
  · obtain rfl := Option.some.inj h
    exact hf
def f_X12_number_30 (x2 : Int32) (M : g_M) : Option (Int32 × g_M) :=
  f_X12_number_31 x2 0 M
set_option maxRecDepth 100000 in
theorem t_X12_number_30 {l : Launch} {X : g_X} {Y : g_Y} {p : Int32 × g_M} (C : g_C l (g_rm (4)) RX12 cX12_number 3 X Y) (E : g_E (some .int) X Y (some (.int p.1)) p.2) (x2 : Int32) (M : g_M) (h : f_X12_number_30 x2 M = some p) : g_G 3 X Y 30 [(2, .int x2)] [g_r Y 59] M := by
  unfold f_X12_number_30 at h
  refine g_iconst C (v := 0) dX12_number_30 (q := 31) rfl (by decide) ?_
  refine g_sub [0] (lv' := [(2, .int x2)]) rfl ?_
  exact t_X12_number_31 C E x2 0 M h
theorem r_X12_number_30 {p : Int32 × g_M} (x2 : Int32) (M : g_M) (h : f_X12_number_30 x2 M = some p) : g_fr [] [(59, 11), (59, 12), (59, 13), (59, 14), (59, 16)] M p.2 := by
  unfold f_X12_number_30 at h
  have hf := g_fr.rfl (S := []) (T := [(59, 11), (59, 12), (59, 13), (59, 14), (59, 16)]) (M := M)
  exact hf.trans (r_X12_number_31 x2 0 M h)
def f_X12_number (x1 : Int32) (M : g_M) : Option (Int32 × g_M) :=
  (if (M.1 59 16) = 0 then ((if (M.1 59 11) = 2 then ((if x1 < (M.1 59 14) then (f_X12_number_30 (M.1 59 14) M) else (f_X12_number_31 (M.1 59 14) 1 M))) else (f_X12_number_30 (M.1 59 14) M))) else (f_X12_number_30 (M.1 59 14) M))
set_option maxRecDepth 100000 in
theorem m_X12_number {l : Launch} {Y : g_Y} {x1 : Int32} {M : g_M} {p : Int32 × g_M} (h : f_X12_number x1 M = some p) : g_R l Y (4) yX12_number cX12_number 3 (some .int) [g_r Y 59, .int x1] M (some (.int p.1)) p.2 := by
  unfold f_X12_number at h
  refine g_R_of kP_X12 rfl (Nat.le_of_ble_eq_true rfl) (fun X C E => ?_)
  show g_G 3 X Y 0 [(0, g_r Y 59), (1, .int x1)] [] M
  refine g_aload_n C 0 dX12_number_0 (q := 1) rfl rfl rfl ?_
  refine g_get C (k := 59) (i := 14) (by decide) (gc_59 Y _ _) rfl kU_X12 (by decide) kF_X12_95 rfl dX12_number_1 (q := 4) rfl ?_
  refine g_istore_n C dX12_number_4 (q := 5) rfl rfl (by decide) (lv' := [(2, .int (M.1 59 14)), (0, g_r Y 59), (1, .int x1)]) rfl ?_
  refine g_aload_n C 1 dX12_number_5 (q := 6) rfl rfl rfl ?_
  refine g_aload_n C 1 dX12_number_6 (q := 7) rfl rfl rfl ?_
  refine g_get C (k := 59) (i := 16) (by decide) (gc_59 Y _ _) rfl kU_X12 (by decide) kF_X12_98 rfl dX12_number_7 (q := 10) rfl ?_
  have hif := g_if h
  clear h
  refine g_if_ne C dX12_number_10 (q := 13) (tgt := 30) rfl (by decide) (fun c => ?_) (fun c => ?_)
  · have h := hif.2 c
    clear hif
    refine g_sub [0] (lv' := [(2, .int (M.1 59 14))]) rfl ?_
    exact t_X12_number_30 C E (M.1 59 14) M h
  · have h := hif.1 c
    clear hif
    refine g_aload_n C 1 dX12_number_13 (q := 14) rfl rfl rfl ?_
    refine g_get C (k := 59) (i := 11) (by decide) (gc_59 Y _ _) rfl kU_X12 (by decide) kF_X12_85 rfl dX12_number_14 (q := 17) rfl ?_
    refine g_iconst C (v := 2) dX12_number_17 (q := 18) rfl (by decide) ?_
    have hif := g_if h
    clear h
    refine g_icmp_ne C dX12_number_18 (q := 21) (tgt := 30) rfl (by decide) (fun c => ?_) (fun c => ?_)
    · have h := hif.2 c
      clear hif
      refine g_sub [0] (lv' := [(2, .int (M.1 59 14))]) rfl ?_
      exact t_X12_number_30 C E (M.1 59 14) M h
    · have h := hif.1 c
      clear hif
      refine g_iload_n C 0 dX12_number_21 (q := 22) rfl rfl rfl ?_
      refine g_iload_n C 2 dX12_number_22 (q := 23) rfl rfl rfl ?_
      have hif := g_if h
      clear h
      refine g_icmp_gt C dX12_number_23 (q := 26) (tgt := 30) rfl (by decide) (fun c => ?_) (fun c => ?_)
      · have h := hif.1 c
        clear hif
        refine g_sub [0] (lv' := [(2, .int (M.1 59 14))]) rfl ?_
        exact t_X12_number_30 C E (M.1 59 14) M h
      · have h := hif.2 c
        clear hif
        refine g_iconst C (v := 1) dX12_number_26 (q := 27) rfl (by decide) ?_
        refine g_goto C dX12_number_27 (tgt := 31) (by decide) ?_
        refine g_sub [0] (lv' := [(2, .int (M.1 59 14))]) rfl ?_
        exact t_X12_number_31 C E (M.1 59 14) 1 M h
theorem r_X12_number {x1 : Int32} {M : g_M} {p : Int32 × g_M} (h : f_X12_number x1 M = some p) : g_fr [] [(59, 11), (59, 12), (59, 13), (59, 14), (59, 16)] M p.2 := by
  unfold f_X12_number at h
  have hf := g_fr.rfl (S := []) (T := [(59, 11), (59, 12), (59, 13), (59, 14), (59, 16)]) (M := M)
  rcases g_ifs h with h | h
  · rcases g_ifs h with h | h
    · rcases g_ifs h with h | h
      · exact hf.trans (r_X12_number_30 (M.1 59 14) M h)
      · exact hf.trans (r_X12_number_31 (M.1 59 14) 1 M h)
    · exact hf.trans (r_X12_number_30 (M.1 59 14) M h)
  · exact hf.trans (r_X12_number_30 (M.1 59 14) M h)
def F_X12_part_42 (k71 : Int32 → g_M → Option (Int32 × g_M)) (k : Int32 → g_M → Option (Int32 × g_M)) (x1 : Int32) (M : g_M) : Option (Int32 × g_M) :=
  (if (M.1 59 16) = 0 then ((if (M.1 59 11) = 2 then ((f_X12_number 9 M).bind fun p6 => (some (x1 ||| ((1 : Int32) <<< (p6.1 &&& 31)))).bind fun y7 => k y7 p6.2) else (k71 x1 M))) else (k71 x1 M))
set_option maxRecDepth 100000 in
theorem t_X12_part_42 {l : Launch} {X : g_X} {Y : g_Y} {p : Int32 × g_M} {k71 : Int32 → g_M → Option (Int32 × g_M)} (C : g_C l (g_rm (6)) RX12 cX12_part 2 X Y) (E : g_E (some .int) X Y (some (.int p.1)) p.2) (hk71 : ∀ (x1 : Int32) (M : g_M), k71 x1 M = some p → g_G 2 X Y 71 [(0, g_r Y 59), (1, .int x1)] [] M) (n : Nat) : ∀ (x1 : Int32) (M : g_M), g_lp1 (F_X12_part_42 k71) n x1 M = some p → g_G 2 X Y 42 [(0, g_r Y 59), (1, .int x1)] [] M := by
  induction n with
  | zero => intro x1 M h; exact (g_nn h).elim
  | succ n ih =>
    intro x1 M h
    have h : F_X12_part_42 k71 (g_lp1 (F_X12_part_42 k71) n) x1 M = some p := h
    generalize g_lp1 (F_X12_part_42 k71) n = k at h ih
    unfold F_X12_part_42 at h
    refine g_aload_n C 0 dX12_part_42 (q := 43) rfl rfl rfl ?_
    refine g_get C (k := 59) (i := 16) (by decide) (gc_59 Y _ _) rfl kU_X12 (by decide) kF_X12_98 rfl dX12_part_43 (q := 46) rfl ?_
    have hif := g_if h
    clear h
    refine g_if_ne C dX12_part_46 (q := 49) (tgt := 71) rfl (by decide) (fun c => ?_) (fun c => ?_)
    · have h := hif.2 c
      clear hif
      refine g_sub [0, 1] (lv' := [(0, g_r Y 59), (1, .int x1)]) rfl ?_
      exact hk71 x1 M h
    · have h := hif.1 c
      clear hif
      refine g_aload_n C 0 dX12_part_49 (q := 50) rfl rfl rfl ?_
      refine g_get C (k := 59) (i := 11) (by decide) (gc_59 Y _ _) rfl kU_X12 (by decide) kF_X12_85 rfl dX12_part_50 (q := 53) rfl ?_
      refine g_iconst C (v := 2) dX12_part_53 (q := 54) rfl (by decide) ?_
      have hif := g_if h
      clear h
      refine g_icmp_ne C dX12_part_54 (q := 57) (tgt := 71) rfl (by decide) (fun c => ?_) (fun c => ?_)
      · have h := hif.2 c
        clear hif
        refine g_sub [0, 1] (lv' := [(0, g_r Y 59), (1, .int x1)]) rfl ?_
        exact hk71 x1 M h
      · have h := hif.1 c
        clear hif
        refine g_iload_n C 1 dX12_part_57 (q := 58) rfl rfl rfl ?_
        refine g_iconst C (v := 1) dX12_part_58 (q := 59) rfl (by decide) ?_
        refine g_aload_n C 0 dX12_part_59 (q := 60) rfl rfl rfl ?_
        refine g_bipush C (v := 9) dX12_part_60 (q := 62) rfl (by decide) ?_
        obtain ⟨p6, hp6, h⟩ := g_bind h
        refine g_callV C (k := 59) (as := [.int 9]) (st := [.int 1, .int x1]) (m_X12_number hp6) (g_hR (by decide)) (by decide) (by decide) (gc_59 Y _ _) rfl kM_X12_131 kI_X12_number kS_X12_number kN_X12 kC_X12_number kD_X12_number rfl (Nat.le_of_ble_eq_true rfl) dX12_part_62 (q := 65) rfl ?_
        show g_G 2 X Y 65 [(0, g_r Y 59), (1, .int x1)] [.int p6.1, .int 1, .int x1] p6.2
        refine g_ishl C dX12_part_65 (q := 66) rfl ?_
        refine g_ior C dX12_part_66 (q := 67) rfl ?_
        obtain ⟨y7, hy7, h⟩ := g_bind h
        refine g_top hy7 ?_
        refine g_istore_n C dX12_part_67 (q := 68) rfl rfl (by decide) (lv' := [(1, .int y7), (0, g_r Y 59)]) rfl ?_
        refine g_goto C dX12_part_68 (tgt := 42) (by decide) ?_
        refine g_sub [1, 0] (lv' := [(0, g_r Y 59), (1, .int y7)]) rfl ?_
        exact ih y7 p6.2 h
theorem r_X12_part_42 {p : Int32 × g_M} {k71 : Int32 → g_M → Option (Int32 × g_M)} (hk71 : ∀ (x1 : Int32) (M : g_M), k71 x1 M = some p → g_fr [] [(59, 11), (59, 12), (59, 13), (59, 14), (59, 16)] M p.2) (n : Nat) : ∀ (x1 : Int32) (M : g_M), g_lp1 (F_X12_part_42 k71) n x1 M = some p → g_fr [] [(59, 11), (59, 12), (59, 13), (59, 14), (59, 16)] M p.2 := by
  induction n with
  | zero => intro x1 M h; exact (g_nn h).elim
  | succ n ih =>
    intro x1 M h
    have h : F_X12_part_42 k71 (g_lp1 (F_X12_part_42 k71) n) x1 M = some p := h
    generalize g_lp1 (F_X12_part_42 k71) n = k at h ih
    unfold F_X12_part_42 at h
    have hf := g_fr.rfl (S := []) (T := [(59, 11), (59, 12), (59, 13), (59, 14), (59, 16)]) (M := M)
    rcases g_ifs h with h | h
    · rcases g_ifs h with h | h
      · obtain ⟨p6, hp6, h⟩ := g_bind h
        have hf := hf.trans ((r_X12_number hp6).mono (by decide) (by decide))
        obtain ⟨y7, -, h⟩ := g_bind h
        exact hf.trans (ih y7 p6.2 h)
      · exact hf.trans (hk71 x1 M h)
    · exact hf.trans (hk71 x1 M h)
def f_X12_part_71 (x1 : Int32) (M : g_M) : Option (Int32 × g_M) :=
  (f_X12_isSign 93 M).bind fun p8 => (f_X12_need p8 M).bind fun p9 => some (x1, p9.2)
set_option maxRecDepth 100000 in
theorem t_X12_part_71 {l : Launch} {X : g_X} {Y : g_Y} {p : Int32 × g_M} (C : g_C l (g_rm (6)) RX12 cX12_part 2 X Y) (E : g_E (some .int) X Y (some (.int p.1)) p.2) (x1 : Int32) (M : g_M) (h : f_X12_part_71 x1 M = some p) : g_G 2 X Y 71 [(0, g_r Y 59), (1, .int x1)] [] M := by
  unfold f_X12_part_71 at h
  refine g_aload_n C 0 dX12_part_71 (q := 72) rfl rfl rfl ?_
  refine g_aload_n C 0 dX12_part_72 (q := 73) rfl rfl rfl ?_
  refine g_bipush C (v := 93) dX12_part_73 (q := 75) rfl (by decide) ?_
  obtain ⟨p8, hp8, h⟩ := g_bind h
  refine g_callV C (k := 59) (as := [.int 93]) (st := [g_r Y 59]) (m_X12_isSign hp8) (g_hR (by decide)) (by decide) (by decide) (gc_59 Y _ _) rfl kM_X12_128 kI_X12_isSign kS_X12_isSign kN_X12 kC_X12_isSign kD_X12_isSign rfl (Nat.le_of_ble_eq_true rfl) dX12_part_75 (q := 78) rfl ?_
  show g_G 2 X Y 78 [(0, g_r Y 59), (1, .int x1)] [.int p8, g_r Y 59] M
  obtain ⟨p9, hp9, h⟩ := g_bind h
  refine g_callV C (k := 59) (as := [.int p8]) (st := []) (m_X12_need hp9) (g_hR (by decide)) (by decide) (by decide) (gc_59 Y _ _) rfl kM_X12_115 kI_X12_need kS_X12_need kN_X12 kC_X12_need kD_X12_need rfl (Nat.le_of_ble_eq_true rfl) dX12_part_78 (q := 81) rfl ?_
  show g_G 2 X Y 81 [(0, g_r Y 59), (1, .int x1)] [.int p9.1] p9.2
  refine g_pop C dX12_part_81 (q := 82) rfl rfl ?_
  refine g_iload_n C 1 dX12_part_82 (q := 83) rfl rfl rfl ?_
  obtain rfl := Option.some.inj h
  exact g_iret C E dX12_part_83
theorem r_X12_part_71 {p : Int32 × g_M} (x1 : Int32) (M : g_M) (h : f_X12_part_71 x1 M = some p) : g_fr [] [(59, 11), (59, 12), (59, 13), (59, 14), (59, 16)] M p.2 := by
  unfold f_X12_part_71 at h
  have hf := g_fr.rfl (S := []) (T := [(59, 11), (59, 12), (59, 13), (59, 14), (59, 16)]) (M := M)
  obtain ⟨p8, -, h⟩ := g_bind h
  obtain ⟨p9, hp9, h⟩ := g_bind h
  have hf := hf.trans ((r_X12_need hp9).mono (by decide) (by decide))
  obtain rfl := Option.some.inj h
  exact hf
def f_X12_part (M : g_M) : Option (Int32 × g_M) :=
  (f_X12_isWord_59 10 M).bind fun p1 => (if p1 = 0 then ((f_X12_isSign 91 M).bind fun p2 => (f_X12_need p2 M).bind fun p3 => (f_X12_number 9 p3.2).bind fun p4 => (some (0 ||| ((1 : Int32) <<< (p4.1 &&& 31)))).bind fun y5 => g_lp1 (F_X12_part_42 (fun (x1 : Int32) (M : g_M) => f_X12_part_71 x1 M)) 20000000 y5 p4.2) else ((f_X12_next M).bind fun p10 => some (p10.1 59 10, p10)))
set_option maxRecDepth 100000 in
theorem m_X12_part {l : Launch} {Y : g_Y} {M : g_M} {p : Int32 × g_M} (h : f_X12_part M = some p) : g_R l Y (6) yX12_part cX12_part 2 (some .int) [g_r Y 59] M (some (.int p.1)) p.2 := by
  unfold f_X12_part at h
  refine g_R_of kP_X12 rfl (Nat.le_of_ble_eq_true rfl) (fun X C E => ?_)
  show g_G 2 X Y 0 [(0, g_r Y 59)] [] M
  refine g_aload_n C 0 dX12_part_0 (q := 1) rfl rfl rfl ?_
  refine g_ldcS C (tx := "everyone") (j := 10) (by decide +kernel) dX12_part_1 (q := 3) rfl ?_
  obtain ⟨p1, hp1, h⟩ := g_bind h
  refine g_callV C (k := 59) (as := [.ref (Y.2.2.2.1 10)]) (st := []) (m_X12_isWord_59 10 (by decide) hp1) (g_hR (by decide)) (by decide) (by decide) (gc_59 Y _ _) rfl kM_X12_121 kI_X12_isWord kS_X12_isWord kN_X12 kC_X12_isWord kD_X12_isWord rfl (Nat.le_of_ble_eq_true rfl) dX12_part_3 (q := 6) rfl ?_
  show g_G 2 X Y 6 [(0, g_r Y 59)] [.int p1] M
  have hif := g_if h
  clear h
  refine g_if_eq C dX12_part_6 (q := 9) (tgt := 18) rfl (by decide) (fun c => ?_) (fun c => ?_)
  · have h := hif.1 c
    clear hif
    refine g_iconst C (v := 0) dX12_part_18 (q := 19) rfl (by decide) ?_
    refine g_istore_n C dX12_part_19 (q := 20) rfl rfl (by decide) (lv' := [(1, .int 0), (0, g_r Y 59)]) rfl ?_
    refine g_aload_n C 1 dX12_part_20 (q := 21) rfl rfl rfl ?_
    refine g_aload_n C 1 dX12_part_21 (q := 22) rfl rfl rfl ?_
    refine g_bipush C (v := 91) dX12_part_22 (q := 24) rfl (by decide) ?_
    obtain ⟨p2, hp2, h⟩ := g_bind h
    refine g_callV C (k := 59) (as := [.int 91]) (st := [g_r Y 59]) (m_X12_isSign hp2) (g_hR (by decide)) (by decide) (by decide) (gc_59 Y _ _) rfl kM_X12_128 kI_X12_isSign kS_X12_isSign kN_X12 kC_X12_isSign kD_X12_isSign rfl (Nat.le_of_ble_eq_true rfl) dX12_part_24 (q := 27) rfl ?_
    show g_G 2 X Y 27 [(1, .int 0), (0, g_r Y 59)] [.int p2, g_r Y 59] M
    obtain ⟨p3, hp3, h⟩ := g_bind h
    refine g_callV C (k := 59) (as := [.int p2]) (st := []) (m_X12_need hp3) (g_hR (by decide)) (by decide) (by decide) (gc_59 Y _ _) rfl kM_X12_115 kI_X12_need kS_X12_need kN_X12 kC_X12_need kD_X12_need rfl (Nat.le_of_ble_eq_true rfl) dX12_part_27 (q := 30) rfl ?_
    show g_G 2 X Y 30 [(1, .int 0), (0, g_r Y 59)] [.int p3.1] p3.2
    refine g_pop C dX12_part_30 (q := 31) rfl rfl ?_
    refine g_iload_n C 0 dX12_part_31 (q := 32) rfl rfl rfl ?_
    refine g_iconst C (v := 1) dX12_part_32 (q := 33) rfl (by decide) ?_
    refine g_aload_n C 1 dX12_part_33 (q := 34) rfl rfl rfl ?_
    refine g_bipush C (v := 9) dX12_part_34 (q := 36) rfl (by decide) ?_
    obtain ⟨p4, hp4, h⟩ := g_bind h
    refine g_callV C (k := 59) (as := [.int 9]) (st := [.int 1, .int 0]) (m_X12_number hp4) (g_hR (by decide)) (by decide) (by decide) (gc_59 Y _ _) rfl kM_X12_131 kI_X12_number kS_X12_number kN_X12 kC_X12_number kD_X12_number rfl (Nat.le_of_ble_eq_true rfl) dX12_part_36 (q := 39) rfl ?_
    show g_G 2 X Y 39 [(1, .int 0), (0, g_r Y 59)] [.int p4.1, .int 1, .int 0] p4.2
    refine g_ishl C dX12_part_39 (q := 40) rfl ?_
    refine g_ior C dX12_part_40 (q := 41) rfl ?_
    obtain ⟨y5, hy5, h⟩ := g_bind h
    refine g_top hy5 ?_
    refine g_istore_n C dX12_part_41 (q := 42) rfl rfl (by decide) (lv' := [(1, .int y5), (0, g_r Y 59)]) rfl ?_
    refine g_sub [1, 0] (lv' := [(0, g_r Y 59), (1, .int y5)]) rfl ?_
    refine t_X12_part_42 C E ?_ 20000000 y5 p4.2 h
    · intro x1 M h
      try dsimp only at h
      refine g_sub [0, 1] (lv' := [(0, g_r Y 59), (1, .int x1)]) rfl ?_
      exact t_X12_part_71 C E x1 M h
  · have h := hif.2 c
    clear hif
    refine g_aload_n C 0 dX12_part_9 (q := 10) rfl rfl rfl ?_
    obtain ⟨p10, hp10, h⟩ := g_bind h
    refine g_callV C (k := 59) (as := []) (st := []) (m_X12_next hp10) (g_hR (by decide)) (by decide) (by decide) (gc_59 Y _ _) rfl kM_X12_112 kI_X12_next kS_X12_next kN_X12 kC_X12_next kD_X12_next rfl (Nat.le_of_ble_eq_true rfl) dX12_part_10 (q := 13) rfl ?_
    show g_G 2 X Y 13 [(0, g_r Y 59)] [] p10
    refine g_aload_n C 0 dX12_part_13 (q := 14) rfl rfl rfl ?_
    refine g_get C (k := 59) (i := 10) (by decide) (gc_59 Y _ _) rfl kU_X12 (by decide) kF_X12_125 rfl dX12_part_14 (q := 17) rfl ?_
    obtain rfl := Option.some.inj h
    exact g_iret C E dX12_part_17
theorem r_X12_part {M : g_M} {p : Int32 × g_M} (h : f_X12_part M = some p) : g_fr [] [(59, 11), (59, 12), (59, 13), (59, 14), (59, 16)] M p.2 := by
  unfold f_X12_part at h
  have hf := g_fr.rfl (S := []) (T := [(59, 11), (59, 12), (59, 13), (59, 14), (59, 16)]) (M := M)
  obtain ⟨p1, -, h⟩ := g_bind h
  rcases g_ifs h with h | h
  · obtain ⟨p2, -, h⟩ := g_bind h
    obtain ⟨p3, hp3, h⟩ := g_bind h
    have hf := hf.trans ((r_X12_need hp3).mono (by decide) (by decide))
    obtain ⟨p4, hp4, h⟩ := g_bind h
    have hf := hf.trans ((r_X12_number hp4).mono (by decide) (by decide))
    obtain ⟨y5, -, h⟩ := g_bind h
    refine hf.trans (r_X12_part_42 ?_ 20000000 y5 p4.2 h)
    · intro x1 M h
      try dsimp only at h
      have hf := g_fr.rfl (S := []) (T := [(59, 11), (59, 12), (59, 13), (59, 14), (59, 16)]) (M := M)
      exact hf.trans (r_X12_part_71 x1 M h)
  · obtain ⟨p10, hp10, h⟩ := g_bind h
    have hf := hf.trans ((r_X12_next hp10).mono (by decide) (by decide))
    obtain rfl := Option.some.inj h
    exact hf
def F_X12_many_4 (M : g_M) (k24 : Int32 → Option (Int32)) (k : Int32 → Int32 → Int32 → Option (Int32)) (x0 : Int32) (x1 : Int32) (x2 : Int32) : Option (Int32) :=
  (if 24 ≤ x2 then (k24 x1) else ((some (x1 + ((x0 >>> (x2 &&& 31)) &&& 1))).bind fun y1 => k x0 y1 (x2 + 1)))
set_option maxRecDepth 100000 in
theorem t_X12_many_4 {l : Launch} {X : g_X} {Y : g_Y} {p : Int32} {M : g_M} {k24 : Int32 → Option (Int32)} (C : g_C l (g_rm (0)) RX12 cX12_many 3 X Y) (E : g_E (some .int) X Y (some (.int p)) M) (hk24 : ∀ (x1 : Int32), k24 x1 = some p → g_G 3 X Y 24 [(1, .int x1)] [] M) (n : Nat) : ∀ (x0 : Int32) (x1 : Int32) (x2 : Int32), g_lq3 (F_X12_many_4 M k24) n x0 x1 x2 = some p → g_G 3 X Y 4 [(0, .int x0), (1, .int x1), (2, .int x2)] [] M := by
  induction n with
  | zero => intro x0 x1 x2 h; exact (g_nn h).elim
  | succ n ih =>
    intro x0 x1 x2 h
    have h : F_X12_many_4 M k24 (g_lq3 (F_X12_many_4 M k24) n) x0 x1 x2 = some p := h
    generalize g_lq3 (F_X12_many_4 M k24) n = k at h ih
    unfold F_X12_many_4 at h
    refine g_iload_n C 2 dX12_many_4 (q := 5) rfl rfl rfl ?_
    refine g_bipush C (v := 24) dX12_many_5 (q := 7) rfl (by decide) ?_
    have hif := g_if h
    clear h
    refine g_icmp_ge C dX12_many_7 (q := 10) (tgt := 24) rfl (by decide) (fun c => ?_) (fun c => ?_)
    · have h := hif.1 c
      clear hif
      refine g_sub [1] (lv' := [(1, .int x1)]) rfl ?_
      exact hk24 x1 h
    · have h := hif.2 c
      clear hif
      refine g_iload_n C 1 dX12_many_10 (q := 11) rfl rfl rfl ?_
      refine g_iload_n C 0 dX12_many_11 (q := 12) rfl rfl rfl ?_
      refine g_iload_n C 2 dX12_many_12 (q := 13) rfl rfl rfl ?_
      refine g_ishr C dX12_many_13 (q := 14) rfl ?_
      refine g_iconst C (v := 1) dX12_many_14 (q := 15) rfl (by decide) ?_
      refine g_iand C dX12_many_15 (q := 16) rfl ?_
      refine g_iadd C dX12_many_16 (q := 17) rfl ?_
      obtain ⟨y1, hy1, h⟩ := g_bind h
      refine g_top hy1 ?_
      refine g_istore_n C dX12_many_17 (q := 18) rfl rfl (by decide) (lv' := [(1, .int y1), (0, .int x0), (2, .int x2)]) rfl ?_
      refine g_iinc C (k := 2) (v := x2 + 1) dX12_many_18 (q := 21) rfl rfl rfl (by decide) (lv' := [(2, .int (x2 + 1)), (1, .int y1), (0, .int x0)]) rfl ?_
      refine g_goto C dX12_many_21 (tgt := 4) (by decide) ?_
      refine g_sub [2, 1, 0] (lv' := [(0, .int x0), (1, .int y1), (2, .int (x2 + 1))]) rfl ?_
      exact ih x0 y1 (x2 + 1) h
def f_X12_many (x0 : Int32) (M : g_M) : Option (Int32) :=
  g_lq3 (F_X12_many_4 M (fun (x1 : Int32) => some x1)) 20000000 x0 0 0
set_option maxRecDepth 100000 in
theorem m_X12_many {l : Launch} {Y : g_Y} {x0 : Int32} {M : g_M} {p : Int32} (h : f_X12_many x0 M = some p) : g_R l Y (0) yX12_many cX12_many 3 (some .int) [.int x0] M (some (.int p)) M := by
  unfold f_X12_many at h
  refine g_R_of kP_X12 rfl (Nat.le_of_ble_eq_true rfl) (fun X C E => ?_)
  show g_G 3 X Y 0 [(0, .int x0)] [] M
  refine g_iconst C (v := 0) dX12_many_0 (q := 1) rfl (by decide) ?_
  refine g_istore_n C dX12_many_1 (q := 2) rfl rfl (by decide) (lv' := [(1, .int 0), (0, .int x0)]) rfl ?_
  refine g_iconst C (v := 0) dX12_many_2 (q := 3) rfl (by decide) ?_
  refine g_istore_n C dX12_many_3 (q := 4) rfl rfl (by decide) (lv' := [(2, .int 0), (1, .int 0), (0, .int x0)]) rfl ?_
  refine g_sub [2, 1, 0] (lv' := [(0, .int x0), (1, .int 0), (2, .int 0)]) rfl ?_
  refine t_X12_many_4 C E ?_ 20000000 x0 0 0 h
  · intro x1 h
    try dsimp only at h
    refine g_iload_n C 0 dX12_many_24 (q := 25) rfl rfl rfl ?_
    obtain rfl := Option.some.inj h
    exact g_iret C E dX12_many_25
def f_X12_one (kE : g_M → Option (Int32 × g_M)) (M : g_M) : Option (Int32 × g_M) :=
  (f_X12_isWord_59 5 M).bind fun p1 => (if p1 = 0 then ((f_X12_isWord_59 7 M).bind fun p2 => (if p2 = 0 then ((f_X12_isWord_59 8 M).bind fun p3 => (if p3 = 0 then ((f_X12_isWord_59 9 M).bind fun p4 => (if p4 = 0 then ((f_X12_isSign 40 M).bind fun p5 => (if p5 = 0 then ((some (g_u M 59 16 1)).bind fun M6 => some (0, M6)) else ((f_X12_opens M).bind fun p7 => (if p7.1 = 0 then ((some (g_u p7.2 59 16 1)).bind fun M13 => some (0, M13)) else ((kE p7.2).bind fun p8 => (f_X12_isSign 41 p8.2).bind fun p9 => (f_X12_need p9 p8.2).bind fun p10 => (some (g_u p10.2 59 15 ((p10.2.1 59 15) - 1))).bind fun M11 => (g_bz p8.1).bind fun z12 => some (z12, M11)))))) else ((f_X12_next M).bind fun p14 => (f_X12_number 99 p14).bind fun p15 => (if (p14.1 59 9) < p15.1 then (some (0, p15.2)) else (some (1, p15.2)))))) else ((f_X12_next M).bind fun p16 => (f_X12_part p16).bind fun p17 => (if (p17.1 &&& (p17.2.1 59 8)) = 0 then (some (0, p17.2)) else (some (1, p17.2)))))) else ((f_X12_next M).bind fun p18 => (f_X12_part p18).bind fun p19 => (if ((p19.1 &&& (p19.2.1 59 10)) &&& ((p19.2.1 59 8) ^^^ (-1))) = 0 then (some (1, p19.2)) else (some (0, p19.2)))))) else ((f_X12_next M).bind fun p20 => (f_X12_number 99 p20).bind fun p21 => (f_X12_isWord_59 6 p21.2).bind fun p22 => (f_X12_need p22 p21.2).bind fun p23 => (f_X12_part p23.2).bind fun p24 => (f_X12_many ((p23.2.1 59 8) &&& p24.1) p24.2).bind fun p25 => (if p25 < p21.1 then (some (0, p24.2)) else (some (1, p24.2)))))
set_option maxRecDepth 100000 in
theorem m_X12_one {l : Launch} {Y : g_Y} (kE : g_M → Option (Int32 × g_M)) (hh : Nat) (hE : ∀ (M : g_M) (p : Int32 × g_M), kE M = some p → g_R l Y (hh) yX12_either cX12_either 3 (some .boolean) [g_r Y 59] M (some (.int p.1)) p.2) {M : g_M} {p : Int32 × g_M} (h : f_X12_one kE M = some p) : g_R l Y (hh + 12) yX12_one cX12_one 2 (some .boolean) [g_r Y 59] M (some (.int p.1)) p.2 := by
  unfold f_X12_one at h
  refine g_R_of kP_X12 rfl (Nat.le_of_ble_eq_true rfl) (fun X C E => ?_)
  show g_G 2 X Y 0 [(0, g_r Y 59)] [] M
  refine g_aload_n C 0 dX12_one_0 (q := 1) rfl rfl rfl ?_
  refine g_ldcS C (tx := "least") (j := 5) (by decide +kernel) dX12_one_1 (q := 3) rfl ?_
  obtain ⟨p1, hp1, h⟩ := g_bind h
  refine g_callV C (k := 59) (as := [.ref (Y.2.2.2.1 5)]) (st := []) (m_X12_isWord_59 5 (by decide) hp1) (g_hR (by omega)) (by decide) (by decide) (gc_59 Y _ _) rfl kM_X12_121 kI_X12_isWord kS_X12_isWord kN_X12 kC_X12_isWord kD_X12_isWord rfl (Nat.le_of_ble_eq_true rfl) dX12_one_3 (q := 6) rfl ?_
  show g_G 2 X Y 6 [(0, g_r Y 59)] [.int p1] M
  have hif := g_if h
  clear h
  refine g_if_eq C dX12_one_6 (q := 9) (tgt := 53) rfl (by decide) (fun c => ?_) (fun c => ?_)
  · have h := hif.1 c
    clear hif
    refine g_aload_n C 0 dX12_one_53 (q := 54) rfl rfl rfl ?_
    refine g_ldcS C (tx := "all") (j := 7) (by decide +kernel) dX12_one_54 (q := 56) rfl ?_
    obtain ⟨p2, hp2, h⟩ := g_bind h
    refine g_callV C (k := 59) (as := [.ref (Y.2.2.2.1 7)]) (st := []) (m_X12_isWord_59 7 (by decide) hp2) (g_hR (by omega)) (by decide) (by decide) (gc_59 Y _ _) rfl kM_X12_121 kI_X12_isWord kS_X12_isWord kN_X12 kC_X12_isWord kD_X12_isWord rfl (Nat.le_of_ble_eq_true rfl) dX12_one_56 (q := 59) rfl ?_
    show g_G 2 X Y 59 [(0, g_r Y 59)] [.int p2] M
    have hif := g_if h
    clear h
    refine g_if_eq C dX12_one_59 (q := 62) (tgt := 91) rfl (by decide) (fun c => ?_) (fun c => ?_)
    · have h := hif.1 c
      clear hif
      refine g_aload_n C 0 dX12_one_91 (q := 92) rfl rfl rfl ?_
      refine g_ldcS C (tx := "any") (j := 8) (by decide +kernel) dX12_one_92 (q := 94) rfl ?_
      obtain ⟨p3, hp3, h⟩ := g_bind h
      refine g_callV C (k := 59) (as := [.ref (Y.2.2.2.1 8)]) (st := []) (m_X12_isWord_59 8 (by decide) hp3) (g_hR (by omega)) (by decide) (by decide) (gc_59 Y _ _) rfl kM_X12_121 kI_X12_isWord kS_X12_isWord kN_X12 kC_X12_isWord kD_X12_isWord rfl (Nat.le_of_ble_eq_true rfl) dX12_one_94 (q := 97) rfl ?_
      show g_G 2 X Y 97 [(0, g_r Y 59)] [.int p3] M
      have hif := g_if h
      clear h
      refine g_if_eq C dX12_one_97 (q := 100) (tgt := 122) rfl (by decide) (fun c => ?_) (fun c => ?_)
      · have h := hif.1 c
        clear hif
        refine g_aload_n C 0 dX12_one_122 (q := 123) rfl rfl rfl ?_
        refine g_ldcS C (tx := "weigh") (j := 9) (by decide +kernel) dX12_one_123 (q := 125) rfl ?_
        obtain ⟨p4, hp4, h⟩ := g_bind h
        refine g_callV C (k := 59) (as := [.ref (Y.2.2.2.1 9)]) (st := []) (m_X12_isWord_59 9 (by decide) hp4) (g_hR (by omega)) (by decide) (by decide) (gc_59 Y _ _) rfl kM_X12_121 kI_X12_isWord kS_X12_isWord kN_X12 kC_X12_isWord kD_X12_isWord rfl (Nat.le_of_ble_eq_true rfl) dX12_one_125 (q := 128) rfl ?_
        show g_G 2 X Y 128 [(0, g_r Y 59)] [.int p4] M
        have hif := g_if h
        clear h
        refine g_if_eq C dX12_one_128 (q := 131) (tgt := 154) rfl (by decide) (fun c => ?_) (fun c => ?_)
        · have h := hif.1 c
          clear hif
          refine g_aload_n C 0 dX12_one_154 (q := 155) rfl rfl rfl ?_
          refine g_bipush C (v := 40) dX12_one_155 (q := 157) rfl (by decide) ?_
          obtain ⟨p5, hp5, h⟩ := g_bind h
          refine g_callV C (k := 59) (as := [.int 40]) (st := []) (m_X12_isSign hp5) (g_hR (by omega)) (by decide) (by decide) (gc_59 Y _ _) rfl kM_X12_128 kI_X12_isSign kS_X12_isSign kN_X12 kC_X12_isSign kD_X12_isSign rfl (Nat.le_of_ble_eq_true rfl) dX12_one_157 (q := 160) rfl ?_
          show g_G 2 X Y 160 [(0, g_r Y 59)] [.int p5] M
          have hif := g_if h
          clear h
          refine g_if_eq C dX12_one_160 (q := 163) (tgt := 170) rfl (by decide) (fun c => ?_) (fun c => ?_)
          · have h := hif.1 c
            clear hif
            refine g_aload_n C 0 dX12_one_170 (q := 171) rfl rfl rfl ?_
            refine g_iconst C (v := 1) dX12_one_171 (q := 172) rfl (by decide) ?_
            obtain ⟨M6, hM6, h⟩ := g_bind h
            refine g_put C (k := 59) (i := 16) (ty := .boolean) (by decide) (gc_59 Y _ _) (gp_59_16 Y _ _ _) rfl kU_X12 tyX12_ok nmX12 (by decide) kF_X12_98 rfl rfl (g_zn (by decide)).1 (g_zn (by decide)).2.1 (Nat.le_of_ble_eq_true rfl) dX12_one_172 (q := 175) rfl ?_
            refine g_mem hM6 ?_
            refine g_iconst C (v := 0) dX12_one_175 (q := 176) rfl (by decide) ?_
            obtain rfl := Option.some.inj h
            exact g_zret C (g_bz_lit (by decide)) E dX12_one_176
          · have h := hif.2 c
            clear hif
            refine g_aload_n C 0 dX12_one_163 (q := 164) rfl rfl rfl ?_
            obtain ⟨p7, hp7, h⟩ := g_bind h
            refine g_callV C (k := 59) (as := []) (st := []) (m_X12_opens hp7) (g_hR (by omega)) (by decide) (by decide) (gc_59 Y _ _) rfl kM_X12_159 kI_X12_opens kS_X12_opens kN_X12 kC_X12_opens kD_X12_opens rfl (Nat.le_of_ble_eq_true rfl) dX12_one_164 (q := 167) rfl ?_
            show g_G 2 X Y 167 [(0, g_r Y 59)] [.int p7.1] p7.2
            have hif := g_if h
            clear h
            refine g_if_ne C dX12_one_167 (q := 170) (tgt := 177) rfl (by decide) (fun c => ?_) (fun c => ?_)
            · have h := hif.2 c
              clear hif
              refine g_aload_n C 0 dX12_one_177 (q := 178) rfl rfl rfl ?_
              obtain ⟨p8, hp8, h⟩ := g_bind h
              refine g_callV C (k := 59) (as := []) (st := []) (hE _ _ hp8) (g_hR (by omega)) (by decide) (by decide) (gc_59 Y _ _) rfl kM_X12_163 kI_X12_either kS_X12_either kN_X12 kC_X12_either kD_X12_either rfl (Nat.le_of_ble_eq_true rfl) dX12_one_178 (q := 181) rfl ?_
              show g_G 2 X Y 181 [(0, g_r Y 59)] [.int p8.1] p8.2
              refine g_istore_n C dX12_one_181 (q := 182) rfl rfl (by decide) (lv' := [(1, .int p8.1), (0, g_r Y 59)]) rfl ?_
              refine g_aload_n C 1 dX12_one_182 (q := 183) rfl rfl rfl ?_
              refine g_aload_n C 1 dX12_one_183 (q := 184) rfl rfl rfl ?_
              refine g_bipush C (v := 41) dX12_one_184 (q := 186) rfl (by decide) ?_
              obtain ⟨p9, hp9, h⟩ := g_bind h
              refine g_callV C (k := 59) (as := [.int 41]) (st := [g_r Y 59]) (m_X12_isSign hp9) (g_hR (by omega)) (by decide) (by decide) (gc_59 Y _ _) rfl kM_X12_128 kI_X12_isSign kS_X12_isSign kN_X12 kC_X12_isSign kD_X12_isSign rfl (Nat.le_of_ble_eq_true rfl) dX12_one_186 (q := 189) rfl ?_
              show g_G 2 X Y 189 [(1, .int p8.1), (0, g_r Y 59)] [.int p9, g_r Y 59] p8.2
              obtain ⟨p10, hp10, h⟩ := g_bind h
              refine g_callV C (k := 59) (as := [.int p9]) (st := []) (m_X12_need hp10) (g_hR (by omega)) (by decide) (by decide) (gc_59 Y _ _) rfl kM_X12_115 kI_X12_need kS_X12_need kN_X12 kC_X12_need kD_X12_need rfl (Nat.le_of_ble_eq_true rfl) dX12_one_189 (q := 192) rfl ?_
              show g_G 2 X Y 192 [(1, .int p8.1), (0, g_r Y 59)] [.int p10.1] p10.2
              refine g_pop C dX12_one_192 (q := 193) rfl rfl ?_
              refine g_aload_n C 1 dX12_one_193 (q := 194) rfl rfl rfl ?_
              refine g_dup C dX12_one_194 (q := 195) rfl rfl ?_
              refine g_get C (k := 59) (i := 15) (by decide) (gc_59 Y _ _) rfl kU_X12 (by decide) kF_X12_134 rfl dX12_one_195 (q := 198) rfl ?_
              refine g_iconst C (v := 1) dX12_one_198 (q := 199) rfl (by decide) ?_
              refine g_isub C dX12_one_199 (q := 200) rfl ?_
              obtain ⟨M11, hM11, h⟩ := g_bind h
              refine g_put C (k := 59) (i := 15) (ty := .int) (by decide) (gc_59 Y _ _) (gp_59_15 Y _ _ _) rfl kU_X12 tyX12_ok nmX12 (by decide) kF_X12_134 rfl rfl rfl rfl (Nat.le_of_ble_eq_true rfl) dX12_one_200 (q := 203) rfl ?_
              refine g_mem hM11 ?_
              refine g_iload_n C 0 dX12_one_203 (q := 204) rfl rfl rfl ?_
              obtain ⟨z12, hz12, h⟩ := g_bind h
              obtain rfl := Option.some.inj h
              exact g_zret C hz12 E dX12_one_204
            · have h := hif.1 c
              clear hif
              refine g_aload_n C 0 dX12_one_170 (q := 171) rfl rfl rfl ?_
              refine g_iconst C (v := 1) dX12_one_171 (q := 172) rfl (by decide) ?_
              obtain ⟨M13, hM13, h⟩ := g_bind h
              refine g_put C (k := 59) (i := 16) (ty := .boolean) (by decide) (gc_59 Y _ _) (gp_59_16 Y _ _ _) rfl kU_X12 tyX12_ok nmX12 (by decide) kF_X12_98 rfl rfl (g_zn (by decide)).1 (g_zn (by decide)).2.1 (Nat.le_of_ble_eq_true rfl) dX12_one_172 (q := 175) rfl ?_
              refine g_mem hM13 ?_
              refine g_iconst C (v := 0) dX12_one_175 (q := 176) rfl (by decide) ?_
              obtain rfl := Option.some.inj h
              exact g_zret C (g_bz_lit (by decide)) E dX12_one_176
        · have h := hif.2 c
          clear hif
          refine g_aload_n C 0 dX12_one_131 (q := 132) rfl rfl rfl ?_
          obtain ⟨p14, hp14, h⟩ := g_bind h
          refine g_callV C (k := 59) (as := []) (st := []) (m_X12_next hp14) (g_hR (by omega)) (by decide) (by decide) (gc_59 Y _ _) rfl kM_X12_112 kI_X12_next kS_X12_next kN_X12 kC_X12_next kD_X12_next rfl (Nat.le_of_ble_eq_true rfl) dX12_one_132 (q := 135) rfl ?_
          show g_G 2 X Y 135 [(0, g_r Y 59)] [] p14
          refine g_aload_n C 0 dX12_one_135 (q := 136) rfl rfl rfl ?_
          refine g_get C (k := 59) (i := 9) (by decide) (gc_59 Y _ _) rfl kU_X12 (by decide) kF_X12_156 rfl dX12_one_136 (q := 139) rfl ?_
          refine g_aload_n C 0 dX12_one_139 (q := 140) rfl rfl rfl ?_
          refine g_bipush C (v := 99) dX12_one_140 (q := 142) rfl (by decide) ?_
          obtain ⟨p15, hp15, h⟩ := g_bind h
          refine g_callV C (k := 59) (as := [.int 99]) (st := [.int (p14.1 59 9)]) (m_X12_number hp15) (g_hR (by omega)) (by decide) (by decide) (gc_59 Y _ _) rfl kM_X12_131 kI_X12_number kS_X12_number kN_X12 kC_X12_number kD_X12_number rfl (Nat.le_of_ble_eq_true rfl) dX12_one_142 (q := 145) rfl ?_
          show g_G 2 X Y 145 [(0, g_r Y 59)] [.int p15.1, .int (p14.1 59 9)] p15.2
          have hif := g_if h
          clear h
          refine g_icmp_lt C dX12_one_145 (q := 148) (tgt := 152) rfl (by decide) (fun c => ?_) (fun c => ?_)
          · have h := hif.1 c
            clear hif
            refine g_iconst C (v := 0) dX12_one_152 (q := 153) rfl (by decide) ?_
            obtain rfl := Option.some.inj h
            exact g_zret C (g_bz_lit (by decide)) E dX12_one_153
          · have h := hif.2 c
            clear hif
            refine g_iconst C (v := 1) dX12_one_148 (q := 149) rfl (by decide) ?_
            refine g_goto C dX12_one_149 (tgt := 153) (by decide) ?_
            obtain rfl := Option.some.inj h
            exact g_zret C (g_bz_lit (by decide)) E dX12_one_153
      · have h := hif.2 c
        clear hif
        refine g_aload_n C 0 dX12_one_100 (q := 101) rfl rfl rfl ?_
        obtain ⟨p16, hp16, h⟩ := g_bind h
        refine g_callV C (k := 59) (as := []) (st := []) (m_X12_next hp16) (g_hR (by omega)) (by decide) (by decide) (gc_59 Y _ _) rfl kM_X12_112 kI_X12_next kS_X12_next kN_X12 kC_X12_next kD_X12_next rfl (Nat.le_of_ble_eq_true rfl) dX12_one_101 (q := 104) rfl ?_
        show g_G 2 X Y 104 [(0, g_r Y 59)] [] p16
        refine g_aload_n C 0 dX12_one_104 (q := 105) rfl rfl rfl ?_
        obtain ⟨p17, hp17, h⟩ := g_bind h
        refine g_callV C (k := 59) (as := []) (st := []) (m_X12_part hp17) (g_hR (by omega)) (by decide) (by decide) (gc_59 Y _ _) rfl kM_X12_144 kI_X12_part kS_X12_part kN_X12 kC_X12_part kD_X12_part rfl (Nat.le_of_ble_eq_true rfl) dX12_one_105 (q := 108) rfl ?_
        show g_G 2 X Y 108 [(0, g_r Y 59)] [.int p17.1] p17.2
        refine g_aload_n C 0 dX12_one_108 (q := 109) rfl rfl rfl ?_
        refine g_get C (k := 59) (i := 8) (by decide) (gc_59 Y _ _) rfl kU_X12 (by decide) kF_X12_141 rfl dX12_one_109 (q := 112) rfl ?_
        refine g_iand C dX12_one_112 (q := 113) rfl ?_
        have hif := g_if h
        clear h
        refine g_if_eq C dX12_one_113 (q := 116) (tgt := 120) rfl (by decide) (fun c => ?_) (fun c => ?_)
        · have h := hif.1 c
          clear hif
          refine g_iconst C (v := 0) dX12_one_120 (q := 121) rfl (by decide) ?_
          obtain rfl := Option.some.inj h
          exact g_zret C (g_bz_lit (by decide)) E dX12_one_121
        · have h := hif.2 c
          clear hif
          refine g_iconst C (v := 1) dX12_one_116 (q := 117) rfl (by decide) ?_
          refine g_goto C dX12_one_117 (tgt := 121) (by decide) ?_
          obtain rfl := Option.some.inj h
          exact g_zret C (g_bz_lit (by decide)) E dX12_one_121
    · have h := hif.2 c
      clear hif
      refine g_aload_n C 0 dX12_one_62 (q := 63) rfl rfl rfl ?_
      obtain ⟨p18, hp18, h⟩ := g_bind h
      refine g_callV C (k := 59) (as := []) (st := []) (m_X12_next hp18) (g_hR (by omega)) (by decide) (by decide) (gc_59 Y _ _) rfl kM_X12_112 kI_X12_next kS_X12_next kN_X12 kC_X12_next kD_X12_next rfl (Nat.le_of_ble_eq_true rfl) dX12_one_63 (q := 66) rfl ?_
      show g_G 2 X Y 66 [(0, g_r Y 59)] [] p18
      refine g_aload_n C 0 dX12_one_66 (q := 67) rfl rfl rfl ?_
      obtain ⟨p19, hp19, h⟩ := g_bind h
      refine g_callV C (k := 59) (as := []) (st := []) (m_X12_part hp19) (g_hR (by omega)) (by decide) (by decide) (gc_59 Y _ _) rfl kM_X12_144 kI_X12_part kS_X12_part kN_X12 kC_X12_part kD_X12_part rfl (Nat.le_of_ble_eq_true rfl) dX12_one_67 (q := 70) rfl ?_
      show g_G 2 X Y 70 [(0, g_r Y 59)] [.int p19.1] p19.2
      refine g_aload_n C 0 dX12_one_70 (q := 71) rfl rfl rfl ?_
      refine g_get C (k := 59) (i := 10) (by decide) (gc_59 Y _ _) rfl kU_X12 (by decide) kF_X12_125 rfl dX12_one_71 (q := 74) rfl ?_
      refine g_iand C dX12_one_74 (q := 75) rfl ?_
      refine g_aload_n C 0 dX12_one_75 (q := 76) rfl rfl rfl ?_
      refine g_get C (k := 59) (i := 8) (by decide) (gc_59 Y _ _) rfl kU_X12 (by decide) kF_X12_141 rfl dX12_one_76 (q := 79) rfl ?_
      refine g_iconst C (v := (-1)) dX12_one_79 (q := 80) rfl (by decide) ?_
      refine g_ixor C dX12_one_80 (q := 81) rfl ?_
      refine g_iand C dX12_one_81 (q := 82) rfl ?_
      have hif := g_if h
      clear h
      refine g_if_ne C dX12_one_82 (q := 85) (tgt := 89) rfl (by decide) (fun c => ?_) (fun c => ?_)
      · have h := hif.2 c
        clear hif
        refine g_iconst C (v := 0) dX12_one_89 (q := 90) rfl (by decide) ?_
        obtain rfl := Option.some.inj h
        exact g_zret C (g_bz_lit (by decide)) E dX12_one_90
      · have h := hif.1 c
        clear hif
        refine g_iconst C (v := 1) dX12_one_85 (q := 86) rfl (by decide) ?_
        refine g_goto C dX12_one_86 (tgt := 90) (by decide) ?_
        obtain rfl := Option.some.inj h
        exact g_zret C (g_bz_lit (by decide)) E dX12_one_90
  · have h := hif.2 c
    clear hif
    refine g_aload_n C 0 dX12_one_9 (q := 10) rfl rfl rfl ?_
    obtain ⟨p20, hp20, h⟩ := g_bind h
    refine g_callV C (k := 59) (as := []) (st := []) (m_X12_next hp20) (g_hR (by omega)) (by decide) (by decide) (gc_59 Y _ _) rfl kM_X12_112 kI_X12_next kS_X12_next kN_X12 kC_X12_next kD_X12_next rfl (Nat.le_of_ble_eq_true rfl) dX12_one_10 (q := 13) rfl ?_
    show g_G 2 X Y 13 [(0, g_r Y 59)] [] p20
    refine g_aload_n C 0 dX12_one_13 (q := 14) rfl rfl rfl ?_
    refine g_bipush C (v := 99) dX12_one_14 (q := 16) rfl (by decide) ?_
    obtain ⟨p21, hp21, h⟩ := g_bind h
    refine g_callV C (k := 59) (as := [.int 99]) (st := []) (m_X12_number hp21) (g_hR (by omega)) (by decide) (by decide) (gc_59 Y _ _) rfl kM_X12_131 kI_X12_number kS_X12_number kN_X12 kC_X12_number kD_X12_number rfl (Nat.le_of_ble_eq_true rfl) dX12_one_16 (q := 19) rfl ?_
    show g_G 2 X Y 19 [(0, g_r Y 59)] [.int p21.1] p21.2
    refine g_istore_n C dX12_one_19 (q := 20) rfl rfl (by decide) (lv' := [(1, .int p21.1), (0, g_r Y 59)]) rfl ?_
    refine g_aload_n C 1 dX12_one_20 (q := 21) rfl rfl rfl ?_
    refine g_aload_n C 1 dX12_one_21 (q := 22) rfl rfl rfl ?_
    refine g_ldcS C (tx := "of") (j := 6) (by decide +kernel) dX12_one_22 (q := 24) rfl ?_
    obtain ⟨p22, hp22, h⟩ := g_bind h
    refine g_callV C (k := 59) (as := [.ref (Y.2.2.2.1 6)]) (st := [g_r Y 59]) (m_X12_isWord_59 6 (by decide) hp22) (g_hR (by omega)) (by decide) (by decide) (gc_59 Y _ _) rfl kM_X12_121 kI_X12_isWord kS_X12_isWord kN_X12 kC_X12_isWord kD_X12_isWord rfl (Nat.le_of_ble_eq_true rfl) dX12_one_24 (q := 27) rfl ?_
    show g_G 2 X Y 27 [(1, .int p21.1), (0, g_r Y 59)] [.int p22, g_r Y 59] p21.2
    obtain ⟨p23, hp23, h⟩ := g_bind h
    refine g_callV C (k := 59) (as := [.int p22]) (st := []) (m_X12_need hp23) (g_hR (by omega)) (by decide) (by decide) (gc_59 Y _ _) rfl kM_X12_115 kI_X12_need kS_X12_need kN_X12 kC_X12_need kD_X12_need rfl (Nat.le_of_ble_eq_true rfl) dX12_one_27 (q := 30) rfl ?_
    show g_G 2 X Y 30 [(1, .int p21.1), (0, g_r Y 59)] [.int p23.1] p23.2
    refine g_pop C dX12_one_30 (q := 31) rfl rfl ?_
    refine g_aload_n C 1 dX12_one_31 (q := 32) rfl rfl rfl ?_
    refine g_get C (k := 59) (i := 8) (by decide) (gc_59 Y _ _) rfl kU_X12 (by decide) kF_X12_141 rfl dX12_one_32 (q := 35) rfl ?_
    refine g_aload_n C 1 dX12_one_35 (q := 36) rfl rfl rfl ?_
    obtain ⟨p24, hp24, h⟩ := g_bind h
    refine g_callV C (k := 59) (as := []) (st := [.int (p23.2.1 59 8)]) (m_X12_part hp24) (g_hR (by omega)) (by decide) (by decide) (gc_59 Y _ _) rfl kM_X12_144 kI_X12_part kS_X12_part kN_X12 kC_X12_part kD_X12_part rfl (Nat.le_of_ble_eq_true rfl) dX12_one_36 (q := 39) rfl ?_
    show g_G 2 X Y 39 [(1, .int p21.1), (0, g_r Y 59)] [.int p24.1, .int (p23.2.1 59 8)] p24.2
    refine g_iand C dX12_one_39 (q := 40) rfl ?_
    obtain ⟨p25, hp25, h⟩ := g_bind h
    refine g_callS C (as := [.int ((p23.2.1 59 8) &&& p24.1)]) (st := []) (m_X12_many hp25) (g_hR (by omega)) (by decide) kM_X12_147 kT_X12_many kN_X12 kC_X12_many kD_X12_many rfl (Nat.le_of_ble_eq_true rfl) dX12_one_40 (q := 43) rfl ?_
    show g_G 2 X Y 43 [(1, .int p21.1), (0, g_r Y 59)] [.int p25] p24.2
    refine g_iload_n C 0 dX12_one_43 (q := 44) rfl rfl rfl ?_
    have hif := g_if h
    clear h
    refine g_icmp_lt C dX12_one_44 (q := 47) (tgt := 51) rfl (by decide) (fun c => ?_) (fun c => ?_)
    · have h := hif.1 c
      clear hif
      refine g_iconst C (v := 0) dX12_one_51 (q := 52) rfl (by decide) ?_
      obtain rfl := Option.some.inj h
      exact g_zret C (g_bz_lit (by decide)) E dX12_one_52
    · have h := hif.2 c
      clear hif
      refine g_iconst C (v := 1) dX12_one_47 (q := 48) rfl (by decide) ?_
      refine g_goto C dX12_one_48 (tgt := 52) (by decide) ?_
      obtain rfl := Option.some.inj h
      exact g_zret C (g_bz_lit (by decide)) E dX12_one_52
theorem r_X12_one {kE : g_M → Option (Int32 × g_M)} (hE : ∀ (M : g_M) (p : Int32 × g_M), kE M = some p → g_fr [] [(59, 11), (59, 12), (59, 13), (59, 14), (59, 15), (59, 16)] M p.2) {M : g_M} {p : Int32 × g_M} (h : f_X12_one kE M = some p) : g_fr [] [(59, 11), (59, 12), (59, 13), (59, 14), (59, 15), (59, 16)] M p.2 := by
  unfold f_X12_one at h
  have hf := g_fr.rfl (S := []) (T := [(59, 11), (59, 12), (59, 13), (59, 14), (59, 15), (59, 16)]) (M := M)
  obtain ⟨p1, -, h⟩ := g_bind h
  rcases g_ifs h with h | h
  · obtain ⟨p2, -, h⟩ := g_bind h
    rcases g_ifs h with h | h
    · obtain ⟨p3, -, h⟩ := g_bind h
      rcases g_ifs h with h | h
      · obtain ⟨p4, -, h⟩ := g_bind h
        rcases g_ifs h with h | h
        · obtain ⟨p5, -, h⟩ := g_bind h
          rcases g_ifs h with h | h
          · obtain ⟨M6, hM6, h⟩ := g_bind h
            have hf := hf.pu hM6 (by decide)
            obtain rfl := Option.some.inj h
            exact hf
          · obtain ⟨p7, hp7, h⟩ := g_bind h
            have hf := hf.trans ((r_X12_opens hp7).mono (by decide) (by decide))
            rcases g_ifs h with h | h
            · obtain ⟨M13, hM13, h⟩ := g_bind h
              have hf := hf.pu hM13 (by decide)
              obtain rfl := Option.some.inj h
              exact hf
            · obtain ⟨p8, hp8, h⟩ := g_bind h
              have hf := hf.trans ((hE _ _ hp8).mono (by decide) (by decide))
              obtain ⟨p9, -, h⟩ := g_bind h
              obtain ⟨p10, hp10, h⟩ := g_bind h
              have hf := hf.trans ((r_X12_need hp10).mono (by decide) (by decide))
              obtain ⟨M11, hM11, h⟩ := g_bind h
              have hf := hf.pu hM11 (by decide)
              obtain ⟨z12, -, h⟩ := g_bind h
              obtain rfl := Option.some.inj h
              exact hf
        · obtain ⟨p14, hp14, h⟩ := g_bind h
          have hf := hf.trans ((r_X12_next hp14).mono (by decide) (by decide))
          obtain ⟨p15, hp15, h⟩ := g_bind h
          have hf := hf.trans ((r_X12_number hp15).mono (by decide) (by decide))
          rcases g_ifs h with h | h
          · obtain rfl := Option.some.inj h
            exact hf
          · obtain rfl := Option.some.inj h
            exact hf
      · obtain ⟨p16, hp16, h⟩ := g_bind h
        have hf := hf.trans ((r_X12_next hp16).mono (by decide) (by decide))
        obtain ⟨p17, hp17, h⟩ := g_bind h
        have hf := hf.trans ((r_X12_part hp17).mono (by decide) (by decide))
        rcases g_ifs h with h | h
        · obtain rfl := Option.some.inj h
          exact hf
        · obtain rfl := Option.some.inj h
          exact hf
    · obtain ⟨p18, hp18, h⟩ := g_bind h
      have hf := hf.trans ((r_X12_next hp18).mono (by decide) (by decide))
      obtain ⟨p19, hp19, h⟩ := g_bind h
      have hf := hf.trans ((r_X12_part hp19).mono (by decide) (by decide))
      rcases g_ifs h with h | h
      · obtain rfl := Option.some.inj h
        exact hf
      · obtain rfl := Option.some.inj h
        exact hf
  · obtain ⟨p20, hp20, h⟩ := g_bind h
    have hf := hf.trans ((r_X12_next hp20).mono (by decide) (by decide))
    obtain ⟨p21, hp21, h⟩ := g_bind h
    have hf := hf.trans ((r_X12_number hp21).mono (by decide) (by decide))
    obtain ⟨p22, -, h⟩ := g_bind h
    obtain ⟨p23, hp23, h⟩ := g_bind h
    have hf := hf.trans ((r_X12_need hp23).mono (by decide) (by decide))
    obtain ⟨p24, hp24, h⟩ := g_bind h
    have hf := hf.trans ((r_X12_part hp24).mono (by decide) (by decide))
    obtain ⟨p25, -, h⟩ := g_bind h
    rcases g_ifs h with h | h
    · obtain rfl := Option.some.inj h
      exact hf
    · obtain rfl := Option.some.inj h
      exact hf
def F_X12_turned (kE : g_M → Option (Int32 × g_M)) (kN : g_M → Option (Int32 × g_M)) (M : g_M) : Option (Int32 × g_M) :=
  (f_X12_isWord_59 4 M).bind fun p1 => (if p1 = 0 then ((f_X12_one kE M).bind fun p5 => (g_bz p5.1).bind fun z6 => some (z6, p5.2)) else ((f_X12_opens M).bind fun p2 => (if p2.1 = 0 then (some (0, p2.2)) else ((kN p2.2).bind fun p3 => (some (g_u p3.2 59 15 ((p3.2.1 59 15) - 1))).bind fun M4 => (if p3.1 = 0 then (some (1, M4)) else (some (0, M4)))))))
def f_X12_turned (kE : g_M → Option (Int32 × g_M)) (d : Nat) (M : g_M) : Option (Int32 × g_M) := g_lp0 (F_X12_turned kE) d M
set_option maxRecDepth 100000 in
theorem m_X12_turned {l : Launch} {Y : g_Y} (kE : g_M → Option (Int32 × g_M)) (hh : Nat) (hE : ∀ (M : g_M) (p : Int32 × g_M), kE M = some p → g_R l Y (hh) yX12_either cX12_either 3 (some .boolean) [g_r Y 59] M (some (.int p.1)) p.2) (d : Nat) : ∀ (M : g_M) (p : Int32 × g_M), f_X12_turned kE d M = some p → g_R l Y (hh + 13 + d) yX12_turned cX12_turned 2 (some .boolean) [g_r Y 59] M (some (.int p.1)) p.2 := by
  induction d with
  | zero => intro M p h; exact (g_nn h).elim
  | succ d hN =>
    intro M p h
    have h : F_X12_turned kE (g_lp0 (F_X12_turned kE) d) M = some p := h
    have hN : ∀ (M : g_M) (p : Int32 × g_M), g_lp0 (F_X12_turned kE) d M = some p → g_R l Y (hh + 13 + d) yX12_turned cX12_turned 2 (some .boolean) [g_r Y 59] M (some (.int p.1)) p.2 := hN
    generalize g_lp0 (F_X12_turned kE) d = kN at h hN
    unfold F_X12_turned at h
    refine g_R_of kP_X12 rfl (Nat.le_of_ble_eq_true rfl) (fun X C E => ?_)
    show g_G 2 X Y 0 [(0, g_r Y 59)] [] M
    refine g_aload_n C 0 dX12_turned_0 (q := 1) rfl rfl rfl ?_
    refine g_ldcS C (tx := "not") (j := 4) (by decide +kernel) dX12_turned_1 (q := 3) rfl ?_
    obtain ⟨p1, hp1, h⟩ := g_bind h
    refine g_callV C (k := 59) (as := [.ref (Y.2.2.2.1 4)]) (st := []) (m_X12_isWord_59 4 (by decide) hp1) (g_hR (by omega)) (by decide) (by decide) (gc_59 Y _ _) rfl kM_X12_121 kI_X12_isWord kS_X12_isWord kN_X12 kC_X12_isWord kD_X12_isWord rfl (Nat.le_of_ble_eq_true rfl) dX12_turned_3 (q := 6) rfl ?_
    show g_G 2 X Y 6 [(0, g_r Y 59)] [.int p1] M
    have hif := g_if h
    clear h
    refine g_if_ne C dX12_turned_6 (q := 9) (tgt := 14) rfl (by decide) (fun c => ?_) (fun c => ?_)
    · have h := hif.2 c
      clear hif
      refine g_aload_n C 0 dX12_turned_14 (q := 15) rfl rfl rfl ?_
      obtain ⟨p2, hp2, h⟩ := g_bind h
      refine g_callV C (k := 59) (as := []) (st := []) (m_X12_opens hp2) (g_hR (by omega)) (by decide) (by decide) (gc_59 Y _ _) rfl kM_X12_159 kI_X12_opens kS_X12_opens kN_X12 kC_X12_opens kD_X12_opens rfl (Nat.le_of_ble_eq_true rfl) dX12_turned_15 (q := 18) rfl ?_
      show g_G 2 X Y 18 [(0, g_r Y 59)] [.int p2.1] p2.2
      have hif := g_if h
      clear h
      refine g_if_ne C dX12_turned_18 (q := 21) (tgt := 23) rfl (by decide) (fun c => ?_) (fun c => ?_)
      · have h := hif.2 c
        clear hif
        refine g_aload_n C 0 dX12_turned_23 (q := 24) rfl rfl rfl ?_
        obtain ⟨p3, hp3, h⟩ := g_bind h
        refine g_callV C (k := 59) (as := []) (st := []) (hN _ _ hp3) (g_hR (by omega)) (by decide) (by decide) (gc_59 Y _ _) rfl kM_X12_171 kI_X12_turned kS_X12_turned kN_X12 kC_X12_turned kD_X12_turned rfl (Nat.le_of_ble_eq_true rfl) dX12_turned_24 (q := 27) rfl ?_
        show g_G 2 X Y 27 [(0, g_r Y 59)] [.int p3.1] p3.2
        refine g_istore_n C dX12_turned_27 (q := 28) rfl rfl (by decide) (lv' := [(1, .int p3.1), (0, g_r Y 59)]) rfl ?_
        refine g_aload_n C 1 dX12_turned_28 (q := 29) rfl rfl rfl ?_
        refine g_dup C dX12_turned_29 (q := 30) rfl rfl ?_
        refine g_get C (k := 59) (i := 15) (by decide) (gc_59 Y _ _) rfl kU_X12 (by decide) kF_X12_134 rfl dX12_turned_30 (q := 33) rfl ?_
        refine g_iconst C (v := 1) dX12_turned_33 (q := 34) rfl (by decide) ?_
        refine g_isub C dX12_turned_34 (q := 35) rfl ?_
        obtain ⟨M4, hM4, h⟩ := g_bind h
        refine g_put C (k := 59) (i := 15) (ty := .int) (by decide) (gc_59 Y _ _) (gp_59_15 Y _ _ _) rfl kU_X12 tyX12_ok nmX12 (by decide) kF_X12_134 rfl rfl rfl rfl (Nat.le_of_ble_eq_true rfl) dX12_turned_35 (q := 38) rfl ?_
        refine g_mem hM4 ?_
        refine g_iload_n C 0 dX12_turned_38 (q := 39) rfl rfl rfl ?_
        have hif := g_if h
        clear h
        refine g_if_ne C dX12_turned_39 (q := 42) (tgt := 46) rfl (by decide) (fun c => ?_) (fun c => ?_)
        · have h := hif.2 c
          clear hif
          refine g_iconst C (v := 0) dX12_turned_46 (q := 47) rfl (by decide) ?_
          obtain rfl := Option.some.inj h
          exact g_zret C (g_bz_lit (by decide)) E dX12_turned_47
        · have h := hif.1 c
          clear hif
          refine g_iconst C (v := 1) dX12_turned_42 (q := 43) rfl (by decide) ?_
          refine g_goto C dX12_turned_43 (tgt := 47) (by decide) ?_
          obtain rfl := Option.some.inj h
          exact g_zret C (g_bz_lit (by decide)) E dX12_turned_47
      · have h := hif.1 c
        clear hif
        refine g_iconst C (v := 0) dX12_turned_21 (q := 22) rfl (by decide) ?_
        obtain rfl := Option.some.inj h
        exact g_zret C (g_bz_lit (by decide)) E dX12_turned_22
    · have h := hif.1 c
      clear hif
      refine g_aload_n C 0 dX12_turned_9 (q := 10) rfl rfl rfl ?_
      obtain ⟨p5, hp5, h⟩ := g_bind h
      refine g_callV C (k := 59) (as := []) (st := []) (m_X12_one kE hh hE hp5) (g_hR (by omega)) (by decide) (by decide) (gc_59 Y _ _) rfl kM_X12_168 kI_X12_one kS_X12_one kN_X12 kC_X12_one kD_X12_one rfl (Nat.le_of_ble_eq_true rfl) dX12_turned_10 (q := 13) rfl ?_
      show g_G 2 X Y 13 [(0, g_r Y 59)] [.int p5.1] p5.2
      obtain ⟨z6, hz6, h⟩ := g_bind h
      obtain rfl := Option.some.inj h
      exact g_zret C hz6 E dX12_turned_13
theorem r_X12_turned {kE : g_M → Option (Int32 × g_M)} (hE : ∀ (M : g_M) (p : Int32 × g_M), kE M = some p → g_fr [] [(59, 11), (59, 12), (59, 13), (59, 14), (59, 15), (59, 16)] M p.2) (d : Nat) : ∀ (M : g_M) (p : Int32 × g_M), f_X12_turned kE d M = some p → g_fr [] [(59, 11), (59, 12), (59, 13), (59, 14), (59, 15), (59, 16)] M p.2 := by
  induction d with
  | zero => intro M p h; exact (g_nn h).elim
  | succ d hN =>
    intro M p h
    have h : F_X12_turned kE (g_lp0 (F_X12_turned kE) d) M = some p := h
    have hN : ∀ (M : g_M) (p : Int32 × g_M), g_lp0 (F_X12_turned kE) d M = some p → g_fr [] [(59, 11), (59, 12), (59, 13), (59, 14), (59, 15), (59, 16)] M p.2 := hN
    generalize g_lp0 (F_X12_turned kE) d = kN at h hN
    unfold F_X12_turned at h
    have hf := g_fr.rfl (S := []) (T := [(59, 11), (59, 12), (59, 13), (59, 14), (59, 15), (59, 16)]) (M := M)
    obtain ⟨p1, -, h⟩ := g_bind h
    rcases g_ifs h with h | h
    · obtain ⟨p5, hp5, h⟩ := g_bind h
      have hf := hf.trans ((r_X12_one hE hp5).mono (by decide) (by decide))
      obtain ⟨z6, -, h⟩ := g_bind h
      obtain rfl := Option.some.inj h
      exact hf
    · obtain ⟨p2, hp2, h⟩ := g_bind h
      have hf := hf.trans ((r_X12_opens hp2).mono (by decide) (by decide))
      rcases g_ifs h with h | h
      · obtain rfl := Option.some.inj h
        exact hf
      · obtain ⟨p3, hp3, h⟩ := g_bind h
        have hf := hf.trans ((hN _ _ hp3).mono (by decide) (by decide))
        obtain ⟨M4, hM4, h⟩ := g_bind h
        have hf := hf.pu hM4 (by decide)
        rcases g_ifs h with h | h
        · obtain rfl := Option.some.inj h
          exact hf
        · obtain rfl := Option.some.inj h
          exact hf
def F_X12_both_5 (kE : g_M → Option (Int32 × g_M)) (k40 : Int32 → g_M → Option (Int32 × g_M)) (k : Int32 → g_M → Option (Int32 × g_M)) (x1 : Int32) (M : g_M) : Option (Int32 × g_M) :=
  (f_X12_isWord_59 3 M).bind fun p2 => (if p2 = 0 then (k40 x1 M) else ((f_X12_next M).bind fun p3 => (f_X12_turned kE 8 p3).bind fun p4 => (if x1 = 0 then (k 0 p4.2) else ((if p4.1 = 0 then (k 0 p4.2) else (k 1 p4.2))))))
set_option maxRecDepth 100000 in
theorem t_X12_both_5 {l : Launch} {X : g_X} {Y : g_Y} {p : Int32 × g_M} {kE : g_M → Option (Int32 × g_M)} {k40 : Int32 → g_M → Option (Int32 × g_M)} (hh : Nat) (hE : ∀ (M : g_M) (p : Int32 × g_M), kE M = some p → g_R l Y (hh) yX12_either cX12_either 3 (some .boolean) [g_r Y 59] M (some (.int p.1)) p.2) (C : g_C l (g_rm (hh + 22)) RX12 cX12_both 3 X Y) (E : g_E (some .boolean) X Y (some (.int p.1)) p.2) (hk40 : ∀ (x1 : Int32) (M : g_M), k40 x1 M = some p → g_G 3 X Y 40 [(1, .int x1)] [] M) (n : Nat) : ∀ (x1 : Int32) (M : g_M), g_lp1 (F_X12_both_5 kE k40) n x1 M = some p → g_G 3 X Y 5 [(0, g_r Y 59), (1, .int x1)] [] M := by
  induction n with
  | zero => intro x1 M h; exact (g_nn h).elim
  | succ n ih =>
    intro x1 M h
    have h : F_X12_both_5 kE k40 (g_lp1 (F_X12_both_5 kE k40) n) x1 M = some p := h
    generalize g_lp1 (F_X12_both_5 kE k40) n = k at h ih
    unfold F_X12_both_5 at h
    refine g_aload_n C 0 dX12_both_5 (q := 6) rfl rfl rfl ?_
    refine g_ldcS C (tx := "and") (j := 3) (by decide +kernel) dX12_both_6 (q := 8) rfl ?_
    obtain ⟨p2, hp2, h⟩ := g_bind h
    refine g_callV C (k := 59) (as := [.ref (Y.2.2.2.1 3)]) (st := []) (m_X12_isWord_59 3 (by decide) hp2) (g_hR (by omega)) (by decide) (by decide) (gc_59 Y _ _) rfl kM_X12_121 kI_X12_isWord kS_X12_isWord kN_X12 kC_X12_isWord kD_X12_isWord rfl (Nat.le_of_ble_eq_true rfl) dX12_both_8 (q := 11) rfl ?_
    show g_G 3 X Y 11 [(0, g_r Y 59), (1, .int x1)] [.int p2] M
    have hif := g_if h
    clear h
    refine g_if_eq C dX12_both_11 (q := 14) (tgt := 40) rfl (by decide) (fun c => ?_) (fun c => ?_)
    · have h := hif.1 c
      clear hif
      refine g_sub [1] (lv' := [(1, .int x1)]) rfl ?_
      exact hk40 x1 M h
    · have h := hif.2 c
      clear hif
      refine g_aload_n C 0 dX12_both_14 (q := 15) rfl rfl rfl ?_
      obtain ⟨p3, hp3, h⟩ := g_bind h
      refine g_callV C (k := 59) (as := []) (st := []) (m_X12_next hp3) (g_hR (by omega)) (by decide) (by decide) (gc_59 Y _ _) rfl kM_X12_112 kI_X12_next kS_X12_next kN_X12 kC_X12_next kD_X12_next rfl (Nat.le_of_ble_eq_true rfl) dX12_both_15 (q := 18) rfl ?_
      show g_G 3 X Y 18 [(0, g_r Y 59), (1, .int x1)] [] p3
      refine g_aload_n C 0 dX12_both_18 (q := 19) rfl rfl rfl ?_
      obtain ⟨p4, hp4, h⟩ := g_bind h
      refine g_callV C (k := 59) (as := []) (st := []) (m_X12_turned kE hh hE 8 _ _ hp4) (g_hR (by omega)) (by decide) (by decide) (gc_59 Y _ _) rfl kM_X12_171 kI_X12_turned kS_X12_turned kN_X12 kC_X12_turned kD_X12_turned rfl (Nat.le_of_ble_eq_true rfl) dX12_both_19 (q := 22) rfl ?_
      show g_G 3 X Y 22 [(0, g_r Y 59), (1, .int x1)] [.int p4.1] p4.2
      refine g_istore_n C dX12_both_22 (q := 23) rfl rfl (by decide) (lv' := [(2, .int p4.1), (0, g_r Y 59), (1, .int x1)]) rfl ?_
      refine g_iload_n C 2 dX12_both_23 (q := 24) rfl rfl rfl ?_
      have hif := g_if h
      clear h
      refine g_if_eq C dX12_both_24 (q := 27) (tgt := 35) rfl (by decide) (fun c => ?_) (fun c => ?_)
      · have h := hif.1 c
        clear hif
        refine g_iconst C (v := 0) dX12_both_35 (q := 36) rfl (by decide) ?_
        refine g_istore_n C dX12_both_36 (q := 37) rfl rfl (by decide) (lv' := [(1, .int 0), (2, .int p4.1), (0, g_r Y 59)]) rfl ?_
        refine g_goto C dX12_both_37 (tgt := 5) (by decide) ?_
        refine g_sub [2, 0] (lv' := [(0, g_r Y 59), (1, .int 0)]) rfl ?_
        exact ih 0 p4.2 h
      · have h := hif.2 c
        clear hif
        refine g_iload_n C 0 dX12_both_27 (q := 28) rfl rfl rfl ?_
        have hif := g_if h
        clear h
        refine g_if_eq C dX12_both_28 (q := 31) (tgt := 35) rfl (by decide) (fun c => ?_) (fun c => ?_)
        · have h := hif.1 c
          clear hif
          refine g_iconst C (v := 0) dX12_both_35 (q := 36) rfl (by decide) ?_
          refine g_istore_n C dX12_both_36 (q := 37) rfl rfl (by decide) (lv' := [(1, .int 0), (2, .int p4.1), (0, g_r Y 59)]) rfl ?_
          refine g_goto C dX12_both_37 (tgt := 5) (by decide) ?_
          refine g_sub [2, 0] (lv' := [(0, g_r Y 59), (1, .int 0)]) rfl ?_
          exact ih 0 p4.2 h
        · have h := hif.2 c
          clear hif
          refine g_iconst C (v := 1) dX12_both_31 (q := 32) rfl (by decide) ?_
          refine g_goto C dX12_both_32 (tgt := 36) (by decide) ?_
          refine g_istore_n C dX12_both_36 (q := 37) rfl rfl (by decide) (lv' := [(1, .int 1), (2, .int p4.1), (0, g_r Y 59)]) rfl ?_
          refine g_goto C dX12_both_37 (tgt := 5) (by decide) ?_
          refine g_sub [2, 0] (lv' := [(0, g_r Y 59), (1, .int 1)]) rfl ?_
          exact ih 1 p4.2 h
theorem r_X12_both_5 {p : Int32 × g_M} {kE : g_M → Option (Int32 × g_M)} {k40 : Int32 → g_M → Option (Int32 × g_M)} (hE : ∀ (M : g_M) (p : Int32 × g_M), kE M = some p → g_fr [] [(59, 11), (59, 12), (59, 13), (59, 14), (59, 15), (59, 16)] M p.2) (hk40 : ∀ (x1 : Int32) (M : g_M), k40 x1 M = some p → g_fr [] [(59, 11), (59, 12), (59, 13), (59, 14), (59, 15), (59, 16)] M p.2) (n : Nat) : ∀ (x1 : Int32) (M : g_M), g_lp1 (F_X12_both_5 kE k40) n x1 M = some p → g_fr [] [(59, 11), (59, 12), (59, 13), (59, 14), (59, 15), (59, 16)] M p.2 := by
  induction n with
  | zero => intro x1 M h; exact (g_nn h).elim
  | succ n ih =>
    intro x1 M h
    have h : F_X12_both_5 kE k40 (g_lp1 (F_X12_both_5 kE k40) n) x1 M = some p := h
    generalize g_lp1 (F_X12_both_5 kE k40) n = k at h ih
    unfold F_X12_both_5 at h
    have hf := g_fr.rfl (S := []) (T := [(59, 11), (59, 12), (59, 13), (59, 14), (59, 15), (59, 16)]) (M := M)
    obtain ⟨p2, -, h⟩ := g_bind h
    rcases g_ifs h with h | h
    · exact hf.trans (hk40 x1 M h)
    · obtain ⟨p3, hp3, h⟩ := g_bind h
      have hf := hf.trans ((r_X12_next hp3).mono (by decide) (by decide))
      obtain ⟨p4, hp4, h⟩ := g_bind h
      have hf := hf.trans ((r_X12_turned hE 8 _ _ hp4).mono (by decide) (by decide))
      rcases g_ifs h with h | h
      · exact hf.trans (ih 0 p4.2 h)
      · rcases g_ifs h with h | h
        · exact hf.trans (ih 0 p4.2 h)
        · exact hf.trans (ih 1 p4.2 h)
def f_X12_both (kE : g_M → Option (Int32 × g_M)) (M : g_M) : Option (Int32 × g_M) :=
  (f_X12_turned kE 8 M).bind fun p1 => g_lp1 (F_X12_both_5 kE (fun (x1 : Int32) (M : g_M) => (g_bz x1).bind fun z5 => some (z5, M))) 20000000 p1.1 p1.2
set_option maxRecDepth 100000 in
theorem m_X12_both {l : Launch} {Y : g_Y} (kE : g_M → Option (Int32 × g_M)) (hh : Nat) (hE : ∀ (M : g_M) (p : Int32 × g_M), kE M = some p → g_R l Y (hh) yX12_either cX12_either 3 (some .boolean) [g_r Y 59] M (some (.int p.1)) p.2) {M : g_M} {p : Int32 × g_M} (h : f_X12_both kE M = some p) : g_R l Y (hh + 22) yX12_both cX12_both 3 (some .boolean) [g_r Y 59] M (some (.int p.1)) p.2 := by
  unfold f_X12_both at h
  refine g_R_of kP_X12 rfl (Nat.le_of_ble_eq_true rfl) (fun X C E => ?_)
  show g_G 3 X Y 0 [(0, g_r Y 59)] [] M
  refine g_aload_n C 0 dX12_both_0 (q := 1) rfl rfl rfl ?_
  obtain ⟨p1, hp1, h⟩ := g_bind h
  refine g_callV C (k := 59) (as := []) (st := []) (m_X12_turned kE hh hE 8 _ _ hp1) (g_hR (by omega)) (by decide) (by decide) (gc_59 Y _ _) rfl kM_X12_171 kI_X12_turned kS_X12_turned kN_X12 kC_X12_turned kD_X12_turned rfl (Nat.le_of_ble_eq_true rfl) dX12_both_1 (q := 4) rfl ?_
  show g_G 3 X Y 4 [(0, g_r Y 59)] [.int p1.1] p1.2
  refine g_istore_n C dX12_both_4 (q := 5) rfl rfl (by decide) (lv' := [(1, .int p1.1), (0, g_r Y 59)]) rfl ?_
  refine g_sub [1, 0] (lv' := [(0, g_r Y 59), (1, .int p1.1)]) rfl ?_
  refine t_X12_both_5 hh hE C E ?_ 20000000 p1.1 p1.2 h
  · intro x1 M h
    try dsimp only at h
    refine g_iload_n C 0 dX12_both_40 (q := 41) rfl rfl rfl ?_
    obtain ⟨z5, hz5, h⟩ := g_bind h
    obtain rfl := Option.some.inj h
    exact g_zret C hz5 E dX12_both_41
theorem r_X12_both {kE : g_M → Option (Int32 × g_M)} (hE : ∀ (M : g_M) (p : Int32 × g_M), kE M = some p → g_fr [] [(59, 11), (59, 12), (59, 13), (59, 14), (59, 15), (59, 16)] M p.2) {M : g_M} {p : Int32 × g_M} (h : f_X12_both kE M = some p) : g_fr [] [(59, 11), (59, 12), (59, 13), (59, 14), (59, 15), (59, 16)] M p.2 := by
  unfold f_X12_both at h
  have hf := g_fr.rfl (S := []) (T := [(59, 11), (59, 12), (59, 13), (59, 14), (59, 15), (59, 16)]) (M := M)
  obtain ⟨p1, hp1, h⟩ := g_bind h
  have hf := hf.trans ((r_X12_turned hE 8 _ _ hp1).mono (by decide) (by decide))
  refine hf.trans (r_X12_both_5 hE ?_ 20000000 p1.1 p1.2 h)
  · intro x1 M h
    try dsimp only at h
    have hf := g_fr.rfl (S := []) (T := [(59, 11), (59, 12), (59, 13), (59, 14), (59, 15), (59, 16)]) (M := M)
    obtain ⟨z5, -, h⟩ := g_bind h
    obtain rfl := Option.some.inj h
    exact hf
def F_X12_either_5 (kE : g_M → Option (Int32 × g_M)) (k40 : Int32 → g_M → Option (Int32 × g_M)) (k : Int32 → g_M → Option (Int32 × g_M)) (x1 : Int32) (M : g_M) : Option (Int32 × g_M) :=
  (f_X12_isWord_59 2 M).bind fun p2 => (if p2 = 0 then (k40 x1 M) else ((f_X12_next M).bind fun p3 => (f_X12_both kE p3).bind fun p4 => (if x1 = 0 then ((if p4.1 = 0 then (k 0 p4.2) else (k 1 p4.2))) else (k 1 p4.2))))
set_option maxRecDepth 100000 in
theorem t_X12_either_5 {l : Launch} {X : g_X} {Y : g_Y} {p : Int32 × g_M} {kE : g_M → Option (Int32 × g_M)} {k40 : Int32 → g_M → Option (Int32 × g_M)} (d : Nat) (hE : ∀ (M : g_M) (p : Int32 × g_M), kE M = some p → g_R l Y (23 * d) yX12_either cX12_either 3 (some .boolean) [g_r Y 59] M (some (.int p.1)) p.2) (C : g_C l (g_rm (23 * (d + 1))) RX12 cX12_either 3 X Y) (E : g_E (some .boolean) X Y (some (.int p.1)) p.2) (hk40 : ∀ (x1 : Int32) (M : g_M), k40 x1 M = some p → g_G 3 X Y 40 [(1, .int x1)] [] M) (n : Nat) : ∀ (x1 : Int32) (M : g_M), g_lp1 (F_X12_either_5 kE k40) n x1 M = some p → g_G 3 X Y 5 [(0, g_r Y 59), (1, .int x1)] [] M := by
  induction n with
  | zero => intro x1 M h; exact (g_nn h).elim
  | succ n ih =>
    intro x1 M h
    have h : F_X12_either_5 kE k40 (g_lp1 (F_X12_either_5 kE k40) n) x1 M = some p := h
    generalize g_lp1 (F_X12_either_5 kE k40) n = k at h ih
    unfold F_X12_either_5 at h
    refine g_aload_n C 0 dX12_either_5 (q := 6) rfl rfl rfl ?_
    refine g_ldcS C (tx := "or") (j := 2) (by decide +kernel) dX12_either_6 (q := 8) rfl ?_
    obtain ⟨p2, hp2, h⟩ := g_bind h
    refine g_callV C (k := 59) (as := [.ref (Y.2.2.2.1 2)]) (st := []) (m_X12_isWord_59 2 (by decide) hp2) (g_hR (by omega)) (by decide) (by decide) (gc_59 Y _ _) rfl kM_X12_121 kI_X12_isWord kS_X12_isWord kN_X12 kC_X12_isWord kD_X12_isWord rfl (Nat.le_of_ble_eq_true rfl) dX12_either_8 (q := 11) rfl ?_
    show g_G 3 X Y 11 [(0, g_r Y 59), (1, .int x1)] [.int p2] M
    have hif := g_if h
    clear h
    refine g_if_eq C dX12_either_11 (q := 14) (tgt := 40) rfl (by decide) (fun c => ?_) (fun c => ?_)
    · have h := hif.1 c
      clear hif
      refine g_sub [1] (lv' := [(1, .int x1)]) rfl ?_
      exact hk40 x1 M h
    · have h := hif.2 c
      clear hif
      refine g_aload_n C 0 dX12_either_14 (q := 15) rfl rfl rfl ?_
      obtain ⟨p3, hp3, h⟩ := g_bind h
      refine g_callV C (k := 59) (as := []) (st := []) (m_X12_next hp3) (g_hR (by omega)) (by decide) (by decide) (gc_59 Y _ _) rfl kM_X12_112 kI_X12_next kS_X12_next kN_X12 kC_X12_next kD_X12_next rfl (Nat.le_of_ble_eq_true rfl) dX12_either_15 (q := 18) rfl ?_
      show g_G 3 X Y 18 [(0, g_r Y 59), (1, .int x1)] [] p3
      refine g_aload_n C 0 dX12_either_18 (q := 19) rfl rfl rfl ?_
      obtain ⟨p4, hp4, h⟩ := g_bind h
      refine g_callV C (k := 59) (as := []) (st := []) (m_X12_both kE (23 * d) hE hp4) (g_hR (by omega)) (by decide) (by decide) (gc_59 Y _ _) rfl kM_X12_176 kI_X12_both kS_X12_both kN_X12 kC_X12_both kD_X12_both rfl (Nat.le_of_ble_eq_true rfl) dX12_either_19 (q := 22) rfl ?_
      show g_G 3 X Y 22 [(0, g_r Y 59), (1, .int x1)] [.int p4.1] p4.2
      refine g_istore_n C dX12_either_22 (q := 23) rfl rfl (by decide) (lv' := [(2, .int p4.1), (0, g_r Y 59), (1, .int x1)]) rfl ?_
      refine g_iload_n C 2 dX12_either_23 (q := 24) rfl rfl rfl ?_
      have hif := g_if h
      clear h
      refine g_if_ne C dX12_either_24 (q := 27) (tgt := 31) rfl (by decide) (fun c => ?_) (fun c => ?_)
      · have h := hif.2 c
        clear hif
        refine g_iconst C (v := 1) dX12_either_31 (q := 32) rfl (by decide) ?_
        refine g_goto C dX12_either_32 (tgt := 36) (by decide) ?_
        refine g_istore_n C dX12_either_36 (q := 37) rfl rfl (by decide) (lv' := [(1, .int 1), (2, .int p4.1), (0, g_r Y 59)]) rfl ?_
        refine g_goto C dX12_either_37 (tgt := 5) (by decide) ?_
        refine g_sub [2, 0] (lv' := [(0, g_r Y 59), (1, .int 1)]) rfl ?_
        exact ih 1 p4.2 h
      · have h := hif.1 c
        clear hif
        refine g_iload_n C 0 dX12_either_27 (q := 28) rfl rfl rfl ?_
        have hif := g_if h
        clear h
        refine g_if_eq C dX12_either_28 (q := 31) (tgt := 35) rfl (by decide) (fun c => ?_) (fun c => ?_)
        · have h := hif.1 c
          clear hif
          refine g_iconst C (v := 0) dX12_either_35 (q := 36) rfl (by decide) ?_
          refine g_istore_n C dX12_either_36 (q := 37) rfl rfl (by decide) (lv' := [(1, .int 0), (2, .int p4.1), (0, g_r Y 59)]) rfl ?_
          refine g_goto C dX12_either_37 (tgt := 5) (by decide) ?_
          refine g_sub [2, 0] (lv' := [(0, g_r Y 59), (1, .int 0)]) rfl ?_
          exact ih 0 p4.2 h
        · have h := hif.2 c
          clear hif
          refine g_iconst C (v := 1) dX12_either_31 (q := 32) rfl (by decide) ?_
          refine g_goto C dX12_either_32 (tgt := 36) (by decide) ?_
          refine g_istore_n C dX12_either_36 (q := 37) rfl rfl (by decide) (lv' := [(1, .int 1), (2, .int p4.1), (0, g_r Y 59)]) rfl ?_
          refine g_goto C dX12_either_37 (tgt := 5) (by decide) ?_
          refine g_sub [2, 0] (lv' := [(0, g_r Y 59), (1, .int 1)]) rfl ?_
          exact ih 1 p4.2 h
theorem r_X12_either_5 {p : Int32 × g_M} {kE : g_M → Option (Int32 × g_M)} {k40 : Int32 → g_M → Option (Int32 × g_M)} (hE : ∀ (M : g_M) (p : Int32 × g_M), kE M = some p → g_fr [] [(59, 11), (59, 12), (59, 13), (59, 14), (59, 15), (59, 16)] M p.2) (hk40 : ∀ (x1 : Int32) (M : g_M), k40 x1 M = some p → g_fr [] [(59, 11), (59, 12), (59, 13), (59, 14), (59, 15), (59, 16)] M p.2) (n : Nat) : ∀ (x1 : Int32) (M : g_M), g_lp1 (F_X12_either_5 kE k40) n x1 M = some p → g_fr [] [(59, 11), (59, 12), (59, 13), (59, 14), (59, 15), (59, 16)] M p.2 := by
  induction n with
  | zero => intro x1 M h; exact (g_nn h).elim
  | succ n ih =>
    intro x1 M h
    have h : F_X12_either_5 kE k40 (g_lp1 (F_X12_either_5 kE k40) n) x1 M = some p := h
    generalize g_lp1 (F_X12_either_5 kE k40) n = k at h ih
    unfold F_X12_either_5 at h
    have hf := g_fr.rfl (S := []) (T := [(59, 11), (59, 12), (59, 13), (59, 14), (59, 15), (59, 16)]) (M := M)
    obtain ⟨p2, -, h⟩ := g_bind h
    rcases g_ifs h with h | h
    · exact hf.trans (hk40 x1 M h)
    · obtain ⟨p3, hp3, h⟩ := g_bind h
      have hf := hf.trans ((r_X12_next hp3).mono (by decide) (by decide))
      obtain ⟨p4, hp4, h⟩ := g_bind h
      have hf := hf.trans ((r_X12_both hE hp4).mono (by decide) (by decide))
      rcases g_ifs h with h | h
      · rcases g_ifs h with h | h
        · exact hf.trans (ih 0 p4.2 h)
        · exact hf.trans (ih 1 p4.2 h)
      · exact hf.trans (ih 1 p4.2 h)
def F_X12_either (kE : g_M → Option (Int32 × g_M)) (M : g_M) : Option (Int32 × g_M) :=
  (f_X12_both kE M).bind fun p1 => g_lp1 (F_X12_either_5 kE (fun (x1 : Int32) (M : g_M) => (g_bz x1).bind fun z5 => some (z5, M))) 20000000 p1.1 p1.2
def f_X12_either (d : Nat) (M : g_M) : Option (Int32 × g_M) := g_lp0 (F_X12_either) d M
set_option maxRecDepth 100000 in
theorem m_X12_either {l : Launch} {Y : g_Y} (d : Nat) : ∀ (M : g_M) (p : Int32 × g_M), f_X12_either d M = some p → g_R l Y (23 * d) yX12_either cX12_either 3 (some .boolean) [g_r Y 59] M (some (.int p.1)) p.2 := by
  induction d with
  | zero => intro M p h; exact (g_nn h).elim
  | succ d hE =>
    intro M p h
    have h : F_X12_either (g_lp0 (F_X12_either) d) M = some p := h
    have hE : ∀ (M : g_M) (p : Int32 × g_M), g_lp0 (F_X12_either) d M = some p → g_R l Y (23 * d) yX12_either cX12_either 3 (some .boolean) [g_r Y 59] M (some (.int p.1)) p.2 := hE
    generalize g_lp0 (F_X12_either) d = kE at h hE
    unfold F_X12_either at h
    refine g_R_of kP_X12 rfl (Nat.le_of_ble_eq_true rfl) (fun X C E => ?_)
    show g_G 3 X Y 0 [(0, g_r Y 59)] [] M
    refine g_aload_n C 0 dX12_either_0 (q := 1) rfl rfl rfl ?_
    obtain ⟨p1, hp1, h⟩ := g_bind h
    refine g_callV C (k := 59) (as := []) (st := []) (m_X12_both kE (23 * d) hE hp1) (g_hR (by omega)) (by decide) (by decide) (gc_59 Y _ _) rfl kM_X12_176 kI_X12_both kS_X12_both kN_X12 kC_X12_both kD_X12_both rfl (Nat.le_of_ble_eq_true rfl) dX12_either_1 (q := 4) rfl ?_
    show g_G 3 X Y 4 [(0, g_r Y 59)] [.int p1.1] p1.2
    refine g_istore_n C dX12_either_4 (q := 5) rfl rfl (by decide) (lv' := [(1, .int p1.1), (0, g_r Y 59)]) rfl ?_
    refine g_sub [1, 0] (lv' := [(0, g_r Y 59), (1, .int p1.1)]) rfl ?_
    refine t_X12_either_5 d hE C E ?_ 20000000 p1.1 p1.2 h
    · intro x1 M h
      try dsimp only at h
      refine g_iload_n C 0 dX12_either_40 (q := 41) rfl rfl rfl ?_
      obtain ⟨z5, hz5, h⟩ := g_bind h
      obtain rfl := Option.some.inj h
      exact g_zret C hz5 E dX12_either_41
theorem r_X12_either (d : Nat) : ∀ (M : g_M) (p : Int32 × g_M), f_X12_either d M = some p → g_fr [] [(59, 11), (59, 12), (59, 13), (59, 14), (59, 15), (59, 16)] M p.2 := by
  induction d with
  | zero => intro M p h; exact (g_nn h).elim
  | succ d hE =>
    intro M p h
    have h : F_X12_either (g_lp0 (F_X12_either) d) M = some p := h
    have hE : ∀ (M : g_M) (p : Int32 × g_M), g_lp0 (F_X12_either) d M = some p → g_fr [] [(59, 11), (59, 12), (59, 13), (59, 14), (59, 15), (59, 16)] M p.2 := hE
    generalize g_lp0 (F_X12_either) d = kE at h hE
    unfold F_X12_either at h
    have hf := g_fr.rfl (S := []) (T := [(59, 11), (59, 12), (59, 13), (59, 14), (59, 15), (59, 16)]) (M := M)
    obtain ⟨p1, hp1, h⟩ := g_bind h
    have hf := hf.trans ((r_X12_both hE hp1).mono (by decide) (by decide))
    refine hf.trans (r_X12_either_5 hE ?_ 20000000 p1.1 p1.2 h)
    · intro x1 M h
      try dsimp only at h
      have hf := g_fr.rfl (S := []) (T := [(59, 11), (59, 12), (59, 13), (59, 14), (59, 15), (59, 16)]) (M := M)
      obtain ⟨z5, -, h⟩ := g_bind h
      obtain rfl := Option.some.inj h
      exact hf
def F_X12_all_4 (M : g_M) (k42 : Int32 → Option (Int32)) (k : Int32 → Int32 → Option (Int32)) (x1 : Int32) (x2 : Int32) : Option (Int32) :=
  (g_ld M 60 1208 0).bind fun v1 => (if v1 ≤ x2 then (k42 x1) else ((g_ld M 60 1208 (20 + x2)).bind fun v2 => (if v2 = 0 then ((some (x1 ||| ((1 : Int32) <<< (x2 &&& 31)))).bind fun y3 => k y3 (x2 + 1)) else (k (x1 ||| 0) (x2 + 1)))))
set_option maxRecDepth 100000 in
theorem t_X12_all_4 {l : Launch} {X : g_X} {Y : g_Y} {p : Int32} {M : g_M} {k42 : Int32 → Option (Int32)} (C : g_C l (g_rm (0)) RX12 cX12_all 3 X Y) (E : g_E (some .int) X Y (some (.int p)) M) (hk42 : ∀ (x1 : Int32), k42 x1 = some p → g_G 3 X Y 42 [(1, .int x1)] [] M) (n : Nat) : ∀ (x1 : Int32) (x2 : Int32), g_lq2 (F_X12_all_4 M k42) n x1 x2 = some p → g_G 3 X Y 4 [(0, g_r Y 59), (1, .int x1), (2, .int x2)] [] M := by
  induction n with
  | zero => intro x1 x2 h; exact (g_nn h).elim
  | succ n ih =>
    intro x1 x2 h
    have h : F_X12_all_4 M k42 (g_lq2 (F_X12_all_4 M k42) n) x1 x2 = some p := h
    generalize g_lq2 (F_X12_all_4 M k42) n = k at h ih
    unfold F_X12_all_4 at h
    refine g_iload_n C 2 dX12_all_4 (q := 5) rfl rfl rfl ?_
    refine g_aload_n C 0 dX12_all_5 (q := 6) rfl rfl rfl ?_
    refine g_get C (k := 59) (i := 0) (by decide) (gc_59 Y _ _) rfl kU_X12 (by decide) kF_X12_7 rfl dX12_all_6 (q := 9) rfl ?_
    refine g_iconst C (v := 0) dX12_all_9 (q := 10) rfl (by decide) ?_
    obtain ⟨v1, hv1, h⟩ := g_bind h
    refine g_iald C (k := 60) (n := 1208) (by decide) (gc_60 Y _ _) hv1 dX12_all_10 (q := 11) rfl ?_
    have hif := g_if h
    clear h
    refine g_icmp_ge C dX12_all_11 (q := 14) (tgt := 42) rfl (by decide) (fun c => ?_) (fun c => ?_)
    · have h := hif.1 c
      clear hif
      refine g_sub [1] (lv' := [(1, .int x1)]) rfl ?_
      exact hk42 x1 h
    · have h := hif.2 c
      clear hif
      refine g_iload_n C 1 dX12_all_14 (q := 15) rfl rfl rfl ?_
      refine g_aload_n C 0 dX12_all_15 (q := 16) rfl rfl rfl ?_
      refine g_get C (k := 59) (i := 0) (by decide) (gc_59 Y _ _) rfl kU_X12 (by decide) kF_X12_7 rfl dX12_all_16 (q := 19) rfl ?_
      refine g_bipush C (v := 20) dX12_all_19 (q := 21) rfl (by decide) ?_
      refine g_iload_n C 2 dX12_all_21 (q := 22) rfl rfl rfl ?_
      refine g_iadd C dX12_all_22 (q := 23) rfl ?_
      obtain ⟨v2, hv2, h⟩ := g_bind h
      refine g_iald C (k := 60) (n := 1208) (by decide) (gc_60 Y _ _) hv2 dX12_all_23 (q := 24) rfl ?_
      have hif := g_if h
      clear h
      refine g_if_ne C dX12_all_24 (q := 27) (tgt := 33) rfl (by decide) (fun c => ?_) (fun c => ?_)
      · have h := hif.2 c
        clear hif
        refine g_iconst C (v := 0) dX12_all_33 (q := 34) rfl (by decide) ?_
        refine g_ior C dX12_all_34 (q := 35) rfl ?_
        refine g_istore_n C dX12_all_35 (q := 36) rfl rfl (by decide) (lv' := [(1, .int (x1 ||| 0)), (0, g_r Y 59), (2, .int x2)]) rfl ?_
        refine g_iinc C (k := 2) (v := x2 + 1) dX12_all_36 (q := 39) rfl rfl rfl (by decide) (lv' := [(2, .int (x2 + 1)), (1, .int (x1 ||| 0)), (0, g_r Y 59)]) rfl ?_
        refine g_goto C dX12_all_39 (tgt := 4) (by decide) ?_
        refine g_sub [2, 1, 0] (lv' := [(0, g_r Y 59), (1, .int (x1 ||| 0)), (2, .int (x2 + 1))]) rfl ?_
        exact ih (x1 ||| 0) (x2 + 1) h
      · have h := hif.1 c
        clear hif
        refine g_iconst C (v := 1) dX12_all_27 (q := 28) rfl (by decide) ?_
        refine g_iload_n C 2 dX12_all_28 (q := 29) rfl rfl rfl ?_
        refine g_ishl C dX12_all_29 (q := 30) rfl ?_
        refine g_goto C dX12_all_30 (tgt := 34) (by decide) ?_
        refine g_ior C dX12_all_34 (q := 35) rfl ?_
        obtain ⟨y3, hy3, h⟩ := g_bind h
        refine g_top hy3 ?_
        refine g_istore_n C dX12_all_35 (q := 36) rfl rfl (by decide) (lv' := [(1, .int y3), (0, g_r Y 59), (2, .int x2)]) rfl ?_
        refine g_iinc C (k := 2) (v := x2 + 1) dX12_all_36 (q := 39) rfl rfl rfl (by decide) (lv' := [(2, .int (x2 + 1)), (1, .int y3), (0, g_r Y 59)]) rfl ?_
        refine g_goto C dX12_all_39 (tgt := 4) (by decide) ?_
        refine g_sub [2, 1, 0] (lv' := [(0, g_r Y 59), (1, .int y3), (2, .int (x2 + 1))]) rfl ?_
        exact ih y3 (x2 + 1) h
def f_X12_all (M : g_M) : Option (Int32) :=
  g_lq2 (F_X12_all_4 M (fun (x1 : Int32) => some x1)) 20000000 0 0
set_option maxRecDepth 100000 in
theorem m_X12_all {l : Launch} {Y : g_Y} {M : g_M} {p : Int32} (h : f_X12_all M = some p) : g_R l Y (0) yX12_all cX12_all 3 (some .int) [g_r Y 59] M (some (.int p)) M := by
  unfold f_X12_all at h
  refine g_R_of kP_X12 rfl (Nat.le_of_ble_eq_true rfl) (fun X C E => ?_)
  show g_G 3 X Y 0 [(0, g_r Y 59)] [] M
  refine g_iconst C (v := 0) dX12_all_0 (q := 1) rfl (by decide) ?_
  refine g_istore_n C dX12_all_1 (q := 2) rfl rfl (by decide) (lv' := [(1, .int 0), (0, g_r Y 59)]) rfl ?_
  refine g_iconst C (v := 0) dX12_all_2 (q := 3) rfl (by decide) ?_
  refine g_istore_n C dX12_all_3 (q := 4) rfl rfl (by decide) (lv' := [(2, .int 0), (1, .int 0), (0, g_r Y 59)]) rfl ?_
  refine g_sub [2, 1, 0] (lv' := [(0, g_r Y 59), (1, .int 0), (2, .int 0)]) rfl ?_
  refine t_X12_all_4 C E ?_ 20000000 0 0 h
  · intro x1 h
    try dsimp only at h
    refine g_iload_n C 0 dX12_all_42 (q := 43) rfl rfl rfl ?_
    obtain rfl := Option.some.inj h
    exact g_iret C E dX12_all_43
def F_X12_reads_36 (k89 : g_M → Option (Int32 × g_M)) (k : Int32 → g_M → Option (Int32 × g_M)) (x4 : Int32) (M : g_M) : Option (Int32 × g_M) :=
  (g_ld M 60 1208 0).bind fun v7 => (if v7 ≤ x4 then (k89 M) else ((if (((M.1 59 8) >>> (x4 &&& 31)) &&& 1) = 1 then ((g_ld M 60 1208 (10 + x4)).bind fun v9 => (some (g_u M 59 9 ((M.1 59 9) + v9))).bind fun M10 => k (x4 + 1) M10) else ((some (g_u M 59 9 ((M.1 59 9) + 0))).bind fun M8 => k (x4 + 1) M8))))
set_option maxRecDepth 100000 in
theorem t_X12_reads_36 {l : Launch} {X : g_X} {Y : g_Y} {p : Int32 × g_M} {k89 : g_M → Option (Int32 × g_M)} (C : g_C l (g_rm (200)) RX12 cX12_reads 6 X Y) (E : g_E (some .boolean) X Y (some (.int p.1)) p.2) (hk89 : ∀ (M : g_M), k89 M = some p → g_G 6 X Y 89 [(0, g_r Y 59)] [] M) (n : Nat) : ∀ (x4 : Int32) (M : g_M), g_lp1 (F_X12_reads_36 k89) n x4 M = some p → g_G 6 X Y 36 [(0, g_r Y 59), (4, .int x4)] [] M := by
  induction n with
  | zero => intro x4 M h; exact (g_nn h).elim
  | succ n ih =>
    intro x4 M h
    have h : F_X12_reads_36 k89 (g_lp1 (F_X12_reads_36 k89) n) x4 M = some p := h
    generalize g_lp1 (F_X12_reads_36 k89) n = k at h ih
    unfold F_X12_reads_36 at h
    refine g_iload C 1 dX12_reads_36 (q := 38) rfl rfl ?_
    refine g_aload_n C 0 dX12_reads_38 (q := 39) rfl rfl rfl ?_
    refine g_get C (k := 59) (i := 0) (by decide) (gc_59 Y _ _) rfl kU_X12 (by decide) kF_X12_7 rfl dX12_reads_39 (q := 42) rfl ?_
    refine g_iconst C (v := 0) dX12_reads_42 (q := 43) rfl (by decide) ?_
    obtain ⟨v7, hv7, h⟩ := g_bind h
    refine g_iald C (k := 60) (n := 1208) (by decide) (gc_60 Y _ _) hv7 dX12_reads_43 (q := 44) rfl ?_
    have hif := g_if h
    clear h
    refine g_icmp_ge C dX12_reads_44 (q := 47) (tgt := 89) rfl (by decide) (fun c => ?_) (fun c => ?_)
    · have h := hif.1 c
      clear hif
      refine g_sub [0] (lv' := [(0, g_r Y 59)]) rfl ?_
      exact hk89 M h
    · have h := hif.2 c
      clear hif
      refine g_aload_n C 0 dX12_reads_47 (q := 48) rfl rfl rfl ?_
      refine g_dup C dX12_reads_48 (q := 49) rfl rfl ?_
      refine g_get C (k := 59) (i := 9) (by decide) (gc_59 Y _ _) rfl kU_X12 (by decide) kF_X12_156 rfl dX12_reads_49 (q := 52) rfl ?_
      refine g_aload_n C 0 dX12_reads_52 (q := 53) rfl rfl rfl ?_
      refine g_get C (k := 59) (i := 8) (by decide) (gc_59 Y _ _) rfl kU_X12 (by decide) kF_X12_141 rfl dX12_reads_53 (q := 56) rfl ?_
      refine g_iload C 1 dX12_reads_56 (q := 58) rfl rfl ?_
      refine g_ishr C dX12_reads_58 (q := 59) rfl ?_
      refine g_iconst C (v := 1) dX12_reads_59 (q := 60) rfl (by decide) ?_
      refine g_iand C dX12_reads_60 (q := 61) rfl ?_
      refine g_iconst C (v := 1) dX12_reads_61 (q := 62) rfl (by decide) ?_
      have hif := g_if h
      clear h
      refine g_icmp_ne C dX12_reads_62 (q := 65) (tgt := 78) rfl (by decide) (fun c => ?_) (fun c => ?_)
      · have h := hif.2 c
        clear hif
        refine g_iconst C (v := 0) dX12_reads_78 (q := 79) rfl (by decide) ?_
        refine g_iadd C dX12_reads_79 (q := 80) rfl ?_
        obtain ⟨M8, hM8, h⟩ := g_bind h
        refine g_put C (k := 59) (i := 9) (ty := .int) (by decide) (gc_59 Y _ _) (gp_59_9 Y _ _ _) rfl kU_X12 tyX12_ok nmX12 (by decide) kF_X12_156 rfl rfl rfl rfl (Nat.le_of_ble_eq_true rfl) dX12_reads_80 (q := 83) rfl ?_
        refine g_mem hM8 ?_
        refine g_iinc C (k := 1) (v := x4 + 1) dX12_reads_83 (q := 86) rfl rfl rfl (by decide) (lv' := [(4, .int (x4 + 1)), (0, g_r Y 59)]) rfl ?_
        refine g_goto C dX12_reads_86 (tgt := 36) (by decide) ?_
        refine g_sub [1, 0] (lv' := [(0, g_r Y 59), (4, .int (x4 + 1))]) rfl ?_
        exact ih (x4 + 1) M8 h
      · have h := hif.1 c
        clear hif
        refine g_aload_n C 0 dX12_reads_65 (q := 66) rfl rfl rfl ?_
        refine g_get C (k := 59) (i := 0) (by decide) (gc_59 Y _ _) rfl kU_X12 (by decide) kF_X12_7 rfl dX12_reads_66 (q := 69) rfl ?_
        refine g_bipush C (v := 10) dX12_reads_69 (q := 71) rfl (by decide) ?_
        refine g_iload C 1 dX12_reads_71 (q := 73) rfl rfl ?_
        refine g_iadd C dX12_reads_73 (q := 74) rfl ?_
        obtain ⟨v9, hv9, h⟩ := g_bind h
        refine g_iald C (k := 60) (n := 1208) (by decide) (gc_60 Y _ _) hv9 dX12_reads_74 (q := 75) rfl ?_
        refine g_goto C dX12_reads_75 (tgt := 79) (by decide) ?_
        refine g_iadd C dX12_reads_79 (q := 80) rfl ?_
        obtain ⟨M10, hM10, h⟩ := g_bind h
        refine g_put C (k := 59) (i := 9) (ty := .int) (by decide) (gc_59 Y _ _) (gp_59_9 Y _ _ _) rfl kU_X12 tyX12_ok nmX12 (by decide) kF_X12_156 rfl rfl rfl rfl (Nat.le_of_ble_eq_true rfl) dX12_reads_80 (q := 83) rfl ?_
        refine g_mem hM10 ?_
        refine g_iinc C (k := 1) (v := x4 + 1) dX12_reads_83 (q := 86) rfl rfl rfl (by decide) (lv' := [(4, .int (x4 + 1)), (0, g_r Y 59)]) rfl ?_
        refine g_goto C dX12_reads_86 (tgt := 36) (by decide) ?_
        refine g_sub [1, 0] (lv' := [(0, g_r Y 59), (4, .int (x4 + 1))]) rfl ?_
        exact ih (x4 + 1) M10 h
theorem r_X12_reads_36 {p : Int32 × g_M} {k89 : g_M → Option (Int32 × g_M)} (hk89 : ∀ (M : g_M), k89 M = some p → g_fr [] [(59, 6), (59, 7), (59, 8), (59, 9), (59, 10), (59, 11), (59, 12), (59, 13), (59, 14), (59, 15), (59, 16)] M p.2) (n : Nat) : ∀ (x4 : Int32) (M : g_M), g_lp1 (F_X12_reads_36 k89) n x4 M = some p → g_fr [] [(59, 6), (59, 7), (59, 8), (59, 9), (59, 10), (59, 11), (59, 12), (59, 13), (59, 14), (59, 15), (59, 16)] M p.2 := by
  induction n with
  | zero => intro x4 M h; exact (g_nn h).elim
  | succ n ih =>
    intro x4 M h
    have h : F_X12_reads_36 k89 (g_lp1 (F_X12_reads_36 k89) n) x4 M = some p := h
    generalize g_lp1 (F_X12_reads_36 k89) n = k at h ih
    unfold F_X12_reads_36 at h
    have hf := g_fr.rfl (S := []) (T := [(59, 6), (59, 7), (59, 8), (59, 9), (59, 10), (59, 11), (59, 12), (59, 13), (59, 14), (59, 15), (59, 16)]) (M := M)
    obtain ⟨v7, -, h⟩ := g_bind h
    rcases g_ifs h with h | h
    · exact hf.trans (hk89 M h)
    · rcases g_ifs h with h | h
      · obtain ⟨v9, -, h⟩ := g_bind h
        obtain ⟨M10, hM10, h⟩ := g_bind h
        have hf := hf.pu hM10 (by decide)
        exact hf.trans (ih (x4 + 1) M10 h)
      · obtain ⟨M8, hM8, h⟩ := g_bind h
        have hf := hf.pu hM8 (by decide)
        exact hf.trans (ih (x4 + 1) M8 h)
def f_X12_reads_176 (x4 : Int32) (M : g_M) : Option (Int32 × g_M) :=
  (if (M.1 59 16) = 0 then ((if (M.1 59 11) = 0 then ((some (g_u M 59 16 0)).bind fun M20 => (g_bz x4).bind fun z21 => some (z21, M20)) else ((some (g_u M 59 16 1)).bind fun M22 => (g_bz x4).bind fun z23 => some (z23, M22)))) else ((some (g_u M 59 16 1)).bind fun M18 => (g_bz x4).bind fun z19 => some (z19, M18)))
set_option maxRecDepth 100000 in
theorem t_X12_reads_176 {l : Launch} {X : g_X} {Y : g_Y} {p : Int32 × g_M} (C : g_C l (g_rm (200)) RX12 cX12_reads 6 X Y) (E : g_E (some .boolean) X Y (some (.int p.1)) p.2) (x4 : Int32) (M : g_M) (h : f_X12_reads_176 x4 M = some p) : g_G 6 X Y 176 [(0, g_r Y 59), (4, .int x4)] [] M := by
  unfold f_X12_reads_176 at h
  refine g_aload_n C 0 dX12_reads_176 (q := 177) rfl rfl rfl ?_
  refine g_aload_n C 0 dX12_reads_177 (q := 178) rfl rfl rfl ?_
  refine g_get C (k := 59) (i := 16) (by decide) (gc_59 Y _ _) rfl kU_X12 (by decide) kF_X12_98 rfl dX12_reads_178 (q := 181) rfl ?_
  have hif := g_if h
  clear h
  refine g_if_ne C dX12_reads_181 (q := 184) (tgt := 191) rfl (by decide) (fun c => ?_) (fun c => ?_)
  · have h := hif.2 c
    clear hif
    refine g_iconst C (v := 1) dX12_reads_191 (q := 192) rfl (by decide) ?_
    refine g_goto C dX12_reads_192 (tgt := 196) (by decide) ?_
    obtain ⟨M18, hM18, h⟩ := g_bind h
    refine g_put C (k := 59) (i := 16) (ty := .boolean) (by decide) (gc_59 Y _ _) (gp_59_16 Y _ _ _) rfl kU_X12 tyX12_ok nmX12 (by decide) kF_X12_98 rfl rfl (g_zn (by decide)).1 (g_zn (by decide)).2.1 (Nat.le_of_ble_eq_true rfl) dX12_reads_196 (q := 199) rfl ?_
    refine g_mem hM18 ?_
    refine g_iload C 1 dX12_reads_199 (q := 201) rfl rfl ?_
    obtain ⟨z19, hz19, h⟩ := g_bind h
    obtain rfl := Option.some.inj h
    exact g_zret C hz19 E dX12_reads_201
  · have h := hif.1 c
    clear hif
    refine g_aload_n C 0 dX12_reads_184 (q := 185) rfl rfl rfl ?_
    refine g_get C (k := 59) (i := 11) (by decide) (gc_59 Y _ _) rfl kU_X12 (by decide) kF_X12_85 rfl dX12_reads_185 (q := 188) rfl ?_
    have hif := g_if h
    clear h
    refine g_if_eq C dX12_reads_188 (q := 191) (tgt := 195) rfl (by decide) (fun c => ?_) (fun c => ?_)
    · have h := hif.1 c
      clear hif
      refine g_iconst C (v := 0) dX12_reads_195 (q := 196) rfl (by decide) ?_
      obtain ⟨M20, hM20, h⟩ := g_bind h
      refine g_put C (k := 59) (i := 16) (ty := .boolean) (by decide) (gc_59 Y _ _) (gp_59_16 Y _ _ _) rfl kU_X12 tyX12_ok nmX12 (by decide) kF_X12_98 rfl rfl (g_zn (by decide)).1 (g_zn (by decide)).2.1 (Nat.le_of_ble_eq_true rfl) dX12_reads_196 (q := 199) rfl ?_
      refine g_mem hM20 ?_
      refine g_iload C 1 dX12_reads_199 (q := 201) rfl rfl ?_
      obtain ⟨z21, hz21, h⟩ := g_bind h
      obtain rfl := Option.some.inj h
      exact g_zret C hz21 E dX12_reads_201
    · have h := hif.2 c
      clear hif
      refine g_iconst C (v := 1) dX12_reads_191 (q := 192) rfl (by decide) ?_
      refine g_goto C dX12_reads_192 (tgt := 196) (by decide) ?_
      obtain ⟨M22, hM22, h⟩ := g_bind h
      refine g_put C (k := 59) (i := 16) (ty := .boolean) (by decide) (gc_59 Y _ _) (gp_59_16 Y _ _ _) rfl kU_X12 tyX12_ok nmX12 (by decide) kF_X12_98 rfl rfl (g_zn (by decide)).1 (g_zn (by decide)).2.1 (Nat.le_of_ble_eq_true rfl) dX12_reads_196 (q := 199) rfl ?_
      refine g_mem hM22 ?_
      refine g_iload C 1 dX12_reads_199 (q := 201) rfl rfl ?_
      obtain ⟨z23, hz23, h⟩ := g_bind h
      obtain rfl := Option.some.inj h
      exact g_zret C hz23 E dX12_reads_201
theorem r_X12_reads_176 {p : Int32 × g_M} (x4 : Int32) (M : g_M) (h : f_X12_reads_176 x4 M = some p) : g_fr [] [(59, 6), (59, 7), (59, 8), (59, 9), (59, 10), (59, 11), (59, 12), (59, 13), (59, 14), (59, 15), (59, 16)] M p.2 := by
  unfold f_X12_reads_176 at h
  have hf := g_fr.rfl (S := []) (T := [(59, 6), (59, 7), (59, 8), (59, 9), (59, 10), (59, 11), (59, 12), (59, 13), (59, 14), (59, 15), (59, 16)]) (M := M)
  rcases g_ifs h with h | h
  · rcases g_ifs h with h | h
    · obtain ⟨M20, hM20, h⟩ := g_bind h
      have hf := hf.pu hM20 (by decide)
      obtain ⟨z21, -, h⟩ := g_bind h
      obtain rfl := Option.some.inj h
      exact hf
    · obtain ⟨M22, hM22, h⟩ := g_bind h
      have hf := hf.pu hM22 (by decide)
      obtain ⟨z23, -, h⟩ := g_bind h
      obtain rfl := Option.some.inj h
      exact hf
  · obtain ⟨M18, hM18, h⟩ := g_bind h
    have hf := hf.pu hM18 (by decide)
    obtain ⟨z19, -, h⟩ := g_bind h
    obtain rfl := Option.some.inj h
    exact hf
def f_X12_reads_174 (s0 : Int32) (M : g_M) : Option (Int32 × g_M) :=
  f_X12_reads_176 s0 M
set_option maxRecDepth 100000 in
theorem t_X12_reads_174 {l : Launch} {X : g_X} {Y : g_Y} {p : Int32 × g_M} (C : g_C l (g_rm (200)) RX12 cX12_reads 6 X Y) (E : g_E (some .boolean) X Y (some (.int p.1)) p.2) (s0 : Int32) (M : g_M) (h : f_X12_reads_174 s0 M = some p) : g_G 6 X Y 174 [(0, g_r Y 59)] [.int s0] M := by
  unfold f_X12_reads_174 at h
  refine g_istore C dX12_reads_174 (q := 176) rfl (by decide) (lv' := [(4, .int s0), (0, g_r Y 59)]) rfl ?_
  refine g_sub [1, 0] (lv' := [(0, g_r Y 59), (4, .int s0)]) rfl ?_
  exact t_X12_reads_176 C E s0 M h
theorem r_X12_reads_174 {p : Int32 × g_M} (s0 : Int32) (M : g_M) (h : f_X12_reads_174 s0 M = some p) : g_fr [] [(59, 6), (59, 7), (59, 8), (59, 9), (59, 10), (59, 11), (59, 12), (59, 13), (59, 14), (59, 15), (59, 16)] M p.2 := by
  unfold f_X12_reads_174 at h
  have hf := g_fr.rfl (S := []) (T := [(59, 6), (59, 7), (59, 8), (59, 9), (59, 10), (59, 11), (59, 12), (59, 13), (59, 14), (59, 15), (59, 16)]) (M := M)
  exact hf.trans (r_X12_reads_176 s0 M h)
def f_X12_reads_173 (M : g_M) : Option (Int32 × g_M) :=
  f_X12_reads_174 0 M
set_option maxRecDepth 100000 in
theorem t_X12_reads_173 {l : Launch} {X : g_X} {Y : g_Y} {p : Int32 × g_M} (C : g_C l (g_rm (200)) RX12 cX12_reads 6 X Y) (E : g_E (some .boolean) X Y (some (.int p.1)) p.2) (M : g_M) (h : f_X12_reads_173 M = some p) : g_G 6 X Y 173 [(0, g_r Y 59)] [] M := by
  unfold f_X12_reads_173 at h
  refine g_iconst C (v := 0) dX12_reads_173 (q := 174) rfl (by decide) ?_
  refine g_sub [0] (lv' := [(0, g_r Y 59)]) rfl ?_
  exact t_X12_reads_174 C E 0 M h
theorem r_X12_reads_173 {p : Int32 × g_M} (M : g_M) (h : f_X12_reads_173 M = some p) : g_fr [] [(59, 6), (59, 7), (59, 8), (59, 9), (59, 10), (59, 11), (59, 12), (59, 13), (59, 14), (59, 15), (59, 16)] M p.2 := by
  unfold f_X12_reads_173 at h
  have hf := g_fr.rfl (S := []) (T := [(59, 6), (59, 7), (59, 8), (59, 9), (59, 10), (59, 11), (59, 12), (59, 13), (59, 14), (59, 15), (59, 16)]) (M := M)
  exact hf.trans (r_X12_reads_174 0 M h)
def f_X12_reads_138 (s0 : Int32) (M : g_M) : Option (Int32 × g_M) :=
  (f_X12_isWord_59 1 M).bind fun p17 => (if p17 = 0 then (f_X12_reads_176 s0 M) else ((f_X12_next M).bind fun p24 => (f_X12_either 8 p24).bind fun p25 => (if s0 = 0 then (f_X12_reads_173 p25.2) else ((if p25.1 = 0 then (f_X12_reads_174 1 p25.2) else (f_X12_reads_173 p25.2))))))
set_option maxRecDepth 100000 in
theorem t_X12_reads_138 {l : Launch} {X : g_X} {Y : g_Y} {p : Int32 × g_M} (C : g_C l (g_rm (200)) RX12 cX12_reads 6 X Y) (E : g_E (some .boolean) X Y (some (.int p.1)) p.2) (s0 : Int32) (M : g_M) (h : f_X12_reads_138 s0 M = some p) : g_G 6 X Y 138 [(0, g_r Y 59)] [.int s0] M := by
  unfold f_X12_reads_138 at h
  refine g_istore C dX12_reads_138 (q := 140) rfl (by decide) (lv' := [(4, .int s0), (0, g_r Y 59)]) rfl ?_
  refine g_aload_n C 1 dX12_reads_140 (q := 141) rfl rfl rfl ?_
  refine g_ldcS C (tx := "never") (j := 1) (by decide +kernel) dX12_reads_141 (q := 143) rfl ?_
  obtain ⟨p17, hp17, h⟩ := g_bind h
  refine g_callV C (k := 59) (as := [.ref (Y.2.2.2.1 1)]) (st := []) (m_X12_isWord_59 1 (by decide) hp17) (g_hR (by omega)) (by decide) (by decide) (gc_59 Y _ _) rfl kM_X12_121 kI_X12_isWord kS_X12_isWord kN_X12 kC_X12_isWord kD_X12_isWord rfl (Nat.le_of_ble_eq_true rfl) dX12_reads_143 (q := 146) rfl ?_
  show g_G 6 X Y 146 [(4, .int s0), (0, g_r Y 59)] [.int p17] M
  have hif := g_if h
  clear h
  refine g_if_eq C dX12_reads_146 (q := 149) (tgt := 176) rfl (by decide) (fun c => ?_) (fun c => ?_)
  · have h := hif.1 c
    clear hif
    refine g_sub [1, 0] (lv' := [(0, g_r Y 59), (4, .int s0)]) rfl ?_
    exact t_X12_reads_176 C E s0 M h
  · have h := hif.2 c
    clear hif
    refine g_aload_n C 1 dX12_reads_149 (q := 150) rfl rfl rfl ?_
    obtain ⟨p24, hp24, h⟩ := g_bind h
    refine g_callV C (k := 59) (as := []) (st := []) (m_X12_next hp24) (g_hR (by omega)) (by decide) (by decide) (gc_59 Y _ _) rfl kM_X12_112 kI_X12_next kS_X12_next kN_X12 kC_X12_next kD_X12_next rfl (Nat.le_of_ble_eq_true rfl) dX12_reads_150 (q := 153) rfl ?_
    show g_G 6 X Y 153 [(4, .int s0), (0, g_r Y 59)] [] p24
    refine g_aload_n C 1 dX12_reads_153 (q := 154) rfl rfl rfl ?_
    obtain ⟨p25, hp25, h⟩ := g_bind h
    refine g_callV C (k := 59) (as := []) (st := []) (m_X12_either 8 _ _ hp25) (g_hR (by omega)) (by decide) (by decide) (gc_59 Y _ _) rfl kM_X12_163 kI_X12_either kS_X12_either kN_X12 kC_X12_either kD_X12_either rfl (Nat.le_of_ble_eq_true rfl) dX12_reads_154 (q := 157) rfl ?_
    show g_G 6 X Y 157 [(4, .int s0), (0, g_r Y 59)] [.int p25.1] p25.2
    refine g_istore C dX12_reads_157 (q := 159) rfl (by decide) (lv' := [(5, .int p25.1), (4, .int s0), (0, g_r Y 59)]) rfl ?_
    refine g_iload C 1 dX12_reads_159 (q := 161) rfl rfl ?_
    have hif := g_if h
    clear h
    refine g_if_eq C dX12_reads_161 (q := 164) (tgt := 173) rfl (by decide) (fun c => ?_) (fun c => ?_)
    · have h := hif.1 c
      clear hif
      refine g_sub [2] (lv' := [(0, g_r Y 59)]) rfl ?_
      exact t_X12_reads_173 C E p25.2 h
    · have h := hif.2 c
      clear hif
      refine g_iload C 0 dX12_reads_164 (q := 166) rfl rfl ?_
      have hif := g_if h
      clear h
      refine g_if_ne C dX12_reads_166 (q := 169) (tgt := 173) rfl (by decide) (fun c => ?_) (fun c => ?_)
      · have h := hif.2 c
        clear hif
        refine g_sub [2] (lv' := [(0, g_r Y 59)]) rfl ?_
        exact t_X12_reads_173 C E p25.2 h
      · have h := hif.1 c
        clear hif
        refine g_iconst C (v := 1) dX12_reads_169 (q := 170) rfl (by decide) ?_
        refine g_goto C dX12_reads_170 (tgt := 174) (by decide) ?_
        refine g_sub [2] (lv' := [(0, g_r Y 59)]) rfl ?_
        exact t_X12_reads_174 C E 1 p25.2 h
theorem r_X12_reads_138 {p : Int32 × g_M} (s0 : Int32) (M : g_M) (h : f_X12_reads_138 s0 M = some p) : g_fr [] [(59, 6), (59, 7), (59, 8), (59, 9), (59, 10), (59, 11), (59, 12), (59, 13), (59, 14), (59, 15), (59, 16)] M p.2 := by
  unfold f_X12_reads_138 at h
  have hf := g_fr.rfl (S := []) (T := [(59, 6), (59, 7), (59, 8), (59, 9), (59, 10), (59, 11), (59, 12), (59, 13), (59, 14), (59, 15), (59, 16)]) (M := M)
  obtain ⟨p17, -, h⟩ := g_bind h
  rcases g_ifs h with h | h
  · exact hf.trans (r_X12_reads_176 s0 M h)
  · obtain ⟨p24, hp24, h⟩ := g_bind h
    have hf := hf.trans ((r_X12_next hp24).mono (by decide) (by decide))
    obtain ⟨p25, hp25, h⟩ := g_bind h
    have hf := hf.trans ((r_X12_either 8 _ _ hp25).mono (by decide) (by decide))
    rcases g_ifs h with h | h
    · exact hf.trans (r_X12_reads_173 p25.2 h)
    · rcases g_ifs h with h | h
      · exact hf.trans (r_X12_reads_174 1 p25.2 h)
      · exact hf.trans (r_X12_reads_173 p25.2 h)
def f_X12_reads_137 (M : g_M) : Option (Int32 × g_M) :=
  f_X12_reads_138 0 M
set_option maxRecDepth 100000 in
theorem t_X12_reads_137 {l : Launch} {X : g_X} {Y : g_Y} {p : Int32 × g_M} (C : g_C l (g_rm (200)) RX12 cX12_reads 6 X Y) (E : g_E (some .boolean) X Y (some (.int p.1)) p.2) (M : g_M) (h : f_X12_reads_137 M = some p) : g_G 6 X Y 137 [(0, g_r Y 59)] [] M := by
  unfold f_X12_reads_137 at h
  refine g_iconst C (v := 0) dX12_reads_137 (q := 138) rfl (by decide) ?_
  refine g_sub [0] (lv' := [(0, g_r Y 59)]) rfl ?_
  exact t_X12_reads_138 C E 0 M h
theorem r_X12_reads_137 {p : Int32 × g_M} (M : g_M) (h : f_X12_reads_137 M = some p) : g_fr [] [(59, 6), (59, 7), (59, 8), (59, 9), (59, 10), (59, 11), (59, 12), (59, 13), (59, 14), (59, 15), (59, 16)] M p.2 := by
  unfold f_X12_reads_137 at h
  have hf := g_fr.rfl (S := []) (T := [(59, 6), (59, 7), (59, 8), (59, 9), (59, 10), (59, 11), (59, 12), (59, 13), (59, 14), (59, 15), (59, 16)]) (M := M)
  exact hf.trans (r_X12_reads_138 0 M h)
def f_X12_reads (x1 : Int32) (x2 : Int32) (x3 : Int32) (M : g_M) : Option (Int32 × g_M) :=
  (some (g_u M 59 6 x1)).bind fun M1 => (some (g_u M1 59 7 x2)).bind fun M2 => (f_X12_all M2).bind fun p3 => (some (g_u M2 59 10 p3)).bind fun M4 => (some (g_u M4 59 8 (x3 &&& (M4.1 59 10)))).bind fun M5 => (some (g_u M5 59 9 0)).bind fun M6 => g_lp1 (F_X12_reads_36 (fun (M : g_M) => (some (g_u M 59 13 0)).bind fun M11 => (some (g_u M11 59 15 0)).bind fun M12 => (some (g_u M12 59 16 0)).bind fun M13 => (f_X12_next M13).bind fun p14 => (f_X12_isWord_59 0 p14).bind fun p15 => (f_X12_need p15 p14).bind fun p16 => (if (p16.2.1 59 16) = 0 then ((f_X12_either 8 p16.2).bind fun p26 => (if p26.1 = 0 then (f_X12_reads_137 p26.2) else (f_X12_reads_138 1 p26.2))) else (f_X12_reads_137 p16.2)))) 20000000 0 M6
set_option maxRecDepth 100000 in
theorem m_X12_reads {l : Launch} {Y : g_Y} {x1 : Int32} {x2 : Int32} {x3 : Int32} {M : g_M} {p : Int32 × g_M} (h : f_X12_reads x1 x2 x3 M = some p) : g_R l Y (200) yX12_reads cX12_reads 6 (some .boolean) [g_r Y 59, .int x1, .int x2, .int x3] M (some (.int p.1)) p.2 := by
  unfold f_X12_reads at h
  refine g_R_of kP_X12 rfl (Nat.le_of_ble_eq_true rfl) (fun X C E => ?_)
  show g_G 6 X Y 0 [(0, g_r Y 59), (1, .int x1), (2, .int x2), (3, .int x3)] [] M
  refine g_aload_n C 0 dX12_reads_0 (q := 1) rfl rfl rfl ?_
  refine g_iload_n C 1 dX12_reads_1 (q := 2) rfl rfl rfl ?_
  obtain ⟨M1, hM1, h⟩ := g_bind h
  refine g_put C (k := 59) (i := 6) (ty := .int) (by decide) (gc_59 Y _ _) (gp_59_6 Y _ _ _) rfl kU_X12 tyX12_ok nmX12 (by decide) kF_X12_72 rfl rfl rfl rfl (Nat.le_of_ble_eq_true rfl) dX12_reads_2 (q := 5) rfl ?_
  refine g_mem hM1 ?_
  refine g_aload_n C 0 dX12_reads_5 (q := 6) rfl rfl rfl ?_
  refine g_iload_n C 2 dX12_reads_6 (q := 7) rfl rfl rfl ?_
  obtain ⟨M2, hM2, h⟩ := g_bind h
  refine g_put C (k := 59) (i := 7) (ty := .int) (by decide) (gc_59 Y _ _) (gp_59_7 Y _ _ _) rfl kU_X12 tyX12_ok nmX12 (by decide) kF_X12_68 rfl rfl rfl rfl (Nat.le_of_ble_eq_true rfl) dX12_reads_7 (q := 10) rfl ?_
  refine g_mem hM2 ?_
  refine g_aload_n C 0 dX12_reads_10 (q := 11) rfl rfl rfl ?_
  refine g_aload_n C 0 dX12_reads_11 (q := 12) rfl rfl rfl ?_
  obtain ⟨p3, hp3, h⟩ := g_bind h
  refine g_callV C (k := 59) (as := []) (st := [g_r Y 59]) (m_X12_all hp3) (g_hR (by omega)) (by decide) (by decide) (gc_59 Y _ _) rfl kM_X12_181 kI_X12_all kS_X12_all kN_X12 kC_X12_all kD_X12_all rfl (Nat.le_of_ble_eq_true rfl) dX12_reads_12 (q := 15) rfl ?_
  show g_G 6 X Y 15 [(0, g_r Y 59), (1, .int x1), (2, .int x2), (3, .int x3)] [.int p3, g_r Y 59] M2
  obtain ⟨M4, hM4, h⟩ := g_bind h
  refine g_put C (k := 59) (i := 10) (ty := .int) (by decide) (gc_59 Y _ _) (gp_59_10 Y _ _ _) rfl kU_X12 tyX12_ok nmX12 (by decide) kF_X12_125 rfl rfl rfl rfl (Nat.le_of_ble_eq_true rfl) dX12_reads_15 (q := 18) rfl ?_
  refine g_mem hM4 ?_
  refine g_aload_n C 0 dX12_reads_18 (q := 19) rfl rfl rfl ?_
  refine g_iload_n C 3 dX12_reads_19 (q := 20) rfl rfl rfl ?_
  refine g_aload_n C 0 dX12_reads_20 (q := 21) rfl rfl rfl ?_
  refine g_get C (k := 59) (i := 10) (by decide) (gc_59 Y _ _) rfl kU_X12 (by decide) kF_X12_125 rfl dX12_reads_21 (q := 24) rfl ?_
  refine g_iand C dX12_reads_24 (q := 25) rfl ?_
  obtain ⟨M5, hM5, h⟩ := g_bind h
  refine g_put C (k := 59) (i := 8) (ty := .int) (by decide) (gc_59 Y _ _) (gp_59_8 Y _ _ _) rfl kU_X12 tyX12_ok nmX12 (by decide) kF_X12_141 rfl rfl rfl rfl (Nat.le_of_ble_eq_true rfl) dX12_reads_25 (q := 28) rfl ?_
  refine g_mem hM5 ?_
  refine g_aload_n C 0 dX12_reads_28 (q := 29) rfl rfl rfl ?_
  refine g_iconst C (v := 0) dX12_reads_29 (q := 30) rfl (by decide) ?_
  obtain ⟨M6, hM6, h⟩ := g_bind h
  refine g_put C (k := 59) (i := 9) (ty := .int) (by decide) (gc_59 Y _ _) (gp_59_9 Y _ _ _) rfl kU_X12 tyX12_ok nmX12 (by decide) kF_X12_156 rfl rfl rfl rfl (Nat.le_of_ble_eq_true rfl) dX12_reads_30 (q := 33) rfl ?_
  refine g_mem hM6 ?_
  refine g_iconst C (v := 0) dX12_reads_33 (q := 34) rfl (by decide) ?_
  refine g_istore C dX12_reads_34 (q := 36) rfl (by decide) (lv' := [(4, .int 0), (0, g_r Y 59), (1, .int x1), (2, .int x2), (3, .int x3)]) rfl ?_
  refine g_sub [1, 0] (lv' := [(0, g_r Y 59), (4, .int 0)]) rfl ?_
  refine t_X12_reads_36 C E ?_ 20000000 0 M6 h
  · intro M h
    try dsimp only at h
    refine g_aload_n C 0 dX12_reads_89 (q := 90) rfl rfl rfl ?_
    refine g_iconst C (v := 0) dX12_reads_90 (q := 91) rfl (by decide) ?_
    obtain ⟨M11, hM11, h⟩ := g_bind h
    refine g_put C (k := 59) (i := 13) (ty := .int) (by decide) (gc_59 Y _ _) (gp_59_13 Y _ _ _) rfl kU_X12 tyX12_ok nmX12 (by decide) kF_X12_75 rfl rfl rfl rfl (Nat.le_of_ble_eq_true rfl) dX12_reads_91 (q := 94) rfl ?_
    refine g_mem hM11 ?_
    refine g_aload_n C 0 dX12_reads_94 (q := 95) rfl rfl rfl ?_
    refine g_iconst C (v := 0) dX12_reads_95 (q := 96) rfl (by decide) ?_
    obtain ⟨M12, hM12, h⟩ := g_bind h
    refine g_put C (k := 59) (i := 15) (ty := .int) (by decide) (gc_59 Y _ _) (gp_59_15 Y _ _ _) rfl kU_X12 tyX12_ok nmX12 (by decide) kF_X12_134 rfl rfl rfl rfl (Nat.le_of_ble_eq_true rfl) dX12_reads_96 (q := 99) rfl ?_
    refine g_mem hM12 ?_
    refine g_aload_n C 0 dX12_reads_99 (q := 100) rfl rfl rfl ?_
    refine g_iconst C (v := 0) dX12_reads_100 (q := 101) rfl (by decide) ?_
    obtain ⟨M13, hM13, h⟩ := g_bind h
    refine g_put C (k := 59) (i := 16) (ty := .boolean) (by decide) (gc_59 Y _ _) (gp_59_16 Y _ _ _) rfl kU_X12 tyX12_ok nmX12 (by decide) kF_X12_98 rfl rfl (g_zn (by decide)).1 (g_zn (by decide)).2.1 (Nat.le_of_ble_eq_true rfl) dX12_reads_101 (q := 104) rfl ?_
    refine g_mem hM13 ?_
    refine g_aload_n C 0 dX12_reads_104 (q := 105) rfl rfl rfl ?_
    obtain ⟨p14, hp14, h⟩ := g_bind h
    refine g_callV C (k := 59) (as := []) (st := []) (m_X12_next hp14) (g_hR (by omega)) (by decide) (by decide) (gc_59 Y _ _) rfl kM_X12_112 kI_X12_next kS_X12_next kN_X12 kC_X12_next kD_X12_next rfl (Nat.le_of_ble_eq_true rfl) dX12_reads_105 (q := 108) rfl ?_
    show g_G 6 X Y 108 [(0, g_r Y 59)] [] p14
    refine g_aload_n C 0 dX12_reads_108 (q := 109) rfl rfl rfl ?_
    refine g_aload_n C 0 dX12_reads_109 (q := 110) rfl rfl rfl ?_
    refine g_ldcS C (tx := "may") (j := 0) (by decide +kernel) dX12_reads_110 (q := 112) rfl ?_
    obtain ⟨p15, hp15, h⟩ := g_bind h
    refine g_callV C (k := 59) (as := [.ref (Y.2.2.2.1 0)]) (st := [g_r Y 59]) (m_X12_isWord_59 0 (by decide) hp15) (g_hR (by omega)) (by decide) (by decide) (gc_59 Y _ _) rfl kM_X12_121 kI_X12_isWord kS_X12_isWord kN_X12 kC_X12_isWord kD_X12_isWord rfl (Nat.le_of_ble_eq_true rfl) dX12_reads_112 (q := 115) rfl ?_
    show g_G 6 X Y 115 [(0, g_r Y 59)] [.int p15, g_r Y 59] p14
    obtain ⟨p16, hp16, h⟩ := g_bind h
    refine g_callV C (k := 59) (as := [.int p15]) (st := []) (m_X12_need hp16) (g_hR (by omega)) (by decide) (by decide) (gc_59 Y _ _) rfl kM_X12_115 kI_X12_need kS_X12_need kN_X12 kC_X12_need kD_X12_need rfl (Nat.le_of_ble_eq_true rfl) dX12_reads_115 (q := 118) rfl ?_
    show g_G 6 X Y 118 [(0, g_r Y 59)] [.int p16.1] p16.2
    refine g_pop C dX12_reads_118 (q := 119) rfl rfl ?_
    refine g_aload_n C 0 dX12_reads_119 (q := 120) rfl rfl rfl ?_
    refine g_get C (k := 59) (i := 16) (by decide) (gc_59 Y _ _) rfl kU_X12 (by decide) kF_X12_98 rfl dX12_reads_120 (q := 123) rfl ?_
    have hif := g_if h
    clear h
    refine g_if_ne C dX12_reads_123 (q := 126) (tgt := 137) rfl (by decide) (fun c => ?_) (fun c => ?_)
    · have h := hif.2 c
      clear hif
      refine g_sub [0] (lv' := [(0, g_r Y 59)]) rfl ?_
      exact t_X12_reads_137 C E p16.2 h
    · have h := hif.1 c
      clear hif
      refine g_aload_n C 0 dX12_reads_126 (q := 127) rfl rfl rfl ?_
      obtain ⟨p26, hp26, h⟩ := g_bind h
      refine g_callV C (k := 59) (as := []) (st := []) (m_X12_either 8 _ _ hp26) (g_hR (by omega)) (by decide) (by decide) (gc_59 Y _ _) rfl kM_X12_163 kI_X12_either kS_X12_either kN_X12 kC_X12_either kD_X12_either rfl (Nat.le_of_ble_eq_true rfl) dX12_reads_127 (q := 130) rfl ?_
      show g_G 6 X Y 130 [(0, g_r Y 59)] [.int p26.1] p26.2
      have hif := g_if h
      clear h
      refine g_if_eq C dX12_reads_130 (q := 133) (tgt := 137) rfl (by decide) (fun c => ?_) (fun c => ?_)
      · have h := hif.1 c
        clear hif
        refine g_sub [0] (lv' := [(0, g_r Y 59)]) rfl ?_
        exact t_X12_reads_137 C E p26.2 h
      · have h := hif.2 c
        clear hif
        refine g_iconst C (v := 1) dX12_reads_133 (q := 134) rfl (by decide) ?_
        refine g_goto C dX12_reads_134 (tgt := 138) (by decide) ?_
        refine g_sub [0] (lv' := [(0, g_r Y 59)]) rfl ?_
        exact t_X12_reads_138 C E 1 p26.2 h
theorem r_X12_reads {x1 : Int32} {x2 : Int32} {x3 : Int32} {M : g_M} {p : Int32 × g_M} (h : f_X12_reads x1 x2 x3 M = some p) : g_fr [] [(59, 6), (59, 7), (59, 8), (59, 9), (59, 10), (59, 11), (59, 12), (59, 13), (59, 14), (59, 15), (59, 16)] M p.2 := by
  unfold f_X12_reads at h
  have hf := g_fr.rfl (S := []) (T := [(59, 6), (59, 7), (59, 8), (59, 9), (59, 10), (59, 11), (59, 12), (59, 13), (59, 14), (59, 15), (59, 16)]) (M := M)
  obtain ⟨M1, hM1, h⟩ := g_bind h
  have hf := hf.pu hM1 (by decide)
  obtain ⟨M2, hM2, h⟩ := g_bind h
  have hf := hf.pu hM2 (by decide)
  obtain ⟨p3, -, h⟩ := g_bind h
  obtain ⟨M4, hM4, h⟩ := g_bind h
  have hf := hf.pu hM4 (by decide)
  obtain ⟨M5, hM5, h⟩ := g_bind h
  have hf := hf.pu hM5 (by decide)
  obtain ⟨M6, hM6, h⟩ := g_bind h
  have hf := hf.pu hM6 (by decide)
  refine hf.trans (r_X12_reads_36 ?_ 20000000 0 M6 h)
  · intro M h
    try dsimp only at h
    have hf := g_fr.rfl (S := []) (T := [(59, 6), (59, 7), (59, 8), (59, 9), (59, 10), (59, 11), (59, 12), (59, 13), (59, 14), (59, 15), (59, 16)]) (M := M)
    obtain ⟨M11, hM11, h⟩ := g_bind h
    have hf := hf.pu hM11 (by decide)
    obtain ⟨M12, hM12, h⟩ := g_bind h
    have hf := hf.pu hM12 (by decide)
    obtain ⟨M13, hM13, h⟩ := g_bind h
    have hf := hf.pu hM13 (by decide)
    obtain ⟨p14, hp14, h⟩ := g_bind h
    have hf := hf.trans ((r_X12_next hp14).mono (by decide) (by decide))
    obtain ⟨p15, -, h⟩ := g_bind h
    obtain ⟨p16, hp16, h⟩ := g_bind h
    have hf := hf.trans ((r_X12_need hp16).mono (by decide) (by decide))
    rcases g_ifs h with h | h
    · obtain ⟨p26, hp26, h⟩ := g_bind h
      have hf := hf.trans ((r_X12_either 8 _ _ hp26).mono (by decide) (by decide))
      rcases g_ifs h with h | h
      · exact hf.trans (r_X12_reads_137 p26.2 h)
      · exact hf.trans (r_X12_reads_138 1 p26.2 h)
    · exact hf.trans (r_X12_reads_137 p16.2 h)
def f_X12_finding (x1 : Int32) (M : g_M) : Option (Int32 × g_M) :=
  (g_ld M 63 7 x1).bind fun v1 => (g_st M 63 7 x1 (v1 + 1)).bind fun M2 => some ((-1000000001) - x1, M2)
set_option maxRecDepth 100000 in
theorem m_X12_finding {l : Launch} {Y : g_Y} {x1 : Int32} {M : g_M} {p : Int32 × g_M} (h : f_X12_finding x1 M = some p) : g_R l Y (0) yX12_finding cX12_finding 2 (some .int) [g_r Y 59, .int x1] M (some (.int p.1)) p.2 := by
  unfold f_X12_finding at h
  refine g_R_of kP_X12 rfl (Nat.le_of_ble_eq_true rfl) (fun X C E => ?_)
  show g_G 2 X Y 0 [(0, g_r Y 59), (1, .int x1)] [] M
  refine g_aload_n C 0 dX12_finding_0 (q := 1) rfl rfl rfl ?_
  refine g_get C (k := 59) (i := 5) (by decide) (gc_59 Y _ _) rfl kU_X12 (by decide) kF_X12_19 rfl dX12_finding_1 (q := 4) rfl ?_
  refine g_iload_n C 1 dX12_finding_4 (q := 5) rfl rfl rfl ?_
  refine g_dup2 C dX12_finding_5 (q := 6) rfl rfl rfl ?_
  obtain ⟨v1, hv1, h⟩ := g_bind h
  refine g_iald C (k := 63) (n := 7) (by decide) (gc_63 Y _ _) hv1 dX12_finding_6 (q := 7) rfl ?_
  refine g_iconst C (v := 1) dX12_finding_7 (q := 8) rfl (by decide) ?_
  refine g_iadd C dX12_finding_8 (q := 9) rfl ?_
  obtain ⟨M2, hM2, h⟩ := g_bind h
  refine g_iast C (k := 63) (n := 7) (by decide) (fun a => gc_63 Y a _) hM2 dX12_finding_9 (q := 10) rfl ?_
  refine g_ldc C (v := (-1000000001)) kK_X12_63 dX12_finding_10 (q := 12) rfl ?_
  refine g_iload_n C 1 dX12_finding_12 (q := 13) rfl rfl rfl ?_
  refine g_isub C dX12_finding_13 (q := 14) rfl ?_
  obtain rfl := Option.some.inj h
  exact g_iret C E dX12_finding_14
theorem r_X12_finding {x1 : Int32} {M : g_M} {p : Int32 × g_M} (h : f_X12_finding x1 M = some p) : g_fr [63] [] M p.2 := by
  unfold f_X12_finding at h
  have hf := g_fr.rfl (S := [63]) (T := []) (M := M)
  obtain ⟨v1, -, h⟩ := g_bind h
  obtain ⟨M2, hM2, h⟩ := g_bind h
  have hf := hf.st hM2 (by decide)
  obtain rfl := Option.some.inj h
  exact hf
def f_X12_isElder (x1 : Int32) (M : g_M) : Option (Int32) :=
  (g_ld M 60 1208 0).bind fun v1 => (f_X12_in x1 0 (v1 - 1) M).bind fun p2 => (g_bz p2).bind fun z3 => some z3
set_option maxRecDepth 100000 in
theorem m_X12_isElder {l : Launch} {Y : g_Y} {x1 : Int32} {M : g_M} {p : Int32} (h : f_X12_isElder x1 M = some p) : g_R l Y (1) yX12_isElder cX12_isElder 2 (some .boolean) [g_r Y 59, .int x1] M (some (.int p)) M := by
  unfold f_X12_isElder at h
  refine g_R_of kP_X12 rfl (Nat.le_of_ble_eq_true rfl) (fun X C E => ?_)
  show g_G 2 X Y 0 [(0, g_r Y 59), (1, .int x1)] [] M
  refine g_iload_n C 1 dX12_isElder_0 (q := 1) rfl rfl rfl ?_
  refine g_iconst C (v := 0) dX12_isElder_1 (q := 2) rfl (by decide) ?_
  refine g_aload_n C 0 dX12_isElder_2 (q := 3) rfl rfl rfl ?_
  refine g_get C (k := 59) (i := 0) (by decide) (gc_59 Y _ _) rfl kU_X12 (by decide) kF_X12_7 rfl dX12_isElder_3 (q := 6) rfl ?_
  refine g_iconst C (v := 0) dX12_isElder_6 (q := 7) rfl (by decide) ?_
  obtain ⟨v1, hv1, h⟩ := g_bind h
  refine g_iald C (k := 60) (n := 1208) (by decide) (gc_60 Y _ _) hv1 dX12_isElder_7 (q := 8) rfl ?_
  refine g_iconst C (v := 1) dX12_isElder_8 (q := 9) rfl (by decide) ?_
  refine g_isub C dX12_isElder_9 (q := 10) rfl ?_
  obtain ⟨p2, hp2, h⟩ := g_bind h
  refine g_callS C (as := [.int x1, .int 0, .int (v1 - 1)]) (st := []) (m_X12_in hp2) (g_hR (by decide)) (by decide) kM_X12_64 kT_X12_in kN_X12 kC_X12_in kD_X12_in rfl (Nat.le_of_ble_eq_true rfl) dX12_isElder_10 (q := 13) rfl ?_
  show g_G 2 X Y 13 [(0, g_r Y 59), (1, .int x1)] [.int p2] M
  obtain ⟨z3, hz3, h⟩ := g_bind h
  obtain rfl := Option.some.inj h
  exact g_zret C hz3 E dX12_isElder_13
def f_X12_isHanging (x1 : Int32) (M : g_M) : Option (Int32) :=
  (g_ld M 60 1208 3).bind fun v1 => (f_X12_in x1 0 (v1 - 1) M).bind fun p2 => (g_bz p2).bind fun z3 => some z3
set_option maxRecDepth 100000 in
theorem m_X12_isHanging {l : Launch} {Y : g_Y} {x1 : Int32} {M : g_M} {p : Int32} (h : f_X12_isHanging x1 M = some p) : g_R l Y (1) yX12_isHanging cX12_isHanging 2 (some .boolean) [g_r Y 59, .int x1] M (some (.int p)) M := by
  unfold f_X12_isHanging at h
  refine g_R_of kP_X12 rfl (Nat.le_of_ble_eq_true rfl) (fun X C E => ?_)
  show g_G 2 X Y 0 [(0, g_r Y 59), (1, .int x1)] [] M
  refine g_iload_n C 1 dX12_isHanging_0 (q := 1) rfl rfl rfl ?_
  refine g_iconst C (v := 0) dX12_isHanging_1 (q := 2) rfl (by decide) ?_
  refine g_aload_n C 0 dX12_isHanging_2 (q := 3) rfl rfl rfl ?_
  refine g_get C (k := 59) (i := 0) (by decide) (gc_59 Y _ _) rfl kU_X12 (by decide) kF_X12_7 rfl dX12_isHanging_3 (q := 6) rfl ?_
  refine g_iconst C (v := 3) dX12_isHanging_6 (q := 7) rfl (by decide) ?_
  obtain ⟨v1, hv1, h⟩ := g_bind h
  refine g_iald C (k := 60) (n := 1208) (by decide) (gc_60 Y _ _) hv1 dX12_isHanging_7 (q := 8) rfl ?_
  refine g_iconst C (v := 1) dX12_isHanging_8 (q := 9) rfl (by decide) ?_
  refine g_isub C dX12_isHanging_9 (q := 10) rfl ?_
  obtain ⟨p2, hp2, h⟩ := g_bind h
  refine g_callS C (as := [.int x1, .int 0, .int (v1 - 1)]) (st := []) (m_X12_in hp2) (g_hR (by decide)) (by decide) kM_X12_64 kT_X12_in kN_X12 kC_X12_in kD_X12_in rfl (Nat.le_of_ble_eq_true rfl) dX12_isHanging_10 (q := 13) rfl ?_
  show g_G 2 X Y 13 [(0, g_r Y 59), (1, .int x1)] [.int p2] M
  obtain ⟨z3, hz3, h⟩ := g_bind h
  obtain rfl := Option.some.inj h
  exact g_zret C hz3 E dX12_isHanging_13
