def f_X11_opens_22 (M : g_M) : Option (Int32 × g_M) :=
  (f_X2_tell (-1000000001) M).bind fun p2 => some (p2.1, p2.2)
set_option maxRecDepth 100000 in
theorem t_X11_opens_22 {l : Launch} {X : g_X} {Y : g_Y} {p : Int32 × g_M} (C : g_C l (g_rm (4)) RX11 cX11_opens 3 X Y) (E : g_E (some .int) X Y (some (.int p.1)) p.2) (M : g_M) (h : f_X11_opens_22 M = some p) : g_G 3 X Y 22 [(0, g_r Y 0)] [] M := by
  unfold f_X11_opens_22 at h
  refine g_aload_n C 0 dX11_opens_22 (q := 23) rfl rfl rfl ?_
  refine g_get C (k := 0) (i := 0) (by decide) (gc_0 Y _ _) rfl kU_X11 (by decide) kF_X11_12 rfl dX11_opens_23 (q := 26) rfl ?_
  refine g_ldc C (v := (-1000000001)) kK_X11_90 dX11_opens_26 (q := 28) rfl ?_
  obtain ⟨p2, hp2, h⟩ := g_bind h
  refine g_callV C (k := 1) (as := [.int (-1000000001)]) (st := []) (m_X2_tell hp2) (g_hR (by decide)) (by decide) (by decide) (gc_1 Y _ _) rfl kM_X11_91 kI_X2_tell kS_X2_tell kN_X2 kC_X2_tell kD_X2_tell rfl (Nat.le_of_ble_eq_true rfl) dX11_opens_28 (q := 31) rfl ?_
  show g_G 3 X Y 31 [(0, g_r Y 0)] [.int p2.1] p2.2
  obtain rfl := Option.some.inj h
  exact g_iret C E dX11_opens_31
theorem r_X11_opens_22 {p : Int32 × g_M} (M : g_M) (h : f_X11_opens_22 M = some p) : g_fr [2] [(1, 1)] M p.2 := by
  unfold f_X11_opens_22 at h
  have hf := g_fr.rfl (S := [2]) (T := [(1, 1)]) (M := M)
  obtain ⟨p2, hp2, h⟩ := g_bind h
  have hf := hf.trans ((r_X2_tell hp2).mono (by decide) (by decide))
  obtain rfl := Option.some.inj h
  exact hf
def f_X11_opens (x1 : Int32) (x2 : Int32) (M : g_M) : Option (Int32 × g_M) :=
  (f_X4_has x1 M).bind fun p1 => (if p1 = 0 then (f_X11_opens_22 M) else ((f_X0_hasSet x2 M).bind fun p3 => (if p3 = 0 then (f_X11_opens_22 M) else ((f_X0_keysOf x2 M).bind fun p4 => (f_X4_isOpenInTheEnd x1 p4 M).bind fun p5 => (if p5 = 0 then (some (0, M)) else (some (1, M)))))))
set_option maxRecDepth 100000 in
theorem m_X11_opens {l : Launch} {Y : g_Y} {x1 : Int32} {x2 : Int32} {M : g_M} {p : Int32 × g_M} (h : f_X11_opens x1 x2 M = some p) : g_R l Y (4) yX11_opens cX11_opens 3 (some .int) [g_r Y 0, .int x1, .int x2] M (some (.int p.1)) p.2 := by
  unfold f_X11_opens at h
  refine g_R_of kP_X11 rfl (Nat.le_of_ble_eq_true rfl) (fun X C E => ?_)
  show g_G 3 X Y 0 [(0, g_r Y 0), (1, .int x1), (2, .int x2)] [] M
  refine g_aload_n C 0 dX11_opens_0 (q := 1) rfl rfl rfl ?_
  refine g_get C (k := 0) (i := 3) (by decide) (gc_0 Y _ _) rfl kU_X11 (by decide) kF_X11_33 rfl dX11_opens_1 (q := 4) rfl ?_
  refine g_iload_n C 1 dX11_opens_4 (q := 5) rfl rfl rfl ?_
  obtain ⟨p1, hp1, h⟩ := g_bind h
  refine g_callV C (k := 24) (as := [.int x1]) (st := []) (m_X4_has hp1) (g_hR (by decide)) (by decide) (by decide) (gc_24 Y _ _) rfl kM_X11_191 kI_X4_has kS_X4_has kN_X4 kC_X4_has kD_X4_has rfl (Nat.le_of_ble_eq_true rfl) dX11_opens_5 (q := 8) rfl ?_
  show g_G 3 X Y 8 [(0, g_r Y 0), (1, .int x1), (2, .int x2)] [.int p1] M
  have hif := g_if h
  clear h
  refine g_if_eq C dX11_opens_8 (q := 11) (tgt := 22) rfl (by decide) (fun c => ?_) (fun c => ?_)
  · have h := hif.1 c
    clear hif
    refine g_sub [0] (lv' := [(0, g_r Y 0)]) rfl ?_
    exact t_X11_opens_22 C E M h
  · have h := hif.2 c
    clear hif
    refine g_aload_n C 0 dX11_opens_11 (q := 12) rfl rfl rfl ?_
    refine g_get C (k := 0) (i := 1) (by decide) (gc_0 Y _ _) rfl kU_X11 (by decide) kF_X11_19 rfl dX11_opens_12 (q := 15) rfl ?_
    refine g_iload_n C 2 dX11_opens_15 (q := 16) rfl rfl rfl ?_
    obtain ⟨p3, hp3, h⟩ := g_bind h
    refine g_callV C (k := 3) (as := [.int x2]) (st := []) (m_X0_hasSet hp3) (g_hR (by decide)) (by decide) (by decide) (gc_3 Y _ _) rfl kM_X11_156 kI_X0_hasSet kS_X0_hasSet kN_X0 kC_X0_hasSet kD_X0_hasSet rfl (Nat.le_of_ble_eq_true rfl) dX11_opens_16 (q := 19) rfl ?_
    show g_G 3 X Y 19 [(0, g_r Y 0), (1, .int x1), (2, .int x2)] [.int p3] M
    have hif := g_if h
    clear h
    refine g_if_ne C dX11_opens_19 (q := 22) (tgt := 32) rfl (by decide) (fun c => ?_) (fun c => ?_)
    · have h := hif.2 c
      clear hif
      refine g_aload_n C 0 dX11_opens_32 (q := 33) rfl rfl rfl ?_
      refine g_get C (k := 0) (i := 3) (by decide) (gc_0 Y _ _) rfl kU_X11 (by decide) kF_X11_33 rfl dX11_opens_33 (q := 36) rfl ?_
      refine g_iload_n C 1 dX11_opens_36 (q := 37) rfl rfl rfl ?_
      refine g_aload_n C 0 dX11_opens_37 (q := 38) rfl rfl rfl ?_
      refine g_get C (k := 0) (i := 1) (by decide) (gc_0 Y _ _) rfl kU_X11 (by decide) kF_X11_19 rfl dX11_opens_38 (q := 41) rfl ?_
      refine g_iload_n C 2 dX11_opens_41 (q := 42) rfl rfl rfl ?_
      obtain ⟨p4, hp4, h⟩ := g_bind h
      refine g_callV C (k := 3) (as := [.int x2]) (st := [.int x1, g_r Y 24]) (m_X0_keysOf hp4) (g_hR (by decide)) (by decide) (by decide) (gc_3 Y _ _) rfl kM_X11_235 kI_X0_keysOf kS_X0_keysOf kN_X0 kC_X0_keysOf kD_X0_keysOf rfl (Nat.le_of_ble_eq_true rfl) dX11_opens_42 (q := 45) rfl ?_
      show g_G 3 X Y 45 [(0, g_r Y 0), (1, .int x1), (2, .int x2)] [.int p4, .int x1, g_r Y 24] M
      obtain ⟨p5, hp5, h⟩ := g_bind h
      refine g_callV C (k := 24) (as := [.int x1, .int p4]) (st := []) (m_X4_isOpenInTheEnd hp5) (g_hR (by decide)) (by decide) (by decide) (gc_24 Y _ _) rfl kM_X11_238 kI_X4_isOpenInTheEnd kS_X4_isOpenInTheEnd kN_X4 kC_X4_isOpenInTheEnd kD_X4_isOpenInTheEnd rfl (Nat.le_of_ble_eq_true rfl) dX11_opens_45 (q := 48) rfl ?_
      show g_G 3 X Y 48 [(0, g_r Y 0), (1, .int x1), (2, .int x2)] [.int p5] M
      have hif := g_if h
      clear h
      refine g_if_eq C dX11_opens_48 (q := 51) (tgt := 55) rfl (by decide) (fun c => ?_) (fun c => ?_)
      · have h := hif.1 c
        clear hif
        refine g_iconst C (v := 0) dX11_opens_55 (q := 56) rfl (by decide) ?_
        obtain rfl := Option.some.inj h
        exact g_iret C E dX11_opens_56
      · have h := hif.2 c
        clear hif
        refine g_iconst C (v := 1) dX11_opens_51 (q := 52) rfl (by decide) ?_
        refine g_goto C dX11_opens_52 (tgt := 56) (by decide) ?_
        obtain rfl := Option.some.inj h
        exact g_iret C E dX11_opens_56
    · have h := hif.1 c
      clear hif
      refine g_sub [0] (lv' := [(0, g_r Y 0)]) rfl ?_
      exact t_X11_opens_22 C E M h
theorem r_X11_opens {x1 : Int32} {x2 : Int32} {M : g_M} {p : Int32 × g_M} (h : f_X11_opens x1 x2 M = some p) : g_fr [2] [(1, 1)] M p.2 := by
  unfold f_X11_opens at h
  have hf := g_fr.rfl (S := [2]) (T := [(1, 1)]) (M := M)
  obtain ⟨p1, -, h⟩ := g_bind h
  rcases g_ifs h with h | h
  · exact hf.trans (r_X11_opens_22 M h)
  · obtain ⟨p3, -, h⟩ := g_bind h
    rcases g_ifs h with h | h
    · exact hf.trans (r_X11_opens_22 M h)
    · obtain ⟨p4, -, h⟩ := g_bind h
      obtain ⟨p5, -, h⟩ := g_bind h
      rcases g_ifs h with h | h
      · obtain rfl := Option.some.inj h
        exact hf
      · obtain rfl := Option.some.inj h
        exact hf
def f_X11_had (x1 : Int32) (M : g_M) : Option (Int32 × g_M) :=
  (f_X0_hasSet x1 M).bind fun p1 => (if p1 = 0 then ((f_X2_tell (-1000000001) M).bind fun p4 => some (p4.1, p4.2)) else ((f_X0_keysOf x1 M).bind fun p2 => (f_X4_keysInTheEnd p2 M).bind fun p3 => some (p3, M)))
set_option maxRecDepth 100000 in
theorem m_X11_had {l : Launch} {Y : g_Y} {x1 : Int32} {M : g_M} {p : Int32 × g_M} (h : f_X11_had x1 M = some p) : g_R l Y (4) yX11_had cX11_had 2 (some .int) [g_r Y 0, .int x1] M (some (.int p.1)) p.2 := by
  unfold f_X11_had at h
  refine g_R_of kP_X11 rfl (Nat.le_of_ble_eq_true rfl) (fun X C E => ?_)
  show g_G 2 X Y 0 [(0, g_r Y 0), (1, .int x1)] [] M
  refine g_aload_n C 0 dX11_had_0 (q := 1) rfl rfl rfl ?_
  refine g_get C (k := 0) (i := 1) (by decide) (gc_0 Y _ _) rfl kU_X11 (by decide) kF_X11_19 rfl dX11_had_1 (q := 4) rfl ?_
  refine g_iload_n C 1 dX11_had_4 (q := 5) rfl rfl rfl ?_
  obtain ⟨p1, hp1, h⟩ := g_bind h
  refine g_callV C (k := 3) (as := [.int x1]) (st := []) (m_X0_hasSet hp1) (g_hR (by decide)) (by decide) (by decide) (gc_3 Y _ _) rfl kM_X11_156 kI_X0_hasSet kS_X0_hasSet kN_X0 kC_X0_hasSet kD_X0_hasSet rfl (Nat.le_of_ble_eq_true rfl) dX11_had_5 (q := 8) rfl ?_
  show g_G 2 X Y 8 [(0, g_r Y 0), (1, .int x1)] [.int p1] M
  have hif := g_if h
  clear h
  refine g_if_ne C dX11_had_8 (q := 11) (tgt := 21) rfl (by decide) (fun c => ?_) (fun c => ?_)
  · have h := hif.2 c
    clear hif
    refine g_aload_n C 0 dX11_had_21 (q := 22) rfl rfl rfl ?_
    refine g_get C (k := 0) (i := 3) (by decide) (gc_0 Y _ _) rfl kU_X11 (by decide) kF_X11_33 rfl dX11_had_22 (q := 25) rfl ?_
    refine g_aload_n C 0 dX11_had_25 (q := 26) rfl rfl rfl ?_
    refine g_get C (k := 0) (i := 1) (by decide) (gc_0 Y _ _) rfl kU_X11 (by decide) kF_X11_19 rfl dX11_had_26 (q := 29) rfl ?_
    refine g_iload_n C 1 dX11_had_29 (q := 30) rfl rfl rfl ?_
    obtain ⟨p2, hp2, h⟩ := g_bind h
    refine g_callV C (k := 3) (as := [.int x1]) (st := [g_r Y 24]) (m_X0_keysOf hp2) (g_hR (by decide)) (by decide) (by decide) (gc_3 Y _ _) rfl kM_X11_235 kI_X0_keysOf kS_X0_keysOf kN_X0 kC_X0_keysOf kD_X0_keysOf rfl (Nat.le_of_ble_eq_true rfl) dX11_had_30 (q := 33) rfl ?_
    show g_G 2 X Y 33 [(0, g_r Y 0), (1, .int x1)] [.int p2, g_r Y 24] M
    obtain ⟨p3, hp3, h⟩ := g_bind h
    refine g_callV C (k := 24) (as := [.int p2]) (st := []) (m_X4_keysInTheEnd hp3) (g_hR (by decide)) (by decide) (by decide) (gc_24 Y _ _) rfl kM_X11_241 kI_X4_keysInTheEnd kS_X4_keysInTheEnd kN_X4 kC_X4_keysInTheEnd kD_X4_keysInTheEnd rfl (Nat.le_of_ble_eq_true rfl) dX11_had_33 (q := 36) rfl ?_
    show g_G 2 X Y 36 [(0, g_r Y 0), (1, .int x1)] [.int p3] M
    obtain rfl := Option.some.inj h
    exact g_iret C E dX11_had_36
  · have h := hif.1 c
    clear hif
    refine g_aload_n C 0 dX11_had_11 (q := 12) rfl rfl rfl ?_
    refine g_get C (k := 0) (i := 0) (by decide) (gc_0 Y _ _) rfl kU_X11 (by decide) kF_X11_12 rfl dX11_had_12 (q := 15) rfl ?_
    refine g_ldc C (v := (-1000000001)) kK_X11_90 dX11_had_15 (q := 17) rfl ?_
    obtain ⟨p4, hp4, h⟩ := g_bind h
    refine g_callV C (k := 1) (as := [.int (-1000000001)]) (st := []) (m_X2_tell hp4) (g_hR (by decide)) (by decide) (by decide) (gc_1 Y _ _) rfl kM_X11_91 kI_X2_tell kS_X2_tell kN_X2 kC_X2_tell kD_X2_tell rfl (Nat.le_of_ble_eq_true rfl) dX11_had_17 (q := 20) rfl ?_
    show g_G 2 X Y 20 [(0, g_r Y 0), (1, .int x1)] [.int p4.1] p4.2
    obtain rfl := Option.some.inj h
    exact g_iret C E dX11_had_20
theorem r_X11_had {x1 : Int32} {M : g_M} {p : Int32 × g_M} (h : f_X11_had x1 M = some p) : g_fr [2] [(1, 1)] M p.2 := by
  unfold f_X11_had at h
  have hf := g_fr.rfl (S := [2]) (T := [(1, 1)]) (M := M)
  obtain ⟨p1, -, h⟩ := g_bind h
  rcases g_ifs h with h | h
  · obtain ⟨p4, hp4, h⟩ := g_bind h
    have hf := hf.trans ((r_X2_tell hp4).mono (by decide) (by decide))
    obtain rfl := Option.some.inj h
    exact hf
  · obtain ⟨p2, -, h⟩ := g_bind h
    obtain ⟨p3, -, h⟩ := g_bind h
    obtain rfl := Option.some.inj h
    exact hf
def f_X11_round_22 (M : g_M) : Option (Int32 × g_M) :=
  (f_X2_tell (-1000000001) M).bind fun p2 => some (p2.1, p2.2)
set_option maxRecDepth 100000 in
theorem t_X11_round_22 {l : Launch} {X : g_X} {Y : g_Y} {p : Int32 × g_M} (C : g_C l (g_rm (3)) RX11 cX11_round 3 X Y) (E : g_E (some .int) X Y (some (.int p.1)) p.2) (M : g_M) (h : f_X11_round_22 M = some p) : g_G 3 X Y 22 [(0, g_r Y 0)] [] M := by
  unfold f_X11_round_22 at h
  refine g_aload_n C 0 dX11_round_22 (q := 23) rfl rfl rfl ?_
  refine g_get C (k := 0) (i := 0) (by decide) (gc_0 Y _ _) rfl kU_X11 (by decide) kF_X11_12 rfl dX11_round_23 (q := 26) rfl ?_
  refine g_ldc C (v := (-1000000001)) kK_X11_90 dX11_round_26 (q := 28) rfl ?_
  obtain ⟨p2, hp2, h⟩ := g_bind h
  refine g_callV C (k := 1) (as := [.int (-1000000001)]) (st := []) (m_X2_tell hp2) (g_hR (by decide)) (by decide) (by decide) (gc_1 Y _ _) rfl kM_X11_91 kI_X2_tell kS_X2_tell kN_X2 kC_X2_tell kD_X2_tell rfl (Nat.le_of_ble_eq_true rfl) dX11_round_28 (q := 31) rfl ?_
  show g_G 3 X Y 31 [(0, g_r Y 0)] [.int p2.1] p2.2
  obtain rfl := Option.some.inj h
  exact g_iret C E dX11_round_31
theorem r_X11_round_22 {p : Int32 × g_M} (M : g_M) (h : f_X11_round_22 M = some p) : g_fr [2] [(1, 1)] M p.2 := by
  unfold f_X11_round_22 at h
  have hf := g_fr.rfl (S := [2]) (T := [(1, 1)]) (M := M)
  obtain ⟨p2, hp2, h⟩ := g_bind h
  have hf := hf.trans ((r_X2_tell hp2).mono (by decide) (by decide))
  obtain rfl := Option.some.inj h
  exact hf
def f_X11_round (x1 : Int32) (x2 : Int32) (M : g_M) : Option (Int32 × g_M) :=
  (f_X4_has x1 M).bind fun p1 => (if p1 = 0 then (f_X11_round_22 M) else ((f_X0_hasSet x2 M).bind fun p3 => (if p3 = 0 then (f_X11_round_22 M) else ((f_X4_isOf x1 4 M).bind fun p4 => (if p4 = 0 then ((f_X2_tell (-1000000003) M).bind fun p7 => some (p7.1, p7.2)) else ((f_X0_keysOf x2 M).bind fun p5 => (f_X4_roundOf x1 p5 M).bind fun p6 => some (p6, M)))))))
set_option maxRecDepth 100000 in
theorem m_X11_round {l : Launch} {Y : g_Y} {x1 : Int32} {x2 : Int32} {M : g_M} {p : Int32 × g_M} (h : f_X11_round x1 x2 M = some p) : g_R l Y (3) yX11_round cX11_round 3 (some .int) [g_r Y 0, .int x1, .int x2] M (some (.int p.1)) p.2 := by
  unfold f_X11_round at h
  refine g_R_of kP_X11 rfl (Nat.le_of_ble_eq_true rfl) (fun X C E => ?_)
  show g_G 3 X Y 0 [(0, g_r Y 0), (1, .int x1), (2, .int x2)] [] M
  refine g_aload_n C 0 dX11_round_0 (q := 1) rfl rfl rfl ?_
  refine g_get C (k := 0) (i := 3) (by decide) (gc_0 Y _ _) rfl kU_X11 (by decide) kF_X11_33 rfl dX11_round_1 (q := 4) rfl ?_
  refine g_iload_n C 1 dX11_round_4 (q := 5) rfl rfl rfl ?_
  obtain ⟨p1, hp1, h⟩ := g_bind h
  refine g_callV C (k := 24) (as := [.int x1]) (st := []) (m_X4_has hp1) (g_hR (by decide)) (by decide) (by decide) (gc_24 Y _ _) rfl kM_X11_191 kI_X4_has kS_X4_has kN_X4 kC_X4_has kD_X4_has rfl (Nat.le_of_ble_eq_true rfl) dX11_round_5 (q := 8) rfl ?_
  show g_G 3 X Y 8 [(0, g_r Y 0), (1, .int x1), (2, .int x2)] [.int p1] M
  have hif := g_if h
  clear h
  refine g_if_eq C dX11_round_8 (q := 11) (tgt := 22) rfl (by decide) (fun c => ?_) (fun c => ?_)
  · have h := hif.1 c
    clear hif
    refine g_sub [0] (lv' := [(0, g_r Y 0)]) rfl ?_
    exact t_X11_round_22 C E M h
  · have h := hif.2 c
    clear hif
    refine g_aload_n C 0 dX11_round_11 (q := 12) rfl rfl rfl ?_
    refine g_get C (k := 0) (i := 1) (by decide) (gc_0 Y _ _) rfl kU_X11 (by decide) kF_X11_19 rfl dX11_round_12 (q := 15) rfl ?_
    refine g_iload_n C 2 dX11_round_15 (q := 16) rfl rfl rfl ?_
    obtain ⟨p3, hp3, h⟩ := g_bind h
    refine g_callV C (k := 3) (as := [.int x2]) (st := []) (m_X0_hasSet hp3) (g_hR (by decide)) (by decide) (by decide) (gc_3 Y _ _) rfl kM_X11_156 kI_X0_hasSet kS_X0_hasSet kN_X0 kC_X0_hasSet kD_X0_hasSet rfl (Nat.le_of_ble_eq_true rfl) dX11_round_16 (q := 19) rfl ?_
    show g_G 3 X Y 19 [(0, g_r Y 0), (1, .int x1), (2, .int x2)] [.int p3] M
    have hif := g_if h
    clear h
    refine g_if_ne C dX11_round_19 (q := 22) (tgt := 32) rfl (by decide) (fun c => ?_) (fun c => ?_)
    · have h := hif.2 c
      clear hif
      refine g_aload_n C 0 dX11_round_32 (q := 33) rfl rfl rfl ?_
      refine g_get C (k := 0) (i := 3) (by decide) (gc_0 Y _ _) rfl kU_X11 (by decide) kF_X11_33 rfl dX11_round_33 (q := 36) rfl ?_
      refine g_iload_n C 1 dX11_round_36 (q := 37) rfl rfl rfl ?_
      refine g_iconst C (v := 4) dX11_round_37 (q := 38) rfl (by decide) ?_
      obtain ⟨p4, hp4, h⟩ := g_bind h
      refine g_callV C (k := 24) (as := [.int x1, .int 4]) (st := []) (m_X4_isOf hp4) (g_hR (by decide)) (by decide) (by decide) (gc_24 Y _ _) rfl kM_X11_202 kI_X4_isOf kS_X4_isOf kN_X4 kC_X4_isOf kD_X4_isOf rfl (Nat.le_of_ble_eq_true rfl) dX11_round_38 (q := 41) rfl ?_
      show g_G 3 X Y 41 [(0, g_r Y 0), (1, .int x1), (2, .int x2)] [.int p4] M
      have hif := g_if h
      clear h
      refine g_if_ne C dX11_round_41 (q := 44) (tgt := 54) rfl (by decide) (fun c => ?_) (fun c => ?_)
      · have h := hif.2 c
        clear hif
        refine g_aload_n C 0 dX11_round_54 (q := 55) rfl rfl rfl ?_
        refine g_get C (k := 0) (i := 3) (by decide) (gc_0 Y _ _) rfl kU_X11 (by decide) kF_X11_33 rfl dX11_round_55 (q := 58) rfl ?_
        refine g_iload_n C 1 dX11_round_58 (q := 59) rfl rfl rfl ?_
        refine g_aload_n C 0 dX11_round_59 (q := 60) rfl rfl rfl ?_
        refine g_get C (k := 0) (i := 1) (by decide) (gc_0 Y _ _) rfl kU_X11 (by decide) kF_X11_19 rfl dX11_round_60 (q := 63) rfl ?_
        refine g_iload_n C 2 dX11_round_63 (q := 64) rfl rfl rfl ?_
        obtain ⟨p5, hp5, h⟩ := g_bind h
        refine g_callV C (k := 3) (as := [.int x2]) (st := [.int x1, g_r Y 24]) (m_X0_keysOf hp5) (g_hR (by decide)) (by decide) (by decide) (gc_3 Y _ _) rfl kM_X11_235 kI_X0_keysOf kS_X0_keysOf kN_X0 kC_X0_keysOf kD_X0_keysOf rfl (Nat.le_of_ble_eq_true rfl) dX11_round_64 (q := 67) rfl ?_
        show g_G 3 X Y 67 [(0, g_r Y 0), (1, .int x1), (2, .int x2)] [.int p5, .int x1, g_r Y 24] M
        obtain ⟨p6, hp6, h⟩ := g_bind h
        refine g_callV C (k := 24) (as := [.int x1, .int p5]) (st := []) (m_X4_roundOf hp6) (g_hR (by decide)) (by decide) (by decide) (gc_24 Y _ _) rfl kM_X11_244 kI_X4_roundOf kS_X4_roundOf kN_X4 kC_X4_roundOf kD_X4_roundOf rfl (Nat.le_of_ble_eq_true rfl) dX11_round_67 (q := 70) rfl ?_
        show g_G 3 X Y 70 [(0, g_r Y 0), (1, .int x1), (2, .int x2)] [.int p6] M
        obtain rfl := Option.some.inj h
        exact g_iret C E dX11_round_70
      · have h := hif.1 c
        clear hif
        refine g_aload_n C 0 dX11_round_44 (q := 45) rfl rfl rfl ?_
        refine g_get C (k := 0) (i := 0) (by decide) (gc_0 Y _ _) rfl kU_X11 (by decide) kF_X11_12 rfl dX11_round_45 (q := 48) rfl ?_
        refine g_ldc C (v := (-1000000003)) kK_X11_206 dX11_round_48 (q := 50) rfl ?_
        obtain ⟨p7, hp7, h⟩ := g_bind h
        refine g_callV C (k := 1) (as := [.int (-1000000003)]) (st := []) (m_X2_tell hp7) (g_hR (by decide)) (by decide) (by decide) (gc_1 Y _ _) rfl kM_X11_91 kI_X2_tell kS_X2_tell kN_X2 kC_X2_tell kD_X2_tell rfl (Nat.le_of_ble_eq_true rfl) dX11_round_50 (q := 53) rfl ?_
        show g_G 3 X Y 53 [(0, g_r Y 0), (1, .int x1), (2, .int x2)] [.int p7.1] p7.2
        obtain rfl := Option.some.inj h
        exact g_iret C E dX11_round_53
    · have h := hif.1 c
      clear hif
      refine g_sub [0] (lv' := [(0, g_r Y 0)]) rfl ?_
      exact t_X11_round_22 C E M h
theorem r_X11_round {x1 : Int32} {x2 : Int32} {M : g_M} {p : Int32 × g_M} (h : f_X11_round x1 x2 M = some p) : g_fr [2] [(1, 1)] M p.2 := by
  unfold f_X11_round at h
  have hf := g_fr.rfl (S := [2]) (T := [(1, 1)]) (M := M)
  obtain ⟨p1, -, h⟩ := g_bind h
  rcases g_ifs h with h | h
  · exact hf.trans (r_X11_round_22 M h)
  · obtain ⟨p3, -, h⟩ := g_bind h
    rcases g_ifs h with h | h
    · exact hf.trans (r_X11_round_22 M h)
    · obtain ⟨p4, -, h⟩ := g_bind h
      rcases g_ifs h with h | h
      · obtain ⟨p7, hp7, h⟩ := g_bind h
        have hf := hf.trans ((r_X2_tell hp7).mono (by decide) (by decide))
        obtain rfl := Option.some.inj h
        exact hf
      · obtain ⟨p5, -, h⟩ := g_bind h
        obtain ⟨p6, -, h⟩ := g_bind h
        obtain rfl := Option.some.inj h
        exact hf
def F_X11_openingSets_33 (k78 : g_M → Option (g_M)) (k : Int32 → Int32 → Int32 → g_M → Option (g_M)) (x1 : Int32) (x2 : Int32) (x3 : Int32) (M : g_M) : Option (g_M) :=
  (if x2 < x3 then (k78 M) else ((if (x3 &&& (x2 ^^^ (-1))) = 0 then ((f_X5_isOpen x1 x3 M).bind fun p6 => (if p6 = 0 then ((g_bz 0).bind fun z8 => (g_st M 42 1024 x3 z8).bind fun M7 => k x1 x2 (x3 + 1) M7) else ((g_bz 1).bind fun z10 => (g_st M 42 1024 x3 z10).bind fun M9 => k x1 x2 (x3 + 1) M9))) else ((g_bz 0).bind fun z5 => (g_st M 42 1024 x3 z5).bind fun M4 => k x1 x2 (x3 + 1) M4))))
set_option maxRecDepth 100000 in
theorem t_X11_openingSets_33 {l : Launch} {X : g_X} {Y : g_Y} {p : g_M} {k78 : g_M → Option (g_M)} (C : g_C l (g_rm (5)) RX11 cX11_openingSets 4 X Y) (E : g_E (Option.some (FieldType.object "ElderChest$Family")) X Y (some (g_r Y 41)) p) (hk78 : ∀ (M : g_M), k78 M = some p → g_G 4 X Y 78 [(0, g_r Y 0)] [] M) (n : Nat) : ∀ (x1 : Int32) (x2 : Int32) (x3 : Int32) (M : g_M), g_lp3 (F_X11_openingSets_33 k78) n x1 x2 x3 M = some p → g_G 4 X Y 33 [(0, g_r Y 0), (1, .int x1), (2, .int x2), (3, .int x3)] [] M := by
  induction n with
  | zero => intro x1 x2 x3 M h; exact (g_nn h).elim
  | succ n ih =>
    intro x1 x2 x3 M h
    have h : F_X11_openingSets_33 k78 (g_lp3 (F_X11_openingSets_33 k78) n) x1 x2 x3 M = some p := h
    generalize g_lp3 (F_X11_openingSets_33 k78) n = k at h ih
    unfold F_X11_openingSets_33 at h
    refine g_iload_n C 3 dX11_openingSets_33 (q := 34) rfl rfl rfl ?_
    refine g_iload_n C 2 dX11_openingSets_34 (q := 35) rfl rfl rfl ?_
    have hif := g_if h
    clear h
    refine g_icmp_gt C dX11_openingSets_35 (q := 38) (tgt := 78) rfl (by decide) (fun c => ?_) (fun c => ?_)
    · have h := hif.1 c
      clear hif
      refine g_sub [0] (lv' := [(0, g_r Y 0)]) rfl ?_
      exact hk78 M h
    · have h := hif.2 c
      clear hif
      refine g_aload_n C 0 dX11_openingSets_38 (q := 39) rfl rfl rfl ?_
      refine g_get C (k := 0) (i := 13) (by decide) (gc_0 Y _ _) rfl kU_X11 (by decide) kF_X11_66 rfl dX11_openingSets_39 (q := 42) rfl ?_
      refine g_get C (k := 41) (i := 0) (by decide) (gc_41 Y _ _) rfl kU_X1 (by decide) kF_X11_378 rfl dX11_openingSets_42 (q := 45) rfl ?_
      refine g_iload_n C 3 dX11_openingSets_45 (q := 46) rfl rfl rfl ?_
      refine g_iload_n C 3 dX11_openingSets_46 (q := 47) rfl rfl rfl ?_
      refine g_iload_n C 2 dX11_openingSets_47 (q := 48) rfl rfl rfl ?_
      refine g_iconst C (v := (-1)) dX11_openingSets_48 (q := 49) rfl (by decide) ?_
      refine g_ixor C dX11_openingSets_49 (q := 50) rfl ?_
      refine g_iand C dX11_openingSets_50 (q := 51) rfl ?_
      have hif := g_if h
      clear h
      refine g_if_ne C dX11_openingSets_51 (q := 54) (tgt := 70) rfl (by decide) (fun c => ?_) (fun c => ?_)
      · have h := hif.2 c
        clear hif
        refine g_iconst C (v := 0) dX11_openingSets_70 (q := 71) rfl (by decide) ?_
        obtain ⟨z5, hz5, h⟩ := g_bind h
        obtain ⟨M4, hM4, h⟩ := g_bind h
        refine g_zast C (k := 42) (n := 1024) (by decide) (fun a => gc_42 Y a _) hz5 hM4 dX11_openingSets_71 (q := 72) rfl ?_
        refine g_iinc C (k := 3) (v := x3 + 1) dX11_openingSets_72 (q := 75) rfl rfl rfl (by decide) (lv' := [(3, .int (x3 + 1)), (0, g_r Y 0), (1, .int x1), (2, .int x2)]) rfl ?_
        refine g_goto C dX11_openingSets_75 (tgt := 33) (by decide) ?_
        refine g_sub [1, 2, 3, 0] (lv' := [(0, g_r Y 0), (1, .int x1), (2, .int x2), (3, .int (x3 + 1))]) rfl ?_
        exact ih x1 x2 (x3 + 1) M4 h
      · have h := hif.1 c
        clear hif
        refine g_aload_n C 0 dX11_openingSets_54 (q := 55) rfl rfl rfl ?_
        refine g_get C (k := 0) (i := 11) (by decide) (gc_0 Y _ _) rfl kU_X11 (by decide) kF_X11_55 rfl dX11_openingSets_55 (q := 58) rfl ?_
        refine g_iload_n C 1 dX11_openingSets_58 (q := 59) rfl rfl rfl ?_
        refine g_iload_n C 3 dX11_openingSets_59 (q := 60) rfl rfl rfl ?_
        obtain ⟨p6, hp6, h⟩ := g_bind h
        refine g_callV C (k := 36) (as := [.int x1, .int x3]) (st := [.int x3, g_r Y 42]) (m_X5_isOpen hp6) (g_hR (by decide)) (by decide) (by decide) (gc_36 Y _ _) rfl kM_X11_257 kI_X5_isOpen kS_X5_isOpen kN_X5 kC_X5_isOpen kD_X5_isOpen rfl (Nat.le_of_ble_eq_true rfl) dX11_openingSets_60 (q := 63) rfl ?_
        show g_G 4 X Y 63 [(0, g_r Y 0), (1, .int x1), (2, .int x2), (3, .int x3)] [.int p6, .int x3, g_r Y 42] M
        have hif := g_if h
        clear h
        refine g_if_eq C dX11_openingSets_63 (q := 66) (tgt := 70) rfl (by decide) (fun c => ?_) (fun c => ?_)
        · have h := hif.1 c
          clear hif
          refine g_iconst C (v := 0) dX11_openingSets_70 (q := 71) rfl (by decide) ?_
          obtain ⟨z8, hz8, h⟩ := g_bind h
          obtain ⟨M7, hM7, h⟩ := g_bind h
          refine g_zast C (k := 42) (n := 1024) (by decide) (fun a => gc_42 Y a _) hz8 hM7 dX11_openingSets_71 (q := 72) rfl ?_
          refine g_iinc C (k := 3) (v := x3 + 1) dX11_openingSets_72 (q := 75) rfl rfl rfl (by decide) (lv' := [(3, .int (x3 + 1)), (0, g_r Y 0), (1, .int x1), (2, .int x2)]) rfl ?_
          refine g_goto C dX11_openingSets_75 (tgt := 33) (by decide) ?_
          refine g_sub [1, 2, 3, 0] (lv' := [(0, g_r Y 0), (1, .int x1), (2, .int x2), (3, .int (x3 + 1))]) rfl ?_
          exact ih x1 x2 (x3 + 1) M7 h
        · have h := hif.2 c
          clear hif
          refine g_iconst C (v := 1) dX11_openingSets_66 (q := 67) rfl (by decide) ?_
          refine g_goto C dX11_openingSets_67 (tgt := 71) (by decide) ?_
          obtain ⟨z10, hz10, h⟩ := g_bind h
          obtain ⟨M9, hM9, h⟩ := g_bind h
          refine g_zast C (k := 42) (n := 1024) (by decide) (fun a => gc_42 Y a _) hz10 hM9 dX11_openingSets_71 (q := 72) rfl ?_
          refine g_iinc C (k := 3) (v := x3 + 1) dX11_openingSets_72 (q := 75) rfl rfl rfl (by decide) (lv' := [(3, .int (x3 + 1)), (0, g_r Y 0), (1, .int x1), (2, .int x2)]) rfl ?_
          refine g_goto C dX11_openingSets_75 (tgt := 33) (by decide) ?_
          refine g_sub [1, 2, 3, 0] (lv' := [(0, g_r Y 0), (1, .int x1), (2, .int x2), (3, .int (x3 + 1))]) rfl ?_
          exact ih x1 x2 (x3 + 1) M9 h
theorem r_X11_openingSets_33 {p : g_M} {k78 : g_M → Option (g_M)} (hk78 : ∀ (M : g_M), k78 M = some p → g_fr [37, 38, 42] [(36, 2), (41, 1)] M p) (n : Nat) : ∀ (x1 : Int32) (x2 : Int32) (x3 : Int32) (M : g_M), g_lp3 (F_X11_openingSets_33 k78) n x1 x2 x3 M = some p → g_fr [37, 38, 42] [(36, 2), (41, 1)] M p := by
  induction n with
  | zero => intro x1 x2 x3 M h; exact (g_nn h).elim
  | succ n ih =>
    intro x1 x2 x3 M h
    have h : F_X11_openingSets_33 k78 (g_lp3 (F_X11_openingSets_33 k78) n) x1 x2 x3 M = some p := h
    generalize g_lp3 (F_X11_openingSets_33 k78) n = k at h ih
    unfold F_X11_openingSets_33 at h
    have hf := g_fr.rfl (S := [37, 38, 42]) (T := [(36, 2), (41, 1)]) (M := M)
    rcases g_ifs h with h | h
    · exact hf.trans (hk78 M h)
    · rcases g_ifs h with h | h
      · obtain ⟨p6, -, h⟩ := g_bind h
        rcases g_ifs h with h | h
        · obtain ⟨z8, -, h⟩ := g_bind h
          obtain ⟨M7, hM7, h⟩ := g_bind h
          have hf := hf.st hM7 (by decide)
          exact hf.trans (ih x1 x2 (x3 + 1) M7 h)
        · obtain ⟨z10, -, h⟩ := g_bind h
          obtain ⟨M9, hM9, h⟩ := g_bind h
          have hf := hf.st hM9 (by decide)
          exact hf.trans (ih x1 x2 (x3 + 1) M9 h)
      · obtain ⟨z5, -, h⟩ := g_bind h
        obtain ⟨M4, hM4, h⟩ := g_bind h
        have hf := hf.st hM4 (by decide)
        exact hf.trans (ih x1 x2 (x3 + 1) M4 h)
def f_X11_openingSets (x1 : Int32) (M : g_M) : Option (g_M) :=
  (f_X5_refresh_36_3_24 M).bind fun p1 => (f_X0_present p1).bind fun p2 => (some (g_u p1 41 1 p2)).bind fun M3 => g_lp3 (F_X11_openingSets_33 (fun (M : g_M) => some M)) 20000000 x1 p2 0 M3
set_option maxRecDepth 100000 in
theorem m_X11_openingSets {l : Launch} {Y : g_Y} {x1 : Int32} {M : g_M} {p : g_M} (h : f_X11_openingSets x1 M = some p) : g_R l Y (5) yX11_openingSets cX11_openingSets 4 (Option.some (FieldType.object "ElderChest$Family")) [g_r Y 0, .int x1] M (some (g_r Y 41)) p := by
  unfold f_X11_openingSets at h
  refine g_R_of kP_X11 rfl (Nat.le_of_ble_eq_true rfl) (fun X C E => ?_)
  show g_G 4 X Y 0 [(0, g_r Y 0), (1, .int x1)] [] M
  refine g_aload_n C 0 dX11_openingSets_0 (q := 1) rfl rfl rfl ?_
  refine g_get C (k := 0) (i := 11) (by decide) (gc_0 Y _ _) rfl kU_X11 (by decide) kF_X11_55 rfl dX11_openingSets_1 (q := 4) rfl ?_
  refine g_aload_n C 0 dX11_openingSets_4 (q := 5) rfl rfl rfl ?_
  refine g_get C (k := 0) (i := 1) (by decide) (gc_0 Y _ _) rfl kU_X11 (by decide) kF_X11_19 rfl dX11_openingSets_5 (q := 8) rfl ?_
  refine g_aload_n C 0 dX11_openingSets_8 (q := 9) rfl rfl rfl ?_
  refine g_get C (k := 0) (i := 3) (by decide) (gc_0 Y _ _) rfl kU_X11 (by decide) kF_X11_33 rfl dX11_openingSets_9 (q := 12) rfl ?_
  obtain ⟨p1, hp1, h⟩ := g_bind h
  refine g_callV C (k := 36) (as := [g_r Y 3, g_r Y 24]) (st := []) (m_X5_refresh_36_3_24 hp1) (g_hR (by decide)) (by decide) (by decide) (gc_36 Y _ _) rfl kM_X11_253 kI_X5_refresh kS_X5_refresh kN_X5 kC_X5_refresh kD_X5_refresh rfl (Nat.le_of_ble_eq_true rfl) dX11_openingSets_12 (q := 15) rfl ?_
  show g_G 4 X Y 15 [(0, g_r Y 0), (1, .int x1)] [] p1
  refine g_aload_n C 0 dX11_openingSets_15 (q := 16) rfl rfl rfl ?_
  refine g_get C (k := 0) (i := 1) (by decide) (gc_0 Y _ _) rfl kU_X11 (by decide) kF_X11_19 rfl dX11_openingSets_16 (q := 19) rfl ?_
  obtain ⟨p2, hp2, h⟩ := g_bind h
  refine g_callV C (k := 3) (as := []) (st := []) (m_X0_present hp2) (g_hR (by decide)) (by decide) (by decide) (gc_3 Y _ _) rfl kM_X11_159 kI_X0_present kS_X0_present kN_X0 kC_X0_present kD_X0_present rfl (Nat.le_of_ble_eq_true rfl) dX11_openingSets_19 (q := 22) rfl ?_
  show g_G 4 X Y 22 [(0, g_r Y 0), (1, .int x1)] [.int p2] p1
  refine g_istore_n C dX11_openingSets_22 (q := 23) rfl rfl (by decide) (lv' := [(2, .int p2), (0, g_r Y 0), (1, .int x1)]) rfl ?_
  refine g_aload_n C 1 dX11_openingSets_23 (q := 24) rfl rfl rfl ?_
  refine g_get C (k := 0) (i := 13) (by decide) (gc_0 Y _ _) rfl kU_X11 (by decide) kF_X11_66 rfl dX11_openingSets_24 (q := 27) rfl ?_
  refine g_iload_n C 0 dX11_openingSets_27 (q := 28) rfl rfl rfl ?_
  obtain ⟨M3, hM3, h⟩ := g_bind h
  refine g_put C (k := 41) (i := 1) (ty := .int) (by decide) (gc_41 Y _ _) (gp_41_1 Y _ _ _) rfl kU_X1 tyX1_ok nmX1 (by decide) kF_X11_377 rfl rfl rfl rfl (Nat.le_of_ble_eq_true rfl) dX11_openingSets_28 (q := 31) rfl ?_
  refine g_mem hM3 ?_
  refine g_iconst C (v := 0) dX11_openingSets_31 (q := 32) rfl (by decide) ?_
  refine g_istore_n C dX11_openingSets_32 (q := 33) rfl rfl (by decide) (lv' := [(3, .int 0), (2, .int p2), (0, g_r Y 0), (1, .int x1)]) rfl ?_
  refine g_sub [2, 3, 1, 0] (lv' := [(0, g_r Y 0), (1, .int x1), (2, .int p2), (3, .int 0)]) rfl ?_
  refine t_X11_openingSets_33 C E ?_ 20000000 x1 p2 0 M3 h
  · intro M h
    try dsimp only at h
    refine g_aload_n C 0 dX11_openingSets_78 (q := 79) rfl rfl rfl ?_
    refine g_get C (k := 0) (i := 13) (by decide) (gc_0 Y _ _) rfl kU_X11 (by decide) kF_X11_66 rfl dX11_openingSets_79 (q := 82) rfl ?_
    obtain rfl := Option.some.inj h
    exact g_aret C E dX11_openingSets_82
theorem r_X11_openingSets {x1 : Int32} {M : g_M} {p : g_M} (h : f_X11_openingSets x1 M = some p) : g_fr [37, 38, 42] [(36, 2), (41, 1)] M p := by
  unfold f_X11_openingSets at h
  have hf := g_fr.rfl (S := [37, 38, 42]) (T := [(36, 2), (41, 1)]) (M := M)
  obtain ⟨p1, hp1, h⟩ := g_bind h
  have hf := hf.trans ((r_X5_refresh_36_3_24 hp1).mono (by decide) (by decide))
  obtain ⟨p2, -, h⟩ := g_bind h
  obtain ⟨M3, hM3, h⟩ := g_bind h
  have hf := hf.pu hM3 (by decide)
  refine hf.trans (r_X11_openingSets_33 ?_ 20000000 x1 p2 0 M3 h)
  · intro M h
    try dsimp only at h
    have hf := g_fr.rfl (S := [37, 38, 42]) (T := [(36, 2), (41, 1)]) (M := M)
    obtain rfl := Option.some.inj h
    exact hf
def f_X11_listed_0_41_23 (x2 : Int32) (M : g_M) : Option (Int32 × g_M) :=
  (if 0 ≤ x2 then ((if (M.1 43 1) ≤ x2 then ((f_X2_tell (-1000000004) M).bind fun p2 => some (p2.1, p2.2)) else ((g_ld M 44 252 x2).bind fun v3 => some (v3, M)))) else (some (M.1 43 1, M)))
set_option maxRecDepth 100000 in
theorem t_X11_listed_0_41_23 {l : Launch} {X : g_X} {Y : g_Y} {p : Int32 × g_M} (C : g_C l (g_rm (2)) RX11 cX11_listed 4 X Y) (E : g_E (some .int) X Y (some (.int p.1)) p.2) (x2 : Int32) (M : g_M) (h : f_X11_listed_0_41_23 x2 M = some p) : g_G 4 X Y 23 [(0, g_r Y 0), (2, .int x2)] [] M := by
  unfold f_X11_listed_0_41_23 at h
  refine g_iload_n C 1 dX11_listed_23 (q := 24) rfl rfl rfl ?_
  have hif := g_if h
  clear h
  refine g_if_ge C dX11_listed_24 (q := 27) (tgt := 35) rfl (by decide) (fun c => ?_) (fun c => ?_)
  · have h := hif.1 c
    clear hif
    refine g_iload_n C 1 dX11_listed_35 (q := 36) rfl rfl rfl ?_
    refine g_aload_n C 0 dX11_listed_36 (q := 37) rfl rfl rfl ?_
    refine g_get C (k := 0) (i := 14) (by decide) (gc_0 Y _ _) rfl kU_X11 (by decide) kF_X11_72 rfl dX11_listed_37 (q := 40) rfl ?_
    refine g_get C (k := 43) (i := 1) (by decide) (gc_43 Y _ _) rfl kU_X6 (by decide) kF_X11_271 rfl dX11_listed_40 (q := 43) rfl ?_
    have hif := g_if h
    clear h
    refine g_icmp_ge C dX11_listed_43 (q := 46) (tgt := 58) rfl (by decide) (fun c => ?_) (fun c => ?_)
    · have h := hif.1 c
      clear hif
      refine g_aload_n C 0 dX11_listed_58 (q := 59) rfl rfl rfl ?_
      refine g_get C (k := 0) (i := 0) (by decide) (gc_0 Y _ _) rfl kU_X11 (by decide) kF_X11_12 rfl dX11_listed_59 (q := 62) rfl ?_
      refine g_ldc C (v := (-1000000004)) kK_X11_177 dX11_listed_62 (q := 64) rfl ?_
      obtain ⟨p2, hp2, h⟩ := g_bind h
      refine g_callV C (k := 1) (as := [.int (-1000000004)]) (st := []) (m_X2_tell hp2) (g_hR (by decide)) (by decide) (by decide) (gc_1 Y _ _) rfl kM_X11_91 kI_X2_tell kS_X2_tell kN_X2 kC_X2_tell kD_X2_tell rfl (Nat.le_of_ble_eq_true rfl) dX11_listed_64 (q := 67) rfl ?_
      show g_G 4 X Y 67 [(0, g_r Y 0), (2, .int x2)] [.int p2.1] p2.2
      obtain rfl := Option.some.inj h
      exact g_iret C E dX11_listed_67
    · have h := hif.2 c
      clear hif
      refine g_aload_n C 0 dX11_listed_46 (q := 47) rfl rfl rfl ?_
      refine g_get C (k := 0) (i := 14) (by decide) (gc_0 Y _ _) rfl kU_X11 (by decide) kF_X11_72 rfl dX11_listed_47 (q := 50) rfl ?_
      refine g_get C (k := 43) (i := 0) (by decide) (gc_43 Y _ _) rfl kU_X6 (by decide) kF_X11_386 rfl dX11_listed_50 (q := 53) rfl ?_
      refine g_iload_n C 1 dX11_listed_53 (q := 54) rfl rfl rfl ?_
      obtain ⟨v3, hv3, h⟩ := g_bind h
      refine g_iald C (k := 44) (n := 252) (by decide) (gc_44 Y _ _) hv3 dX11_listed_54 (q := 55) rfl ?_
      refine g_goto C dX11_listed_55 (tgt := 67) (by decide) ?_
      obtain rfl := Option.some.inj h
      exact g_iret C E dX11_listed_67
  · have h := hif.2 c
    clear hif
    refine g_aload_n C 0 dX11_listed_27 (q := 28) rfl rfl rfl ?_
    refine g_get C (k := 0) (i := 14) (by decide) (gc_0 Y _ _) rfl kU_X11 (by decide) kF_X11_72 rfl dX11_listed_28 (q := 31) rfl ?_
    refine g_get C (k := 43) (i := 1) (by decide) (gc_43 Y _ _) rfl kU_X6 (by decide) kF_X11_271 rfl dX11_listed_31 (q := 34) rfl ?_
    obtain rfl := Option.some.inj h
    exact g_iret C E dX11_listed_34
theorem r_X11_listed_0_41_23 {p : Int32 × g_M} (x2 : Int32) (M : g_M) (h : f_X11_listed_0_41_23 x2 M = some p) : g_fr [2, 44, 45] [(1, 1), (43, 1)] M p.2 := by
  unfold f_X11_listed_0_41_23 at h
  have hf := g_fr.rfl (S := [2, 44, 45]) (T := [(1, 1), (43, 1)]) (M := M)
  rcases g_ifs h with h | h
  · rcases g_ifs h with h | h
    · obtain ⟨p2, hp2, h⟩ := g_bind h
      have hf := hf.trans ((r_X2_tell hp2).mono (by decide) (by decide))
      obtain rfl := Option.some.inj h
      exact hf
    · obtain ⟨v3, -, h⟩ := g_bind h
      obtain rfl := Option.some.inj h
      exact hf
  · obtain rfl := Option.some.inj h
    exact hf
def f_X11_listed_0_41 (x2 : Int32) (x3 : Int32) (M : g_M) : Option (Int32 × g_M) :=
  (if x3 = 0 then ((f_X6_findLeast_43_41 M).bind fun p1 => f_X11_listed_0_41_23 x2 p1) else ((f_X6_findMost_43_41 M).bind fun p4 => f_X11_listed_0_41_23 x2 p4))
set_option maxRecDepth 100000 in
theorem m_X11_listed_0_41 {l : Launch} {Y : g_Y} {x2 : Int32} {x3 : Int32} {M : g_M} {p : Int32 × g_M} (h : f_X11_listed_0_41 x2 x3 M = some p) : g_R l Y (2) yX11_listed cX11_listed 4 (some .int) [g_r Y 0, g_r Y 41, .int x2, .int x3] M (some (.int p.1)) p.2 := by
  unfold f_X11_listed_0_41 at h
  refine g_R_of kP_X11 rfl (Nat.le_of_ble_eq_true rfl) (fun X C E => ?_)
  show g_G 4 X Y 0 [(0, g_r Y 0), (1, g_r Y 41), (2, .int x2), (3, .int x3)] [] M
  refine g_iload_n C 3 dX11_listed_0 (q := 1) rfl rfl rfl ?_
  have hif := g_if h
  clear h
  refine g_if_eq C dX11_listed_1 (q := 4) (tgt := 15) rfl (by decide) (fun c => ?_) (fun c => ?_)
  · have h := hif.1 c
    clear hif
    refine g_aload_n C 0 dX11_listed_15 (q := 16) rfl rfl rfl ?_
    refine g_get C (k := 0) (i := 14) (by decide) (gc_0 Y _ _) rfl kU_X11 (by decide) kF_X11_72 rfl dX11_listed_16 (q := 19) rfl ?_
    refine g_aload_n C 1 dX11_listed_19 (q := 20) rfl rfl rfl ?_
    obtain ⟨p1, hp1, h⟩ := g_bind h
    refine g_callV C (k := 43) (as := [g_r Y 41]) (st := []) (m_X6_findLeast_43_41 hp1) (g_hR (by decide)) (by decide) (by decide) (gc_43 Y _ _) rfl kM_X11_309 kI_X6_findLeast kS_X6_findLeast kN_X6 kC_X6_findLeast kD_X6_findLeast rfl (Nat.le_of_ble_eq_true rfl) dX11_listed_20 (q := 23) rfl ?_
    show g_G 4 X Y 23 [(0, g_r Y 0), (1, g_r Y 41), (2, .int x2), (3, .int x3)] [] p1
    refine g_sub [0, 2] (lv' := [(0, g_r Y 0), (2, .int x2)]) rfl ?_
    exact t_X11_listed_0_41_23 C E x2 p1 h
  · have h := hif.2 c
    clear hif
    refine g_aload_n C 0 dX11_listed_4 (q := 5) rfl rfl rfl ?_
    refine g_get C (k := 0) (i := 14) (by decide) (gc_0 Y _ _) rfl kU_X11 (by decide) kF_X11_72 rfl dX11_listed_5 (q := 8) rfl ?_
    refine g_aload_n C 1 dX11_listed_8 (q := 9) rfl rfl rfl ?_
    obtain ⟨p4, hp4, h⟩ := g_bind h
    refine g_callV C (k := 43) (as := [g_r Y 41]) (st := []) (m_X6_findMost_43_41 hp4) (g_hR (by decide)) (by decide) (by decide) (gc_43 Y _ _) rfl kM_X11_267 kI_X6_findMost kS_X6_findMost kN_X6 kC_X6_findMost kD_X6_findMost rfl (Nat.le_of_ble_eq_true rfl) dX11_listed_9 (q := 12) rfl ?_
    show g_G 4 X Y 12 [(0, g_r Y 0), (1, g_r Y 41), (2, .int x2), (3, .int x3)] [] p4
    refine g_goto C dX11_listed_12 (tgt := 23) (by decide) ?_
    refine g_sub [0, 2] (lv' := [(0, g_r Y 0), (2, .int x2)]) rfl ?_
    exact t_X11_listed_0_41_23 C E x2 p4 h
theorem r_X11_listed_0_41 {x2 : Int32} {x3 : Int32} {M : g_M} {p : Int32 × g_M} (h : f_X11_listed_0_41 x2 x3 M = some p) : g_fr [2, 44, 45] [(1, 1), (43, 1)] M p.2 := by
  unfold f_X11_listed_0_41 at h
  have hf := g_fr.rfl (S := [2, 44, 45]) (T := [(1, 1), (43, 1)]) (M := M)
  rcases g_ifs h with h | h
  · obtain ⟨p1, hp1, h⟩ := g_bind h
    have hf := hf.trans ((r_X6_findLeast_43_41 hp1).mono (by decide) (by decide))
    exact hf.trans (r_X11_listed_0_41_23 x2 p1 h)
  · obtain ⟨p4, hp4, h⟩ := g_bind h
    have hf := hf.trans ((r_X6_findMost_43_41 hp4).mono (by decide) (by decide))
    exact hf.trans (r_X11_listed_0_41_23 x2 p4 h)
def f_X11_listedByHanging_16 (M : g_M) : Option (Int32 × g_M) :=
  (f_X2_tell (-1000000001) M).bind fun p2 => some (p2.1, p2.2)
set_option maxRecDepth 100000 in
theorem t_X11_listedByHanging_16 {l : Launch} {X : g_X} {Y : g_Y} {p : Int32 × g_M} (C : g_C l (g_rm (6)) RX11 cX11_listedByHanging 4 X Y) (E : g_E (some .int) X Y (some (.int p.1)) p.2) (M : g_M) (h : f_X11_listedByHanging_16 M = some p) : g_G 4 X Y 16 [(0, g_r Y 0)] [] M := by
  unfold f_X11_listedByHanging_16 at h
  refine g_aload_n C 0 dX11_listedByHanging_16 (q := 17) rfl rfl rfl ?_
  refine g_get C (k := 0) (i := 0) (by decide) (gc_0 Y _ _) rfl kU_X11 (by decide) kF_X11_12 rfl dX11_listedByHanging_17 (q := 20) rfl ?_
  refine g_ldc C (v := (-1000000001)) kK_X11_90 dX11_listedByHanging_20 (q := 22) rfl ?_
  obtain ⟨p2, hp2, h⟩ := g_bind h
  refine g_callV C (k := 1) (as := [.int (-1000000001)]) (st := []) (m_X2_tell hp2) (g_hR (by decide)) (by decide) (by decide) (gc_1 Y _ _) rfl kM_X11_91 kI_X2_tell kS_X2_tell kN_X2 kC_X2_tell kD_X2_tell rfl (Nat.le_of_ble_eq_true rfl) dX11_listedByHanging_22 (q := 25) rfl ?_
  show g_G 4 X Y 25 [(0, g_r Y 0)] [.int p2.1] p2.2
  obtain rfl := Option.some.inj h
  exact g_iret C E dX11_listedByHanging_25
theorem r_X11_listedByHanging_16 {p : Int32 × g_M} (M : g_M) (h : f_X11_listedByHanging_16 M = some p) : g_fr [2, 37, 38, 42, 44, 45] [(1, 1), (36, 2), (41, 1), (43, 1)] M p.2 := by
  unfold f_X11_listedByHanging_16 at h
  have hf := g_fr.rfl (S := [2, 37, 38, 42, 44, 45]) (T := [(1, 1), (36, 2), (41, 1), (43, 1)]) (M := M)
  obtain ⟨p2, hp2, h⟩ := g_bind h
  have hf := hf.trans ((r_X2_tell hp2).mono (by decide) (by decide))
  obtain rfl := Option.some.inj h
  exact hf
def f_X11_listedByHanging (x1 : Int32) (x2 : Int32) (x3 : Int32) (M : g_M) : Option (Int32 × g_M) :=
  (f_X4_has x1 M).bind fun p1 => (if p1 = 0 then (f_X11_listedByHanging_16 M) else ((if (-1) ≤ x2 then ((f_X11_openingSets x1 M).bind fun p3 => (f_X11_listed_0_41 x2 x3 p3).bind fun p4 => some (p4.1, p4.2)) else (f_X11_listedByHanging_16 M))))
set_option maxRecDepth 100000 in
theorem m_X11_listedByHanging {l : Launch} {Y : g_Y} {x1 : Int32} {x2 : Int32} {x3 : Int32} {M : g_M} {p : Int32 × g_M} (h : f_X11_listedByHanging x1 x2 x3 M = some p) : g_R l Y (6) yX11_listedByHanging cX11_listedByHanging 4 (some .int) [g_r Y 0, .int x1, .int x2, .int x3] M (some (.int p.1)) p.2 := by
  unfold f_X11_listedByHanging at h
  refine g_R_of kP_X11 rfl (Nat.le_of_ble_eq_true rfl) (fun X C E => ?_)
  show g_G 4 X Y 0 [(0, g_r Y 0), (1, .int x1), (2, .int x2), (3, .int x3)] [] M
  refine g_aload_n C 0 dX11_listedByHanging_0 (q := 1) rfl rfl rfl ?_
  refine g_get C (k := 0) (i := 3) (by decide) (gc_0 Y _ _) rfl kU_X11 (by decide) kF_X11_33 rfl dX11_listedByHanging_1 (q := 4) rfl ?_
  refine g_iload_n C 1 dX11_listedByHanging_4 (q := 5) rfl rfl rfl ?_
  obtain ⟨p1, hp1, h⟩ := g_bind h
  refine g_callV C (k := 24) (as := [.int x1]) (st := []) (m_X4_has hp1) (g_hR (by decide)) (by decide) (by decide) (gc_24 Y _ _) rfl kM_X11_191 kI_X4_has kS_X4_has kN_X4 kC_X4_has kD_X4_has rfl (Nat.le_of_ble_eq_true rfl) dX11_listedByHanging_5 (q := 8) rfl ?_
  show g_G 4 X Y 8 [(0, g_r Y 0), (1, .int x1), (2, .int x2), (3, .int x3)] [.int p1] M
  have hif := g_if h
  clear h
  refine g_if_eq C dX11_listedByHanging_8 (q := 11) (tgt := 16) rfl (by decide) (fun c => ?_) (fun c => ?_)
  · have h := hif.1 c
    clear hif
    refine g_sub [0] (lv' := [(0, g_r Y 0)]) rfl ?_
    exact t_X11_listedByHanging_16 C E M h
  · have h := hif.2 c
    clear hif
    refine g_iload_n C 2 dX11_listedByHanging_11 (q := 12) rfl rfl rfl ?_
    refine g_iconst C (v := (-1)) dX11_listedByHanging_12 (q := 13) rfl (by decide) ?_
    have hif := g_if h
    clear h
    refine g_icmp_ge C dX11_listedByHanging_13 (q := 16) (tgt := 26) rfl (by decide) (fun c => ?_) (fun c => ?_)
    · have h := hif.1 c
      clear hif
      refine g_aload_n C 0 dX11_listedByHanging_26 (q := 27) rfl rfl rfl ?_
      refine g_aload_n C 0 dX11_listedByHanging_27 (q := 28) rfl rfl rfl ?_
      refine g_iload_n C 1 dX11_listedByHanging_28 (q := 29) rfl rfl rfl ?_
      obtain ⟨p3, hp3, h⟩ := g_bind h
      refine g_callV C (k := 0) (as := [.int x1]) (st := [g_r Y 0]) (m_X11_openingSets hp3) (g_hR (by decide)) (by decide) (by decide) (gc_0 Y _ _) rfl kM_X11_305 kI_X11_openingSets kS_X11_openingSets kN_X11 kC_X11_openingSets kD_X11_openingSets rfl (Nat.le_of_ble_eq_true rfl) dX11_listedByHanging_29 (q := 32) rfl ?_
      show g_G 4 X Y 32 [(0, g_r Y 0), (1, .int x1), (2, .int x2), (3, .int x3)] [g_r Y 41, g_r Y 0] p3
      refine g_iload_n C 2 dX11_listedByHanging_32 (q := 33) rfl rfl rfl ?_
      refine g_iload_n C 3 dX11_listedByHanging_33 (q := 34) rfl rfl rfl ?_
      obtain ⟨p4, hp4, h⟩ := g_bind h
      refine g_callV C (k := 0) (as := [g_r Y 41, .int x2, .int x3]) (st := []) (m_X11_listed_0_41 hp4) (g_hR (by decide)) (by decide) (by decide) (gc_0 Y _ _) rfl kM_X11_382 kI_X11_listed kS_X11_listed kN_X11 kC_X11_listed kD_X11_listed rfl (Nat.le_of_ble_eq_true rfl) dX11_listedByHanging_34 (q := 37) rfl ?_
      show g_G 4 X Y 37 [(0, g_r Y 0), (1, .int x1), (2, .int x2), (3, .int x3)] [.int p4.1] p4.2
      obtain rfl := Option.some.inj h
      exact g_iret C E dX11_listedByHanging_37
    · have h := hif.2 c
      clear hif
      refine g_sub [0] (lv' := [(0, g_r Y 0)]) rfl ?_
      exact t_X11_listedByHanging_16 C E M h
theorem r_X11_listedByHanging {x1 : Int32} {x2 : Int32} {x3 : Int32} {M : g_M} {p : Int32 × g_M} (h : f_X11_listedByHanging x1 x2 x3 M = some p) : g_fr [2, 37, 38, 42, 44, 45] [(1, 1), (36, 2), (41, 1), (43, 1)] M p.2 := by
  unfold f_X11_listedByHanging at h
  have hf := g_fr.rfl (S := [2, 37, 38, 42, 44, 45]) (T := [(1, 1), (36, 2), (41, 1), (43, 1)]) (M := M)
  obtain ⟨p1, -, h⟩ := g_bind h
  rcases g_ifs h with h | h
  · exact hf.trans (r_X11_listedByHanging_16 M h)
  · rcases g_ifs h with h | h
    · obtain ⟨p3, hp3, h⟩ := g_bind h
      have hf := hf.trans ((r_X11_openingSets hp3).mono (by decide) (by decide))
      obtain ⟨p4, hp4, h⟩ := g_bind h
      have hf := hf.trans ((r_X11_listed_0_41 hp4).mono (by decide) (by decide))
      obtain rfl := Option.some.inj h
      exact hf
    · exact hf.trans (r_X11_listedByHanging_16 M h)
def f_X11_lets (x1 : Int32) (x2 : Int32) (M : g_M) : Option (Int32 × g_M) :=
  (f_X11_listedByHanging x1 x2 0 M).bind fun p1 => some (p1.1, p1.2)
set_option maxRecDepth 100000 in
theorem m_X11_lets {l : Launch} {Y : g_Y} {x1 : Int32} {x2 : Int32} {M : g_M} {p : Int32 × g_M} (h : f_X11_lets x1 x2 M = some p) : g_R l Y (7) yX11_lets cX11_lets 3 (some .int) [g_r Y 0, .int x1, .int x2] M (some (.int p.1)) p.2 := by
  unfold f_X11_lets at h
  refine g_R_of kP_X11 rfl (Nat.le_of_ble_eq_true rfl) (fun X C E => ?_)
  show g_G 3 X Y 0 [(0, g_r Y 0), (1, .int x1), (2, .int x2)] [] M
  refine g_aload_n C 0 dX11_lets_0 (q := 1) rfl rfl rfl ?_
  refine g_iload_n C 1 dX11_lets_1 (q := 2) rfl rfl rfl ?_
  refine g_iload_n C 2 dX11_lets_2 (q := 3) rfl rfl rfl ?_
  refine g_iconst C (v := 0) dX11_lets_3 (q := 4) rfl (by decide) ?_
  obtain ⟨p1, hp1, h⟩ := g_bind h
  refine g_callV C (k := 0) (as := [.int x1, .int x2, .int 0]) (st := []) (m_X11_listedByHanging hp1) (g_hR (by decide)) (by decide) (by decide) (gc_0 Y _ _) rfl kM_X11_247 kI_X11_listedByHanging kS_X11_listedByHanging kN_X11 kC_X11_listedByHanging kD_X11_listedByHanging rfl (Nat.le_of_ble_eq_true rfl) dX11_lets_4 (q := 7) rfl ?_
  show g_G 3 X Y 7 [(0, g_r Y 0), (1, .int x1), (2, .int x2)] [.int p1.1] p1.2
  obtain rfl := Option.some.inj h
  exact g_iret C E dX11_lets_7
theorem r_X11_lets {x1 : Int32} {x2 : Int32} {M : g_M} {p : Int32 × g_M} (h : f_X11_lets x1 x2 M = some p) : g_fr [2, 37, 38, 42, 44, 45] [(1, 1), (36, 2), (41, 1), (43, 1)] M p.2 := by
  unfold f_X11_lets at h
  have hf := g_fr.rfl (S := [2, 37, 38, 42, 44, 45]) (T := [(1, 1), (36, 2), (41, 1), (43, 1)]) (M := M)
  obtain ⟨p1, hp1, h⟩ := g_bind h
  have hf := hf.trans ((r_X11_listedByHanging hp1).mono (by decide) (by decide))
  obtain rfl := Option.some.inj h
  exact hf
def f_X11_shut (x1 : Int32) (x2 : Int32) (M : g_M) : Option (Int32 × g_M) :=
  (f_X11_listedByHanging x1 x2 1 M).bind fun p1 => some (p1.1, p1.2)
set_option maxRecDepth 100000 in
theorem m_X11_shut {l : Launch} {Y : g_Y} {x1 : Int32} {x2 : Int32} {M : g_M} {p : Int32 × g_M} (h : f_X11_shut x1 x2 M = some p) : g_R l Y (7) yX11_shut cX11_shut 3 (some .int) [g_r Y 0, .int x1, .int x2] M (some (.int p.1)) p.2 := by
  unfold f_X11_shut at h
  refine g_R_of kP_X11 rfl (Nat.le_of_ble_eq_true rfl) (fun X C E => ?_)
  show g_G 3 X Y 0 [(0, g_r Y 0), (1, .int x1), (2, .int x2)] [] M
  refine g_aload_n C 0 dX11_shut_0 (q := 1) rfl rfl rfl ?_
  refine g_iload_n C 1 dX11_shut_1 (q := 2) rfl rfl rfl ?_
  refine g_iload_n C 2 dX11_shut_2 (q := 3) rfl rfl rfl ?_
  refine g_iconst C (v := 1) dX11_shut_3 (q := 4) rfl (by decide) ?_
  obtain ⟨p1, hp1, h⟩ := g_bind h
  refine g_callV C (k := 0) (as := [.int x1, .int x2, .int 1]) (st := []) (m_X11_listedByHanging hp1) (g_hR (by decide)) (by decide) (by decide) (gc_0 Y _ _) rfl kM_X11_247 kI_X11_listedByHanging kS_X11_listedByHanging kN_X11 kC_X11_listedByHanging kD_X11_listedByHanging rfl (Nat.le_of_ble_eq_true rfl) dX11_shut_4 (q := 7) rfl ?_
  show g_G 3 X Y 7 [(0, g_r Y 0), (1, .int x1), (2, .int x2)] [.int p1.1] p1.2
  obtain rfl := Option.some.inj h
  exact g_iret C E dX11_shut_7
theorem r_X11_shut {x1 : Int32} {x2 : Int32} {M : g_M} {p : Int32 × g_M} (h : f_X11_shut x1 x2 M = some p) : g_fr [2, 37, 38, 42, 44, 45] [(1, 1), (36, 2), (41, 1), (43, 1)] M p.2 := by
  unfold f_X11_shut at h
  have hf := g_fr.rfl (S := [2, 37, 38, 42, 44, 45]) (T := [(1, 1), (36, 2), (41, 1), (43, 1)]) (M := M)
  obtain ⟨p1, hp1, h⟩ := g_bind h
  have hf := hf.trans ((r_X11_listedByHanging hp1).mono (by decide) (by decide))
  obtain rfl := Option.some.inj h
  exact hf
def f_X11_firstApart_109 (k : Int32 → Int32 → Int32 → Int32 → g_M → Option (Int32 × g_M)) (k127 : Int32 → g_M → Option (Int32 × g_M)) (x1 : Int32) (x2 : Int32) (x4 : Int32) (x5 : Int32) (s0 : Int32) (M : g_M) : Option (Int32 × g_M) :=
  (if s0 = 0 then (k x1 x2 x4 (x5 + 1) M) else ((g_ld M 40 1024 x5).bind fun v5 => (if v5 = x2 then (k x1 x2 x4 (x5 + 1) M) else (k127 x5 M))))
set_option maxRecDepth 100000 in
theorem t_X11_firstApart_109 {l : Launch} {X : g_X} {Y : g_Y} {p : Int32 × g_M} {k : Int32 → Int32 → Int32 → Int32 → g_M → Option (Int32 × g_M)} {k127 : Int32 → g_M → Option (Int32 × g_M)} (C : g_C l (g_rm (5)) RX11 cX11_firstApart 7 X Y) (E : g_E (some .int) X Y (some (.int p.1)) p.2) (ih : ∀ (x1 : Int32) (x2 : Int32) (x4 : Int32) (x5 : Int32) (M : g_M), k x1 x2 x4 x5 M = some p → g_G 7 X Y 73 [(0, g_r Y 0), (1, .int x1), (2, .int x2), (3, g_r Y 39), (4, .int x4), (5, .int x5)] [] M) (hk127 : ∀ (x5 : Int32) (M : g_M), k127 x5 M = some p → g_G 7 X Y 127 [(5, .int x5)] [] M) (x1 : Int32) (x2 : Int32) (x4 : Int32) (x5 : Int32) (s0 : Int32) (M : g_M) (h : f_X11_firstApart_109 k k127 x1 x2 x4 x5 s0 M = some p) : g_G 7 X Y 109 [(0, g_r Y 0), (1, .int x1), (2, .int x2), (3, g_r Y 39), (4, .int x4), (5, .int x5)] [.int s0] M := by
  unfold f_X11_firstApart_109 at h
  refine g_istore C dX11_firstApart_109 (q := 111) rfl (by decide) (lv' := [(6, .int s0), (0, g_r Y 0), (1, .int x1), (2, .int x2), (3, g_r Y 39), (4, .int x4), (5, .int x5)]) rfl ?_
  refine g_iload C 0 dX11_firstApart_111 (q := 113) rfl rfl ?_
  have hif := g_if h
  clear h
  refine g_if_eq C dX11_firstApart_113 (q := 116) (tgt := 130) rfl (by decide) (fun c => ?_) (fun c => ?_)
  · have h := hif.1 c
    clear hif
    refine g_iinc C (k := 6) (v := x5 + 1) dX11_firstApart_130 (q := 133) rfl rfl rfl (by decide) (lv' := [(5, .int (x5 + 1)), (6, .int s0), (0, g_r Y 0), (1, .int x1), (2, .int x2), (3, g_r Y 39), (4, .int x4)]) rfl ?_
    refine g_goto C dX11_firstApart_133 (tgt := 73) (by decide) ?_
    refine g_sub [2, 3, 4, 5, 6, 0] (lv' := [(0, g_r Y 0), (1, .int x1), (2, .int x2), (3, g_r Y 39), (4, .int x4), (5, .int (x5 + 1))]) rfl ?_
    exact ih x1 x2 x4 (x5 + 1) M h
  · have h := hif.2 c
    clear hif
    refine g_aload_n C 4 dX11_firstApart_116 (q := 117) rfl rfl rfl ?_
    refine g_get C (k := 39) (i := 0) (by decide) (gc_39 Y _ _) rfl kU_X1 (by decide) kF_X11_378 rfl dX11_firstApart_117 (q := 120) rfl ?_
    refine g_iload C 6 dX11_firstApart_120 (q := 122) rfl rfl ?_
    obtain ⟨v5, hv5, h⟩ := g_bind h
    refine g_zald C (k := 40) (n := 1024) (by decide) (gc_40 Y _ _) hv5 dX11_firstApart_122 (q := 123) rfl ?_
    refine g_iload_n C 3 dX11_firstApart_123 (q := 124) rfl rfl rfl ?_
    have hif := g_if h
    clear h
    refine g_icmp_eq C dX11_firstApart_124 (q := 127) (tgt := 130) rfl (by decide) (fun c => ?_) (fun c => ?_)
    · have h := hif.1 c
      clear hif
      refine g_iinc C (k := 6) (v := x5 + 1) dX11_firstApart_130 (q := 133) rfl rfl rfl (by decide) (lv' := [(5, .int (x5 + 1)), (6, .int s0), (0, g_r Y 0), (1, .int x1), (2, .int x2), (3, g_r Y 39), (4, .int x4)]) rfl ?_
      refine g_goto C dX11_firstApart_133 (tgt := 73) (by decide) ?_
      refine g_sub [2, 3, 4, 5, 6, 0] (lv' := [(0, g_r Y 0), (1, .int x1), (2, .int x2), (3, g_r Y 39), (4, .int x4), (5, .int (x5 + 1))]) rfl ?_
      exact ih x1 x2 x4 (x5 + 1) M h
    · have h := hif.2 c
      clear hif
      refine g_sub [6] (lv' := [(5, .int x5)]) rfl ?_
      exact hk127 x5 M h
theorem r_X11_firstApart_109 {p : Int32 × g_M} {k : Int32 → Int32 → Int32 → Int32 → g_M → Option (Int32 × g_M)} {k127 : Int32 → g_M → Option (Int32 × g_M)} (ih : ∀ (x1 : Int32) (x2 : Int32) (x4 : Int32) (x5 : Int32) (M : g_M), k x1 x2 x4 x5 M = some p → g_fr [2, 37, 38, 40] [(1, 1), (36, 2), (39, 1), (39, 2)] M p.2) (hk127 : ∀ (x5 : Int32) (M : g_M), k127 x5 M = some p → g_fr [2, 37, 38, 40] [(1, 1), (36, 2), (39, 1), (39, 2)] M p.2) (x1 : Int32) (x2 : Int32) (x4 : Int32) (x5 : Int32) (s0 : Int32) (M : g_M) (h : f_X11_firstApart_109 k k127 x1 x2 x4 x5 s0 M = some p) : g_fr [2, 37, 38, 40] [(1, 1), (36, 2), (39, 1), (39, 2)] M p.2 := by
  unfold f_X11_firstApart_109 at h
  have hf := g_fr.rfl (S := [2, 37, 38, 40]) (T := [(1, 1), (36, 2), (39, 1), (39, 2)]) (M := M)
  rcases g_ifs h with h | h
  · exact hf.trans (ih x1 x2 x4 (x5 + 1) M h)
  · obtain ⟨v5, -, h⟩ := g_bind h
    rcases g_ifs h with h | h
    · exact hf.trans (ih x1 x2 x4 (x5 + 1) M h)
    · exact hf.trans (hk127 x5 M h)
def f_X11_firstApart_108 (k : Int32 → Int32 → Int32 → Int32 → g_M → Option (Int32 × g_M)) (k127 : Int32 → g_M → Option (Int32 × g_M)) (x1 : Int32) (x2 : Int32) (x4 : Int32) (x5 : Int32) (M : g_M) : Option (Int32 × g_M) :=
  f_X11_firstApart_109 k k127 x1 x2 x4 x5 0 M
set_option maxRecDepth 100000 in
theorem t_X11_firstApart_108 {l : Launch} {X : g_X} {Y : g_Y} {p : Int32 × g_M} {k : Int32 → Int32 → Int32 → Int32 → g_M → Option (Int32 × g_M)} {k127 : Int32 → g_M → Option (Int32 × g_M)} (C : g_C l (g_rm (5)) RX11 cX11_firstApart 7 X Y) (E : g_E (some .int) X Y (some (.int p.1)) p.2) (ih : ∀ (x1 : Int32) (x2 : Int32) (x4 : Int32) (x5 : Int32) (M : g_M), k x1 x2 x4 x5 M = some p → g_G 7 X Y 73 [(0, g_r Y 0), (1, .int x1), (2, .int x2), (3, g_r Y 39), (4, .int x4), (5, .int x5)] [] M) (hk127 : ∀ (x5 : Int32) (M : g_M), k127 x5 M = some p → g_G 7 X Y 127 [(5, .int x5)] [] M) (x1 : Int32) (x2 : Int32) (x4 : Int32) (x5 : Int32) (M : g_M) (h : f_X11_firstApart_108 k k127 x1 x2 x4 x5 M = some p) : g_G 7 X Y 108 [(0, g_r Y 0), (1, .int x1), (2, .int x2), (3, g_r Y 39), (4, .int x4), (5, .int x5)] [] M := by
  unfold f_X11_firstApart_108 at h
  refine g_iconst C (v := 0) dX11_firstApart_108 (q := 109) rfl (by decide) ?_
  refine g_sub [0, 1, 2, 3, 4, 5] (lv' := [(0, g_r Y 0), (1, .int x1), (2, .int x2), (3, g_r Y 39), (4, .int x4), (5, .int x5)]) rfl ?_
  exact t_X11_firstApart_109 C E ih hk127 x1 x2 x4 x5 0 M h
theorem r_X11_firstApart_108 {p : Int32 × g_M} {k : Int32 → Int32 → Int32 → Int32 → g_M → Option (Int32 × g_M)} {k127 : Int32 → g_M → Option (Int32 × g_M)} (ih : ∀ (x1 : Int32) (x2 : Int32) (x4 : Int32) (x5 : Int32) (M : g_M), k x1 x2 x4 x5 M = some p → g_fr [2, 37, 38, 40] [(1, 1), (36, 2), (39, 1), (39, 2)] M p.2) (hk127 : ∀ (x5 : Int32) (M : g_M), k127 x5 M = some p → g_fr [2, 37, 38, 40] [(1, 1), (36, 2), (39, 1), (39, 2)] M p.2) (x1 : Int32) (x2 : Int32) (x4 : Int32) (x5 : Int32) (M : g_M) (h : f_X11_firstApart_108 k k127 x1 x2 x4 x5 M = some p) : g_fr [2, 37, 38, 40] [(1, 1), (36, 2), (39, 1), (39, 2)] M p.2 := by
  unfold f_X11_firstApart_108 at h
  have hf := g_fr.rfl (S := [2, 37, 38, 40]) (T := [(1, 1), (36, 2), (39, 1), (39, 2)]) (M := M)
  exact hf.trans (r_X11_firstApart_109 ih hk127 x1 x2 x4 x5 0 M h)
def f_X11_firstApart_109_b (k : Int32 → Int32 → Int32 → Int32 → g_M → Option (Int32 × g_M)) (k127 : Int32 → g_M → Option (Int32 × g_M)) (x1 : Int32) (x2 : Int32) (x4 : Int32) (x5 : Int32) (s0 : Int32) (M : g_M) : Option (Int32 × g_M) :=
  (if s0 = 0 then (k x1 x2 x4 (x5 + 1) M) else ((g_ld M 40 1024 x5).bind fun v7 => (if v7 = x2 then (k x1 x2 x4 (x5 + 1) M) else (k127 x5 M))))
set_option maxRecDepth 100000 in
theorem t_X11_firstApart_109_b {l : Launch} {X : g_X} {Y : g_Y} {p : Int32 × g_M} {k : Int32 → Int32 → Int32 → Int32 → g_M → Option (Int32 × g_M)} {k127 : Int32 → g_M → Option (Int32 × g_M)} (C : g_C l (g_rm (5)) RX11 cX11_firstApart 7 X Y) (E : g_E (some .int) X Y (some (.int p.1)) p.2) (ih : ∀ (x1 : Int32) (x2 : Int32) (x4 : Int32) (x5 : Int32) (M : g_M), k x1 x2 x4 x5 M = some p → g_G 7 X Y 73 [(0, g_r Y 0), (1, .int x1), (2, .int x2), (3, g_r Y 39), (4, .int x4), (5, .int x5)] [] M) (hk127 : ∀ (x5 : Int32) (M : g_M), k127 x5 M = some p → g_G 7 X Y 127 [(5, .int x5)] [] M) (x1 : Int32) (x2 : Int32) (x4 : Int32) (x5 : Int32) (s0 : Int32) (M : g_M) (h : f_X11_firstApart_109_b k k127 x1 x2 x4 x5 s0 M = some p) : g_G 7 X Y 109 [(0, g_r Y 0), (1, .int x1), (2, .int x2), (3, g_r Y 39), (4, .int x4), (5, .int x5)] [.int s0] M := by
  unfold f_X11_firstApart_109_b at h
  refine g_istore C dX11_firstApart_109 (q := 111) rfl (by decide) (lv' := [(6, .int s0), (0, g_r Y 0), (1, .int x1), (2, .int x2), (3, g_r Y 39), (4, .int x4), (5, .int x5)]) rfl ?_
  refine g_iload C 0 dX11_firstApart_111 (q := 113) rfl rfl ?_
  have hif := g_if h
  clear h
  refine g_if_eq C dX11_firstApart_113 (q := 116) (tgt := 130) rfl (by decide) (fun c => ?_) (fun c => ?_)
  · have h := hif.1 c
    clear hif
    refine g_iinc C (k := 6) (v := x5 + 1) dX11_firstApart_130 (q := 133) rfl rfl rfl (by decide) (lv' := [(5, .int (x5 + 1)), (6, .int s0), (0, g_r Y 0), (1, .int x1), (2, .int x2), (3, g_r Y 39), (4, .int x4)]) rfl ?_
    refine g_goto C dX11_firstApart_133 (tgt := 73) (by decide) ?_
    refine g_sub [2, 3, 4, 5, 6, 0] (lv' := [(0, g_r Y 0), (1, .int x1), (2, .int x2), (3, g_r Y 39), (4, .int x4), (5, .int (x5 + 1))]) rfl ?_
    exact ih x1 x2 x4 (x5 + 1) M h
  · have h := hif.2 c
    clear hif
    refine g_aload_n C 4 dX11_firstApart_116 (q := 117) rfl rfl rfl ?_
    refine g_get C (k := 39) (i := 0) (by decide) (gc_39 Y _ _) rfl kU_X1 (by decide) kF_X11_378 rfl dX11_firstApart_117 (q := 120) rfl ?_
    refine g_iload C 6 dX11_firstApart_120 (q := 122) rfl rfl ?_
    obtain ⟨v7, hv7, h⟩ := g_bind h
    refine g_zald C (k := 40) (n := 1024) (by decide) (gc_40 Y _ _) hv7 dX11_firstApart_122 (q := 123) rfl ?_
    refine g_iload_n C 3 dX11_firstApart_123 (q := 124) rfl rfl rfl ?_
    have hif := g_if h
    clear h
    refine g_icmp_eq C dX11_firstApart_124 (q := 127) (tgt := 130) rfl (by decide) (fun c => ?_) (fun c => ?_)
    · have h := hif.1 c
      clear hif
      refine g_iinc C (k := 6) (v := x5 + 1) dX11_firstApart_130 (q := 133) rfl rfl rfl (by decide) (lv' := [(5, .int (x5 + 1)), (6, .int s0), (0, g_r Y 0), (1, .int x1), (2, .int x2), (3, g_r Y 39), (4, .int x4)]) rfl ?_
      refine g_goto C dX11_firstApart_133 (tgt := 73) (by decide) ?_
      refine g_sub [2, 3, 4, 5, 6, 0] (lv' := [(0, g_r Y 0), (1, .int x1), (2, .int x2), (3, g_r Y 39), (4, .int x4), (5, .int (x5 + 1))]) rfl ?_
      exact ih x1 x2 x4 (x5 + 1) M h
    · have h := hif.2 c
      clear hif
      refine g_sub [6] (lv' := [(5, .int x5)]) rfl ?_
      exact hk127 x5 M h
theorem r_X11_firstApart_109_b {p : Int32 × g_M} {k : Int32 → Int32 → Int32 → Int32 → g_M → Option (Int32 × g_M)} {k127 : Int32 → g_M → Option (Int32 × g_M)} (ih : ∀ (x1 : Int32) (x2 : Int32) (x4 : Int32) (x5 : Int32) (M : g_M), k x1 x2 x4 x5 M = some p → g_fr [2, 37, 38, 40] [(1, 1), (36, 2), (39, 1), (39, 2)] M p.2) (hk127 : ∀ (x5 : Int32) (M : g_M), k127 x5 M = some p → g_fr [2, 37, 38, 40] [(1, 1), (36, 2), (39, 1), (39, 2)] M p.2) (x1 : Int32) (x2 : Int32) (x4 : Int32) (x5 : Int32) (s0 : Int32) (M : g_M) (h : f_X11_firstApart_109_b k k127 x1 x2 x4 x5 s0 M = some p) : g_fr [2, 37, 38, 40] [(1, 1), (36, 2), (39, 1), (39, 2)] M p.2 := by
  unfold f_X11_firstApart_109_b at h
  have hf := g_fr.rfl (S := [2, 37, 38, 40]) (T := [(1, 1), (36, 2), (39, 1), (39, 2)]) (M := M)
  rcases g_ifs h with h | h
  · exact hf.trans (ih x1 x2 x4 (x5 + 1) M h)
  · obtain ⟨v7, -, h⟩ := g_bind h
    rcases g_ifs h with h | h
    · exact hf.trans (ih x1 x2 x4 (x5 + 1) M h)
    · exact hf.trans (hk127 x5 M h)
def F_X11_firstApart_73 (k127 : Int32 → g_M → Option (Int32 × g_M)) (k136 : g_M → Option (Int32 × g_M)) (k : Int32 → Int32 → Int32 → Int32 → g_M → Option (Int32 × g_M)) (x1 : Int32) (x2 : Int32) (x4 : Int32) (x5 : Int32) (M : g_M) : Option (Int32 × g_M) :=
  (if x4 < x5 then (k136 M) else ((if (x5 &&& (x4 ^^^ (-1))) = 0 then ((f_X5_isOpen x1 x5 M).bind fun p6 => (if p6 = x2 then (f_X11_firstApart_109_b k k127 x1 x2 x4 x5 1 M) else (f_X11_firstApart_108 k k127 x1 x2 x4 x5 M))) else (f_X11_firstApart_108 k k127 x1 x2 x4 x5 M))))
set_option maxRecDepth 100000 in
theorem t_X11_firstApart_73 {l : Launch} {X : g_X} {Y : g_Y} {p : Int32 × g_M} {k127 : Int32 → g_M → Option (Int32 × g_M)} {k136 : g_M → Option (Int32 × g_M)} (C : g_C l (g_rm (5)) RX11 cX11_firstApart 7 X Y) (E : g_E (some .int) X Y (some (.int p.1)) p.2) (hk127 : ∀ (x5 : Int32) (M : g_M), k127 x5 M = some p → g_G 7 X Y 127 [(5, .int x5)] [] M) (hk136 : ∀ (M : g_M), k136 M = some p → g_G 7 X Y 136 [(0, g_r Y 0)] [] M) (n : Nat) : ∀ (x1 : Int32) (x2 : Int32) (x4 : Int32) (x5 : Int32) (M : g_M), g_lp4 (F_X11_firstApart_73 k127 k136) n x1 x2 x4 x5 M = some p → g_G 7 X Y 73 [(0, g_r Y 0), (1, .int x1), (2, .int x2), (3, g_r Y 39), (4, .int x4), (5, .int x5)] [] M := by
  induction n with
  | zero => intro x1 x2 x4 x5 M h; exact (g_nn h).elim
  | succ n ih =>
    intro x1 x2 x4 x5 M h
    have h : F_X11_firstApart_73 k127 k136 (g_lp4 (F_X11_firstApart_73 k127 k136) n) x1 x2 x4 x5 M = some p := h
    generalize g_lp4 (F_X11_firstApart_73 k127 k136) n = k at h ih
    unfold F_X11_firstApart_73 at h
    refine g_iload C 5 dX11_firstApart_73 (q := 75) rfl rfl ?_
    refine g_iload C 4 dX11_firstApart_75 (q := 77) rfl rfl ?_
    have hif := g_if h
    clear h
    refine g_icmp_gt C dX11_firstApart_77 (q := 80) (tgt := 136) rfl (by decide) (fun c => ?_) (fun c => ?_)
    · have h := hif.1 c
      clear hif
      refine g_sub [0] (lv' := [(0, g_r Y 0)]) rfl ?_
      exact hk136 M h
    · have h := hif.2 c
      clear hif
      refine g_iload C 5 dX11_firstApart_80 (q := 82) rfl rfl ?_
      refine g_iload C 4 dX11_firstApart_82 (q := 84) rfl rfl ?_
      refine g_iconst C (v := (-1)) dX11_firstApart_84 (q := 85) rfl (by decide) ?_
      refine g_ixor C dX11_firstApart_85 (q := 86) rfl ?_
      refine g_iand C dX11_firstApart_86 (q := 87) rfl ?_
      have hif := g_if h
      clear h
      refine g_if_ne C dX11_firstApart_87 (q := 90) (tgt := 108) rfl (by decide) (fun c => ?_) (fun c => ?_)
      · have h := hif.2 c
        clear hif
        refine g_sub [0, 1, 2, 3, 4, 5] (lv' := [(0, g_r Y 0), (1, .int x1), (2, .int x2), (3, g_r Y 39), (4, .int x4), (5, .int x5)]) rfl ?_
        exact t_X11_firstApart_108 C E ih hk127 x1 x2 x4 x5 M h
      · have h := hif.1 c
        clear hif
        refine g_aload_n C 0 dX11_firstApart_90 (q := 91) rfl rfl rfl ?_
        refine g_get C (k := 0) (i := 11) (by decide) (gc_0 Y _ _) rfl kU_X11 (by decide) kF_X11_55 rfl dX11_firstApart_91 (q := 94) rfl ?_
        refine g_iload_n C 1 dX11_firstApart_94 (q := 95) rfl rfl rfl ?_
        refine g_iload C 5 dX11_firstApart_95 (q := 97) rfl rfl ?_
        obtain ⟨p6, hp6, h⟩ := g_bind h
        refine g_callV C (k := 36) (as := [.int x1, .int x5]) (st := []) (m_X5_isOpen hp6) (g_hR (by decide)) (by decide) (by decide) (gc_36 Y _ _) rfl kM_X11_257 kI_X5_isOpen kS_X5_isOpen kN_X5 kC_X5_isOpen kD_X5_isOpen rfl (Nat.le_of_ble_eq_true rfl) dX11_firstApart_97 (q := 100) rfl ?_
        show g_G 7 X Y 100 [(0, g_r Y 0), (1, .int x1), (2, .int x2), (3, g_r Y 39), (4, .int x4), (5, .int x5)] [.int p6] M
        refine g_iload_n C 2 dX11_firstApart_100 (q := 101) rfl rfl rfl ?_
        have hif := g_if h
        clear h
        refine g_icmp_ne C dX11_firstApart_101 (q := 104) (tgt := 108) rfl (by decide) (fun c => ?_) (fun c => ?_)
        · have h := hif.2 c
          clear hif
          refine g_sub [0, 1, 2, 3, 4, 5] (lv' := [(0, g_r Y 0), (1, .int x1), (2, .int x2), (3, g_r Y 39), (4, .int x4), (5, .int x5)]) rfl ?_
          exact t_X11_firstApart_108 C E ih hk127 x1 x2 x4 x5 M h
        · have h := hif.1 c
          clear hif
          refine g_iconst C (v := 1) dX11_firstApart_104 (q := 105) rfl (by decide) ?_
          refine g_goto C dX11_firstApart_105 (tgt := 109) (by decide) ?_
          refine g_sub [0, 1, 2, 3, 4, 5] (lv' := [(0, g_r Y 0), (1, .int x1), (2, .int x2), (3, g_r Y 39), (4, .int x4), (5, .int x5)]) rfl ?_
          exact t_X11_firstApart_109_b C E ih hk127 x1 x2 x4 x5 1 M h
theorem r_X11_firstApart_73 {p : Int32 × g_M} {k127 : Int32 → g_M → Option (Int32 × g_M)} {k136 : g_M → Option (Int32 × g_M)} (hk127 : ∀ (x5 : Int32) (M : g_M), k127 x5 M = some p → g_fr [2, 37, 38, 40] [(1, 1), (36, 2), (39, 1), (39, 2)] M p.2) (hk136 : ∀ (M : g_M), k136 M = some p → g_fr [2, 37, 38, 40] [(1, 1), (36, 2), (39, 1), (39, 2)] M p.2) (n : Nat) : ∀ (x1 : Int32) (x2 : Int32) (x4 : Int32) (x5 : Int32) (M : g_M), g_lp4 (F_X11_firstApart_73 k127 k136) n x1 x2 x4 x5 M = some p → g_fr [2, 37, 38, 40] [(1, 1), (36, 2), (39, 1), (39, 2)] M p.2 := by
  induction n with
  | zero => intro x1 x2 x4 x5 M h; exact (g_nn h).elim
  | succ n ih =>
    intro x1 x2 x4 x5 M h
    have h : F_X11_firstApart_73 k127 k136 (g_lp4 (F_X11_firstApart_73 k127 k136) n) x1 x2 x4 x5 M = some p := h
    generalize g_lp4 (F_X11_firstApart_73 k127 k136) n = k at h ih
    unfold F_X11_firstApart_73 at h
    have hf := g_fr.rfl (S := [2, 37, 38, 40]) (T := [(1, 1), (36, 2), (39, 1), (39, 2)]) (M := M)
    rcases g_ifs h with h | h
    · exact hf.trans (hk136 M h)
    · rcases g_ifs h with h | h
      · obtain ⟨p6, -, h⟩ := g_bind h
        rcases g_ifs h with h | h
        · exact hf.trans (r_X11_firstApart_109_b ih hk127 x1 x2 x4 x5 1 M h)
        · exact hf.trans (r_X11_firstApart_108 ih hk127 x1 x2 x4 x5 M h)
      · exact hf.trans (r_X11_firstApart_108 ih hk127 x1 x2 x4 x5 M h)
def f_X11_firstApart (x1 : Int32) (x2 : Int32) (M : g_M) : Option (Int32 × g_M) :=
  (f_X4_has x1 M).bind fun p1 => (if p1 = 0 then ((f_X2_tell (-1000000001) M).bind fun p10 => some (p10.1, p10.2)) else ((if 0 ≤ (M.1 13 1) then ((f_X11_allowedSets M).bind fun p2 => (f_X5_refresh_36_3_24 p2).bind fun p3 => (f_X0_present p3).bind fun p4 => g_lp4 (F_X11_firstApart_73 (fun (x5 : Int32) (M : g_M) => some (x5, M)) (fun (M : g_M) => (f_X2_tell (-1000000004) M).bind fun p8 => some (p8.1, p8.2))) 20000000 x1 x2 p4 0 p3) else ((f_X2_tell (-1000000005) M).bind fun p9 => some (p9.1, p9.2)))))
set_option maxRecDepth 100000 in
theorem m_X11_firstApart {l : Launch} {Y : g_Y} {x1 : Int32} {x2 : Int32} {M : g_M} {p : Int32 × g_M} (h : f_X11_firstApart x1 x2 M = some p) : g_R l Y (5) yX11_firstApart cX11_firstApart 7 (some .int) [g_r Y 0, .int x1, .int x2] M (some (.int p.1)) p.2 := by
  unfold f_X11_firstApart at h
  refine g_R_of kP_X11 rfl (Nat.le_of_ble_eq_true rfl) (fun X C E => ?_)
  show g_G 7 X Y 0 [(0, g_r Y 0), (1, .int x1), (2, .int x2)] [] M
  refine g_aload_n C 0 dX11_firstApart_0 (q := 1) rfl rfl rfl ?_
  refine g_get C (k := 0) (i := 3) (by decide) (gc_0 Y _ _) rfl kU_X11 (by decide) kF_X11_33 rfl dX11_firstApart_1 (q := 4) rfl ?_
  refine g_iload_n C 1 dX11_firstApart_4 (q := 5) rfl rfl rfl ?_
  obtain ⟨p1, hp1, h⟩ := g_bind h
  refine g_callV C (k := 24) (as := [.int x1]) (st := []) (m_X4_has hp1) (g_hR (by decide)) (by decide) (by decide) (gc_24 Y _ _) rfl kM_X11_191 kI_X4_has kS_X4_has kN_X4 kC_X4_has kD_X4_has rfl (Nat.le_of_ble_eq_true rfl) dX11_firstApart_5 (q := 8) rfl ?_
  show g_G 7 X Y 8 [(0, g_r Y 0), (1, .int x1), (2, .int x2)] [.int p1] M
  have hif := g_if h
  clear h
  refine g_if_ne C dX11_firstApart_8 (q := 11) (tgt := 21) rfl (by decide) (fun c => ?_) (fun c => ?_)
  · have h := hif.2 c
    clear hif
    refine g_aload_n C 0 dX11_firstApart_21 (q := 22) rfl rfl rfl ?_
    refine g_get C (k := 0) (i := 2) (by decide) (gc_0 Y _ _) rfl kU_X11 (by decide) kF_X11_26 rfl dX11_firstApart_22 (q := 25) rfl ?_
    refine g_get C (k := 13) (i := 1) (by decide) (gc_13 Y _ _) rfl kU_X10 (by decide) kF_X11_166 rfl dX11_firstApart_25 (q := 28) rfl ?_
    have hif := g_if h
    clear h
    refine g_if_ge C dX11_firstApart_28 (q := 31) (tgt := 41) rfl (by decide) (fun c => ?_) (fun c => ?_)
    · have h := hif.1 c
      clear hif
      refine g_aload_n C 0 dX11_firstApart_41 (q := 42) rfl rfl rfl ?_
      obtain ⟨p2, hp2, h⟩ := g_bind h
      refine g_callV C (k := 0) (as := []) (st := []) (m_X11_allowedSets hp2) (g_hR (by decide)) (by decide) (by decide) (gc_0 Y _ _) rfl kM_X11_170 kI_X11_allowedSets kS_X11_allowedSets kN_X11 kC_X11_allowedSets kD_X11_allowedSets rfl (Nat.le_of_ble_eq_true rfl) dX11_firstApart_42 (q := 45) rfl ?_
      show g_G 7 X Y 45 [(0, g_r Y 0), (1, .int x1), (2, .int x2)] [g_r Y 39] p2
      refine g_astore_n C dX11_firstApart_45 (q := 46) rfl rfl (by decide) (lv' := [(3, g_r Y 39), (0, g_r Y 0), (1, .int x1), (2, .int x2)]) rfl ?_
      refine g_aload_n C 1 dX11_firstApart_46 (q := 47) rfl rfl rfl ?_
      refine g_get C (k := 0) (i := 11) (by decide) (gc_0 Y _ _) rfl kU_X11 (by decide) kF_X11_55 rfl dX11_firstApart_47 (q := 50) rfl ?_
      refine g_aload_n C 1 dX11_firstApart_50 (q := 51) rfl rfl rfl ?_
      refine g_get C (k := 0) (i := 1) (by decide) (gc_0 Y _ _) rfl kU_X11 (by decide) kF_X11_19 rfl dX11_firstApart_51 (q := 54) rfl ?_
      refine g_aload_n C 1 dX11_firstApart_54 (q := 55) rfl rfl rfl ?_
      refine g_get C (k := 0) (i := 3) (by decide) (gc_0 Y _ _) rfl kU_X11 (by decide) kF_X11_33 rfl dX11_firstApart_55 (q := 58) rfl ?_
      obtain ⟨p3, hp3, h⟩ := g_bind h
      refine g_callV C (k := 36) (as := [g_r Y 3, g_r Y 24]) (st := []) (m_X5_refresh_36_3_24 hp3) (g_hR (by decide)) (by decide) (by decide) (gc_36 Y _ _) rfl kM_X11_253 kI_X5_refresh kS_X5_refresh kN_X5 kC_X5_refresh kD_X5_refresh rfl (Nat.le_of_ble_eq_true rfl) dX11_firstApart_58 (q := 61) rfl ?_
      show g_G 7 X Y 61 [(3, g_r Y 39), (0, g_r Y 0), (1, .int x1), (2, .int x2)] [] p3
      refine g_aload_n C 1 dX11_firstApart_61 (q := 62) rfl rfl rfl ?_
      refine g_get C (k := 0) (i := 1) (by decide) (gc_0 Y _ _) rfl kU_X11 (by decide) kF_X11_19 rfl dX11_firstApart_62 (q := 65) rfl ?_
      obtain ⟨p4, hp4, h⟩ := g_bind h
      refine g_callV C (k := 3) (as := []) (st := []) (m_X0_present hp4) (g_hR (by decide)) (by decide) (by decide) (gc_3 Y _ _) rfl kM_X11_159 kI_X0_present kS_X0_present kN_X0 kC_X0_present kD_X0_present rfl (Nat.le_of_ble_eq_true rfl) dX11_firstApart_65 (q := 68) rfl ?_
      show g_G 7 X Y 68 [(3, g_r Y 39), (0, g_r Y 0), (1, .int x1), (2, .int x2)] [.int p4] p3
      refine g_istore C dX11_firstApart_68 (q := 70) rfl (by decide) (lv' := [(4, .int p4), (3, g_r Y 39), (0, g_r Y 0), (1, .int x1), (2, .int x2)]) rfl ?_
      refine g_iconst C (v := 0) dX11_firstApart_70 (q := 71) rfl (by decide) ?_
      refine g_istore C dX11_firstApart_71 (q := 73) rfl (by decide) (lv' := [(5, .int 0), (4, .int p4), (3, g_r Y 39), (0, g_r Y 0), (1, .int x1), (2, .int x2)]) rfl ?_
      refine g_sub [3, 4, 5, 2, 1, 0] (lv' := [(0, g_r Y 0), (1, .int x1), (2, .int x2), (3, g_r Y 39), (4, .int p4), (5, .int 0)]) rfl ?_
      refine t_X11_firstApart_73 C E ?_ ?_ 20000000 x1 x2 p4 0 p3 h
      · intro x5 M h
        try dsimp only at h
        refine g_iload C 0 dX11_firstApart_127 (q := 129) rfl rfl ?_
        obtain rfl := Option.some.inj h
        exact g_iret C E dX11_firstApart_129
      · intro M h
        try dsimp only at h
        refine g_aload_n C 0 dX11_firstApart_136 (q := 137) rfl rfl rfl ?_
        refine g_get C (k := 0) (i := 0) (by decide) (gc_0 Y _ _) rfl kU_X11 (by decide) kF_X11_12 rfl dX11_firstApart_137 (q := 140) rfl ?_
        refine g_ldc C (v := (-1000000004)) kK_X11_177 dX11_firstApart_140 (q := 142) rfl ?_
        obtain ⟨p8, hp8, h⟩ := g_bind h
        refine g_callV C (k := 1) (as := [.int (-1000000004)]) (st := []) (m_X2_tell hp8) (g_hR (by decide)) (by decide) (by decide) (gc_1 Y _ _) rfl kM_X11_91 kI_X2_tell kS_X2_tell kN_X2 kC_X2_tell kD_X2_tell rfl (Nat.le_of_ble_eq_true rfl) dX11_firstApart_142 (q := 145) rfl ?_
        show g_G 7 X Y 145 [(0, g_r Y 0)] [.int p8.1] p8.2
        obtain rfl := Option.some.inj h
        exact g_iret C E dX11_firstApart_145
    · have h := hif.2 c
      clear hif
      refine g_aload_n C 0 dX11_firstApart_31 (q := 32) rfl rfl rfl ?_
      refine g_get C (k := 0) (i := 0) (by decide) (gc_0 Y _ _) rfl kU_X11 (by decide) kF_X11_12 rfl dX11_firstApart_32 (q := 35) rfl ?_
      refine g_ldc C (v := (-1000000005)) kK_X11_169 dX11_firstApart_35 (q := 37) rfl ?_
      obtain ⟨p9, hp9, h⟩ := g_bind h
      refine g_callV C (k := 1) (as := [.int (-1000000005)]) (st := []) (m_X2_tell hp9) (g_hR (by decide)) (by decide) (by decide) (gc_1 Y _ _) rfl kM_X11_91 kI_X2_tell kS_X2_tell kN_X2 kC_X2_tell kD_X2_tell rfl (Nat.le_of_ble_eq_true rfl) dX11_firstApart_37 (q := 40) rfl ?_
      show g_G 7 X Y 40 [(0, g_r Y 0), (1, .int x1), (2, .int x2)] [.int p9.1] p9.2
      obtain rfl := Option.some.inj h
      exact g_iret C E dX11_firstApart_40
  · have h := hif.1 c
    clear hif
    refine g_aload_n C 0 dX11_firstApart_11 (q := 12) rfl rfl rfl ?_
    refine g_get C (k := 0) (i := 0) (by decide) (gc_0 Y _ _) rfl kU_X11 (by decide) kF_X11_12 rfl dX11_firstApart_12 (q := 15) rfl ?_
    refine g_ldc C (v := (-1000000001)) kK_X11_90 dX11_firstApart_15 (q := 17) rfl ?_
    obtain ⟨p10, hp10, h⟩ := g_bind h
    refine g_callV C (k := 1) (as := [.int (-1000000001)]) (st := []) (m_X2_tell hp10) (g_hR (by decide)) (by decide) (by decide) (gc_1 Y _ _) rfl kM_X11_91 kI_X2_tell kS_X2_tell kN_X2 kC_X2_tell kD_X2_tell rfl (Nat.le_of_ble_eq_true rfl) dX11_firstApart_17 (q := 20) rfl ?_
    show g_G 7 X Y 20 [(0, g_r Y 0), (1, .int x1), (2, .int x2)] [.int p10.1] p10.2
    obtain rfl := Option.some.inj h
    exact g_iret C E dX11_firstApart_20
theorem r_X11_firstApart {x1 : Int32} {x2 : Int32} {M : g_M} {p : Int32 × g_M} (h : f_X11_firstApart x1 x2 M = some p) : g_fr [2, 37, 38, 40] [(1, 1), (36, 2), (39, 1), (39, 2)] M p.2 := by
  unfold f_X11_firstApart at h
  have hf := g_fr.rfl (S := [2, 37, 38, 40]) (T := [(1, 1), (36, 2), (39, 1), (39, 2)]) (M := M)
  obtain ⟨p1, -, h⟩ := g_bind h
  rcases g_ifs h with h | h
  · obtain ⟨p10, hp10, h⟩ := g_bind h
    have hf := hf.trans ((r_X2_tell hp10).mono (by decide) (by decide))
    obtain rfl := Option.some.inj h
    exact hf
  · rcases g_ifs h with h | h
    · obtain ⟨p2, hp2, h⟩ := g_bind h
      have hf := hf.trans ((r_X11_allowedSets hp2).mono (by decide) (by decide))
      obtain ⟨p3, hp3, h⟩ := g_bind h
      have hf := hf.trans ((r_X5_refresh_36_3_24 hp3).mono (by decide) (by decide))
      obtain ⟨p4, -, h⟩ := g_bind h
      refine hf.trans (r_X11_firstApart_73 ?_ ?_ 20000000 x1 x2 p4 0 p3 h)
      · intro x5 M h
        try dsimp only at h
        have hf := g_fr.rfl (S := [2, 37, 38, 40]) (T := [(1, 1), (36, 2), (39, 1), (39, 2)]) (M := M)
        obtain rfl := Option.some.inj h
        exact hf
      · intro M h
        try dsimp only at h
        have hf := g_fr.rfl (S := [2, 37, 38, 40]) (T := [(1, 1), (36, 2), (39, 1), (39, 2)]) (M := M)
        obtain ⟨p8, hp8, h⟩ := g_bind h
        have hf := hf.trans ((r_X2_tell hp8).mono (by decide) (by decide))
        obtain rfl := Option.some.inj h
        exact hf
    · obtain ⟨p9, hp9, h⟩ := g_bind h
      have hf := hf.trans ((r_X2_tell hp9).mono (by decide) (by decide))
      obtain rfl := Option.some.inj h
      exact hf
def f_X11_wrongly (x1 : Int32) (M : g_M) : Option (Int32 × g_M) :=
  (f_X11_firstApart x1 1 M).bind fun p1 => some (p1.1, p1.2)
set_option maxRecDepth 100000 in
theorem m_X11_wrongly {l : Launch} {Y : g_Y} {x1 : Int32} {M : g_M} {p : Int32 × g_M} (h : f_X11_wrongly x1 M = some p) : g_R l Y (6) yX11_wrongly cX11_wrongly 2 (some .int) [g_r Y 0, .int x1] M (some (.int p.1)) p.2 := by
  unfold f_X11_wrongly at h
  refine g_R_of kP_X11 rfl (Nat.le_of_ble_eq_true rfl) (fun X C E => ?_)
  show g_G 2 X Y 0 [(0, g_r Y 0), (1, .int x1)] [] M
  refine g_aload_n C 0 dX11_wrongly_0 (q := 1) rfl rfl rfl ?_
  refine g_iload_n C 1 dX11_wrongly_1 (q := 2) rfl rfl rfl ?_
  refine g_iconst C (v := 1) dX11_wrongly_2 (q := 3) rfl (by decide) ?_
  obtain ⟨p1, hp1, h⟩ := g_bind h
  refine g_callV C (k := 0) (as := [.int x1, .int 1]) (st := []) (m_X11_firstApart hp1) (g_hR (by decide)) (by decide) (by decide) (gc_0 Y _ _) rfl kM_X11_250 kI_X11_firstApart kS_X11_firstApart kN_X11 kC_X11_firstApart kD_X11_firstApart rfl (Nat.le_of_ble_eq_true rfl) dX11_wrongly_3 (q := 6) rfl ?_
  show g_G 2 X Y 6 [(0, g_r Y 0), (1, .int x1)] [.int p1.1] p1.2
  obtain rfl := Option.some.inj h
  exact g_iret C E dX11_wrongly_6
theorem r_X11_wrongly {x1 : Int32} {M : g_M} {p : Int32 × g_M} (h : f_X11_wrongly x1 M = some p) : g_fr [2, 37, 38, 40] [(1, 1), (36, 2), (39, 1), (39, 2)] M p.2 := by
  unfold f_X11_wrongly at h
  have hf := g_fr.rfl (S := [2, 37, 38, 40]) (T := [(1, 1), (36, 2), (39, 1), (39, 2)]) (M := M)
  obtain ⟨p1, hp1, h⟩ := g_bind h
  have hf := hf.trans ((r_X11_firstApart hp1).mono (by decide) (by decide))
  obtain rfl := Option.some.inj h
  exact hf
def f_X11_lacks (x1 : Int32) (M : g_M) : Option (Int32 × g_M) :=
  (f_X11_firstApart x1 0 M).bind fun p1 => some (p1.1, p1.2)
set_option maxRecDepth 100000 in
theorem m_X11_lacks {l : Launch} {Y : g_Y} {x1 : Int32} {M : g_M} {p : Int32 × g_M} (h : f_X11_lacks x1 M = some p) : g_R l Y (6) yX11_lacks cX11_lacks 2 (some .int) [g_r Y 0, .int x1] M (some (.int p.1)) p.2 := by
  unfold f_X11_lacks at h
  refine g_R_of kP_X11 rfl (Nat.le_of_ble_eq_true rfl) (fun X C E => ?_)
  show g_G 2 X Y 0 [(0, g_r Y 0), (1, .int x1)] [] M
  refine g_aload_n C 0 dX11_lacks_0 (q := 1) rfl rfl rfl ?_
  refine g_iload_n C 1 dX11_lacks_1 (q := 2) rfl rfl rfl ?_
  refine g_iconst C (v := 0) dX11_lacks_2 (q := 3) rfl (by decide) ?_
  obtain ⟨p1, hp1, h⟩ := g_bind h
  refine g_callV C (k := 0) (as := [.int x1, .int 0]) (st := []) (m_X11_firstApart hp1) (g_hR (by decide)) (by decide) (by decide) (gc_0 Y _ _) rfl kM_X11_250 kI_X11_firstApart kS_X11_firstApart kN_X11 kC_X11_firstApart kD_X11_firstApart rfl (Nat.le_of_ble_eq_true rfl) dX11_lacks_3 (q := 6) rfl ?_
  show g_G 2 X Y 6 [(0, g_r Y 0), (1, .int x1)] [.int p1.1] p1.2
  obtain rfl := Option.some.inj h
  exact g_iret C E dX11_lacks_6
theorem r_X11_lacks {x1 : Int32} {M : g_M} {p : Int32 × g_M} (h : f_X11_lacks x1 M = some p) : g_fr [2, 37, 38, 40] [(1, 1), (36, 2), (39, 1), (39, 2)] M p.2 := by
  unfold f_X11_lacks at h
  have hf := g_fr.rfl (S := [2, 37, 38, 40]) (T := [(1, 1), (36, 2), (39, 1), (39, 2)]) (M := M)
  obtain ⟨p1, hp1, h⟩ := g_bind h
  have hf := hf.trans ((r_X11_firstApart hp1).mono (by decide) (by decide))
  obtain rfl := Option.some.inj h
  exact hf
def f_X11_same_22 (M : g_M) : Option (Int32 × g_M) :=
  (f_X2_tell (-1000000001) M).bind fun p2 => some (p2.1, p2.2)
set_option maxRecDepth 100000 in
theorem t_X11_same_22 {l : Launch} {X : g_X} {Y : g_Y} {p : Int32 × g_M} (C : g_C l (g_rm (5)) RX11 cX11_same 5 X Y) (E : g_E (some .int) X Y (some (.int p.1)) p.2) (M : g_M) (h : f_X11_same_22 M = some p) : g_G 5 X Y 22 [(0, g_r Y 0)] [] M := by
  unfold f_X11_same_22 at h
  refine g_aload_n C 0 dX11_same_22 (q := 23) rfl rfl rfl ?_
  refine g_get C (k := 0) (i := 0) (by decide) (gc_0 Y _ _) rfl kU_X11 (by decide) kF_X11_12 rfl dX11_same_23 (q := 26) rfl ?_
  refine g_ldc C (v := (-1000000001)) kK_X11_90 dX11_same_26 (q := 28) rfl ?_
  obtain ⟨p2, hp2, h⟩ := g_bind h
  refine g_callV C (k := 1) (as := [.int (-1000000001)]) (st := []) (m_X2_tell hp2) (g_hR (by decide)) (by decide) (by decide) (gc_1 Y _ _) rfl kM_X11_91 kI_X2_tell kS_X2_tell kN_X2 kC_X2_tell kD_X2_tell rfl (Nat.le_of_ble_eq_true rfl) dX11_same_28 (q := 31) rfl ?_
  show g_G 5 X Y 31 [(0, g_r Y 0)] [.int p2.1] p2.2
  obtain rfl := Option.some.inj h
  exact g_iret C E dX11_same_31
theorem r_X11_same_22 {p : Int32 × g_M} (M : g_M) (h : f_X11_same_22 M = some p) : g_fr [2, 37, 38] [(1, 1), (36, 2)] M p.2 := by
  unfold f_X11_same_22 at h
  have hf := g_fr.rfl (S := [2, 37, 38]) (T := [(1, 1), (36, 2)]) (M := M)
  obtain ⟨p2, hp2, h⟩ := g_bind h
  have hf := hf.trans ((r_X2_tell hp2).mono (by decide) (by decide))
  obtain rfl := Option.some.inj h
  exact hf
def F_X11_same_58 (k96 : g_M → Option (Int32 × g_M)) (k104 : g_M → Option (Int32 × g_M)) (k : Int32 → Int32 → Int32 → Int32 → g_M → Option (Int32 × g_M)) (x1 : Int32) (x2 : Int32) (x3 : Int32) (x4 : Int32) (M : g_M) : Option (Int32 × g_M) :=
  (if x3 < x4 then (k104 M) else ((if (x4 &&& (x3 ^^^ (-1))) = 0 then ((f_X5_isOpen x1 x4 M).bind fun p6 => (f_X5_isOpen x2 x4 M).bind fun p7 => (if p6 = p7 then (k x1 x2 x3 (x4 + 1) M) else (k96 M))) else (k x1 x2 x3 (x4 + 1) M))))
set_option maxRecDepth 100000 in
theorem t_X11_same_58 {l : Launch} {X : g_X} {Y : g_Y} {p : Int32 × g_M} {k96 : g_M → Option (Int32 × g_M)} {k104 : g_M → Option (Int32 × g_M)} (C : g_C l (g_rm (5)) RX11 cX11_same 5 X Y) (E : g_E (some .int) X Y (some (.int p.1)) p.2) (hk96 : ∀ (M : g_M), k96 M = some p → g_G 5 X Y 96 [] [] M) (hk104 : ∀ (M : g_M), k104 M = some p → g_G 5 X Y 104 [] [] M) (n : Nat) : ∀ (x1 : Int32) (x2 : Int32) (x3 : Int32) (x4 : Int32) (M : g_M), g_lp4 (F_X11_same_58 k96 k104) n x1 x2 x3 x4 M = some p → g_G 5 X Y 58 [(0, g_r Y 0), (1, .int x1), (2, .int x2), (3, .int x3), (4, .int x4)] [] M := by
  induction n with
  | zero => intro x1 x2 x3 x4 M h; exact (g_nn h).elim
  | succ n ih =>
    intro x1 x2 x3 x4 M h
    have h : F_X11_same_58 k96 k104 (g_lp4 (F_X11_same_58 k96 k104) n) x1 x2 x3 x4 M = some p := h
    generalize g_lp4 (F_X11_same_58 k96 k104) n = k at h ih
    unfold F_X11_same_58 at h
    refine g_iload C 4 dX11_same_58 (q := 60) rfl rfl ?_
    refine g_iload_n C 3 dX11_same_60 (q := 61) rfl rfl rfl ?_
    have hif := g_if h
    clear h
    refine g_icmp_gt C dX11_same_61 (q := 64) (tgt := 104) rfl (by decide) (fun c => ?_) (fun c => ?_)
    · have h := hif.1 c
      clear hif
      refine g_sub [] (lv' := []) rfl ?_
      exact hk104 M h
    · have h := hif.2 c
      clear hif
      refine g_iload C 4 dX11_same_64 (q := 66) rfl rfl ?_
      refine g_iload_n C 3 dX11_same_66 (q := 67) rfl rfl rfl ?_
      refine g_iconst C (v := (-1)) dX11_same_67 (q := 68) rfl (by decide) ?_
      refine g_ixor C dX11_same_68 (q := 69) rfl ?_
      refine g_iand C dX11_same_69 (q := 70) rfl ?_
      have hif := g_if h
      clear h
      refine g_if_ne C dX11_same_70 (q := 73) (tgt := 98) rfl (by decide) (fun c => ?_) (fun c => ?_)
      · have h := hif.2 c
        clear hif
        refine g_iinc C (k := 4) (v := x4 + 1) dX11_same_98 (q := 101) rfl rfl rfl (by decide) (lv' := [(4, .int (x4 + 1)), (0, g_r Y 0), (1, .int x1), (2, .int x2), (3, .int x3)]) rfl ?_
        refine g_goto C dX11_same_101 (tgt := 58) (by decide) ?_
        refine g_sub [1, 2, 3, 4, 0] (lv' := [(0, g_r Y 0), (1, .int x1), (2, .int x2), (3, .int x3), (4, .int (x4 + 1))]) rfl ?_
        exact ih x1 x2 x3 (x4 + 1) M h
      · have h := hif.1 c
        clear hif
        refine g_aload_n C 0 dX11_same_73 (q := 74) rfl rfl rfl ?_
        refine g_get C (k := 0) (i := 11) (by decide) (gc_0 Y _ _) rfl kU_X11 (by decide) kF_X11_55 rfl dX11_same_74 (q := 77) rfl ?_
        refine g_iload_n C 1 dX11_same_77 (q := 78) rfl rfl rfl ?_
        refine g_iload C 4 dX11_same_78 (q := 80) rfl rfl ?_
        obtain ⟨p6, hp6, h⟩ := g_bind h
        refine g_callV C (k := 36) (as := [.int x1, .int x4]) (st := []) (m_X5_isOpen hp6) (g_hR (by decide)) (by decide) (by decide) (gc_36 Y _ _) rfl kM_X11_257 kI_X5_isOpen kS_X5_isOpen kN_X5 kC_X5_isOpen kD_X5_isOpen rfl (Nat.le_of_ble_eq_true rfl) dX11_same_80 (q := 83) rfl ?_
        show g_G 5 X Y 83 [(0, g_r Y 0), (1, .int x1), (2, .int x2), (3, .int x3), (4, .int x4)] [.int p6] M
        refine g_aload_n C 0 dX11_same_83 (q := 84) rfl rfl rfl ?_
        refine g_get C (k := 0) (i := 11) (by decide) (gc_0 Y _ _) rfl kU_X11 (by decide) kF_X11_55 rfl dX11_same_84 (q := 87) rfl ?_
        refine g_iload_n C 2 dX11_same_87 (q := 88) rfl rfl rfl ?_
        refine g_iload C 4 dX11_same_88 (q := 90) rfl rfl ?_
        obtain ⟨p7, hp7, h⟩ := g_bind h
        refine g_callV C (k := 36) (as := [.int x2, .int x4]) (st := [.int p6]) (m_X5_isOpen hp7) (g_hR (by decide)) (by decide) (by decide) (gc_36 Y _ _) rfl kM_X11_257 kI_X5_isOpen kS_X5_isOpen kN_X5 kC_X5_isOpen kD_X5_isOpen rfl (Nat.le_of_ble_eq_true rfl) dX11_same_90 (q := 93) rfl ?_
        show g_G 5 X Y 93 [(0, g_r Y 0), (1, .int x1), (2, .int x2), (3, .int x3), (4, .int x4)] [.int p7, .int p6] M
        have hif := g_if h
        clear h
        refine g_icmp_eq C dX11_same_93 (q := 96) (tgt := 98) rfl (by decide) (fun c => ?_) (fun c => ?_)
        · have h := hif.1 c
          clear hif
          refine g_iinc C (k := 4) (v := x4 + 1) dX11_same_98 (q := 101) rfl rfl rfl (by decide) (lv' := [(4, .int (x4 + 1)), (0, g_r Y 0), (1, .int x1), (2, .int x2), (3, .int x3)]) rfl ?_
          refine g_goto C dX11_same_101 (tgt := 58) (by decide) ?_
          refine g_sub [1, 2, 3, 4, 0] (lv' := [(0, g_r Y 0), (1, .int x1), (2, .int x2), (3, .int x3), (4, .int (x4 + 1))]) rfl ?_
          exact ih x1 x2 x3 (x4 + 1) M h
        · have h := hif.2 c
          clear hif
          refine g_sub [] (lv' := []) rfl ?_
          exact hk96 M h
theorem r_X11_same_58 {p : Int32 × g_M} {k96 : g_M → Option (Int32 × g_M)} {k104 : g_M → Option (Int32 × g_M)} (hk96 : ∀ (M : g_M), k96 M = some p → g_fr [2, 37, 38] [(1, 1), (36, 2)] M p.2) (hk104 : ∀ (M : g_M), k104 M = some p → g_fr [2, 37, 38] [(1, 1), (36, 2)] M p.2) (n : Nat) : ∀ (x1 : Int32) (x2 : Int32) (x3 : Int32) (x4 : Int32) (M : g_M), g_lp4 (F_X11_same_58 k96 k104) n x1 x2 x3 x4 M = some p → g_fr [2, 37, 38] [(1, 1), (36, 2)] M p.2 := by
  induction n with
  | zero => intro x1 x2 x3 x4 M h; exact (g_nn h).elim
  | succ n ih =>
    intro x1 x2 x3 x4 M h
    have h : F_X11_same_58 k96 k104 (g_lp4 (F_X11_same_58 k96 k104) n) x1 x2 x3 x4 M = some p := h
    generalize g_lp4 (F_X11_same_58 k96 k104) n = k at h ih
    unfold F_X11_same_58 at h
    have hf := g_fr.rfl (S := [2, 37, 38]) (T := [(1, 1), (36, 2)]) (M := M)
    rcases g_ifs h with h | h
    · exact hf.trans (hk104 M h)
    · rcases g_ifs h with h | h
      · obtain ⟨p6, -, h⟩ := g_bind h
        obtain ⟨p7, -, h⟩ := g_bind h
        rcases g_ifs h with h | h
        · exact hf.trans (ih x1 x2 x3 (x4 + 1) M h)
        · exact hf.trans (hk96 M h)
      · exact hf.trans (ih x1 x2 x3 (x4 + 1) M h)
def f_X11_same (x1 : Int32) (x2 : Int32) (M : g_M) : Option (Int32 × g_M) :=
  (f_X4_has x1 M).bind fun p1 => (if p1 = 0 then (f_X11_same_22 M) else ((f_X4_has x2 M).bind fun p3 => (if p3 = 0 then (f_X11_same_22 M) else ((f_X5_refresh_36_3_24 M).bind fun p4 => (f_X0_present p4).bind fun p5 => g_lp4 (F_X11_same_58 (fun (M : g_M) => some (0, M)) (fun (M : g_M) => some (1, M))) 20000000 x1 x2 p5 0 p4))))
set_option maxRecDepth 100000 in
theorem m_X11_same {l : Launch} {Y : g_Y} {x1 : Int32} {x2 : Int32} {M : g_M} {p : Int32 × g_M} (h : f_X11_same x1 x2 M = some p) : g_R l Y (5) yX11_same cX11_same 5 (some .int) [g_r Y 0, .int x1, .int x2] M (some (.int p.1)) p.2 := by
  unfold f_X11_same at h
  refine g_R_of kP_X11 rfl (Nat.le_of_ble_eq_true rfl) (fun X C E => ?_)
  show g_G 5 X Y 0 [(0, g_r Y 0), (1, .int x1), (2, .int x2)] [] M
  refine g_aload_n C 0 dX11_same_0 (q := 1) rfl rfl rfl ?_
  refine g_get C (k := 0) (i := 3) (by decide) (gc_0 Y _ _) rfl kU_X11 (by decide) kF_X11_33 rfl dX11_same_1 (q := 4) rfl ?_
  refine g_iload_n C 1 dX11_same_4 (q := 5) rfl rfl rfl ?_
  obtain ⟨p1, hp1, h⟩ := g_bind h
  refine g_callV C (k := 24) (as := [.int x1]) (st := []) (m_X4_has hp1) (g_hR (by decide)) (by decide) (by decide) (gc_24 Y _ _) rfl kM_X11_191 kI_X4_has kS_X4_has kN_X4 kC_X4_has kD_X4_has rfl (Nat.le_of_ble_eq_true rfl) dX11_same_5 (q := 8) rfl ?_
  show g_G 5 X Y 8 [(0, g_r Y 0), (1, .int x1), (2, .int x2)] [.int p1] M
  have hif := g_if h
  clear h
  refine g_if_eq C dX11_same_8 (q := 11) (tgt := 22) rfl (by decide) (fun c => ?_) (fun c => ?_)
  · have h := hif.1 c
    clear hif
    refine g_sub [0] (lv' := [(0, g_r Y 0)]) rfl ?_
    exact t_X11_same_22 C E M h
  · have h := hif.2 c
    clear hif
    refine g_aload_n C 0 dX11_same_11 (q := 12) rfl rfl rfl ?_
    refine g_get C (k := 0) (i := 3) (by decide) (gc_0 Y _ _) rfl kU_X11 (by decide) kF_X11_33 rfl dX11_same_12 (q := 15) rfl ?_
    refine g_iload_n C 2 dX11_same_15 (q := 16) rfl rfl rfl ?_
    obtain ⟨p3, hp3, h⟩ := g_bind h
    refine g_callV C (k := 24) (as := [.int x2]) (st := []) (m_X4_has hp3) (g_hR (by decide)) (by decide) (by decide) (gc_24 Y _ _) rfl kM_X11_191 kI_X4_has kS_X4_has kN_X4 kC_X4_has kD_X4_has rfl (Nat.le_of_ble_eq_true rfl) dX11_same_16 (q := 19) rfl ?_
    show g_G 5 X Y 19 [(0, g_r Y 0), (1, .int x1), (2, .int x2)] [.int p3] M
    have hif := g_if h
    clear h
    refine g_if_ne C dX11_same_19 (q := 22) (tgt := 32) rfl (by decide) (fun c => ?_) (fun c => ?_)
    · have h := hif.2 c
      clear hif
      refine g_aload_n C 0 dX11_same_32 (q := 33) rfl rfl rfl ?_
      refine g_get C (k := 0) (i := 11) (by decide) (gc_0 Y _ _) rfl kU_X11 (by decide) kF_X11_55 rfl dX11_same_33 (q := 36) rfl ?_
      refine g_aload_n C 0 dX11_same_36 (q := 37) rfl rfl rfl ?_
      refine g_get C (k := 0) (i := 1) (by decide) (gc_0 Y _ _) rfl kU_X11 (by decide) kF_X11_19 rfl dX11_same_37 (q := 40) rfl ?_
      refine g_aload_n C 0 dX11_same_40 (q := 41) rfl rfl rfl ?_
      refine g_get C (k := 0) (i := 3) (by decide) (gc_0 Y _ _) rfl kU_X11 (by decide) kF_X11_33 rfl dX11_same_41 (q := 44) rfl ?_
      obtain ⟨p4, hp4, h⟩ := g_bind h
      refine g_callV C (k := 36) (as := [g_r Y 3, g_r Y 24]) (st := []) (m_X5_refresh_36_3_24 hp4) (g_hR (by decide)) (by decide) (by decide) (gc_36 Y _ _) rfl kM_X11_253 kI_X5_refresh kS_X5_refresh kN_X5 kC_X5_refresh kD_X5_refresh rfl (Nat.le_of_ble_eq_true rfl) dX11_same_44 (q := 47) rfl ?_
      show g_G 5 X Y 47 [(0, g_r Y 0), (1, .int x1), (2, .int x2)] [] p4
      refine g_aload_n C 0 dX11_same_47 (q := 48) rfl rfl rfl ?_
      refine g_get C (k := 0) (i := 1) (by decide) (gc_0 Y _ _) rfl kU_X11 (by decide) kF_X11_19 rfl dX11_same_48 (q := 51) rfl ?_
      obtain ⟨p5, hp5, h⟩ := g_bind h
      refine g_callV C (k := 3) (as := []) (st := []) (m_X0_present hp5) (g_hR (by decide)) (by decide) (by decide) (gc_3 Y _ _) rfl kM_X11_159 kI_X0_present kS_X0_present kN_X0 kC_X0_present kD_X0_present rfl (Nat.le_of_ble_eq_true rfl) dX11_same_51 (q := 54) rfl ?_
      show g_G 5 X Y 54 [(0, g_r Y 0), (1, .int x1), (2, .int x2)] [.int p5] p4
      refine g_istore_n C dX11_same_54 (q := 55) rfl rfl (by decide) (lv' := [(3, .int p5), (0, g_r Y 0), (1, .int x1), (2, .int x2)]) rfl ?_
      refine g_iconst C (v := 0) dX11_same_55 (q := 56) rfl (by decide) ?_
      refine g_istore C dX11_same_56 (q := 58) rfl (by decide) (lv' := [(4, .int 0), (3, .int p5), (0, g_r Y 0), (1, .int x1), (2, .int x2)]) rfl ?_
      refine g_sub [2, 3, 4, 1, 0] (lv' := [(0, g_r Y 0), (1, .int x1), (2, .int x2), (3, .int p5), (4, .int 0)]) rfl ?_
      refine t_X11_same_58 C E ?_ ?_ 20000000 x1 x2 p5 0 p4 h
      · intro M h
        try dsimp only at h
        refine g_iconst C (v := 0) dX11_same_96 (q := 97) rfl (by decide) ?_
        obtain rfl := Option.some.inj h
        exact g_iret C E dX11_same_97
      · intro M h
        try dsimp only at h
        refine g_iconst C (v := 1) dX11_same_104 (q := 105) rfl (by decide) ?_
        obtain rfl := Option.some.inj h
        exact g_iret C E dX11_same_105
    · have h := hif.1 c
      clear hif
      refine g_sub [0] (lv' := [(0, g_r Y 0)]) rfl ?_
      exact t_X11_same_22 C E M h
theorem r_X11_same {x1 : Int32} {x2 : Int32} {M : g_M} {p : Int32 × g_M} (h : f_X11_same x1 x2 M = some p) : g_fr [2, 37, 38] [(1, 1), (36, 2)] M p.2 := by
  unfold f_X11_same at h
  have hf := g_fr.rfl (S := [2, 37, 38]) (T := [(1, 1), (36, 2)]) (M := M)
  obtain ⟨p1, -, h⟩ := g_bind h
  rcases g_ifs h with h | h
  · exact hf.trans (r_X11_same_22 M h)
  · obtain ⟨p3, -, h⟩ := g_bind h
    rcases g_ifs h with h | h
    · exact hf.trans (r_X11_same_22 M h)
    · obtain ⟨p4, hp4, h⟩ := g_bind h
      have hf := hf.trans ((r_X5_refresh_36_3_24 hp4).mono (by decide) (by decide))
      obtain ⟨p5, -, h⟩ := g_bind h
      refine hf.trans (r_X11_same_58 ?_ ?_ 20000000 x1 x2 p5 0 p4 h)
      · intro M h
        try dsimp only at h
        have hf := g_fr.rfl (S := [2, 37, 38]) (T := [(1, 1), (36, 2)]) (M := M)
        obtain rfl := Option.some.inj h
        exact hf
      · intro M h
        try dsimp only at h
        have hf := g_fr.rfl (S := [2, 37, 38]) (T := [(1, 1), (36, 2)]) (M := M)
        obtain rfl := Option.some.inj h
        exact hf
def f_X11_bears_36 (M : g_M) : Option (Int32 × g_M) :=
  (f_X2_tell (-1000000001) M).bind fun p4 => some (p4.1, p4.2)
set_option maxRecDepth 100000 in
theorem t_X11_bears_36 {l : Launch} {X : g_X} {Y : g_Y} {p : Int32 × g_M} (C : g_C l (g_rm (5)) RX11 cX11_bears 7 X Y) (E : g_E (some .int) X Y (some (.int p.1)) p.2) (M : g_M) (h : f_X11_bears_36 M = some p) : g_G 7 X Y 36 [(0, g_r Y 0)] [] M := by
  unfold f_X11_bears_36 at h
  refine g_aload_n C 0 dX11_bears_36 (q := 37) rfl rfl rfl ?_
  refine g_get C (k := 0) (i := 0) (by decide) (gc_0 Y _ _) rfl kU_X11 (by decide) kF_X11_12 rfl dX11_bears_37 (q := 40) rfl ?_
  refine g_ldc C (v := (-1000000001)) kK_X11_90 dX11_bears_40 (q := 42) rfl ?_
  obtain ⟨p4, hp4, h⟩ := g_bind h
  refine g_callV C (k := 1) (as := [.int (-1000000001)]) (st := []) (m_X2_tell hp4) (g_hR (by decide)) (by decide) (by decide) (gc_1 Y _ _) rfl kM_X11_91 kI_X2_tell kS_X2_tell kN_X2 kC_X2_tell kD_X2_tell rfl (Nat.le_of_ble_eq_true rfl) dX11_bears_42 (q := 45) rfl ?_
  show g_G 7 X Y 45 [(0, g_r Y 0)] [.int p4.1] p4.2
  obtain rfl := Option.some.inj h
  exact g_iret C E dX11_bears_45
theorem r_X11_bears_36 {p : Int32 × g_M} (M : g_M) (h : f_X11_bears_36 M = some p) : g_fr [2, 37, 38] [(1, 1), (36, 2)] M p.2 := by
  unfold f_X11_bears_36 at h
  have hf := g_fr.rfl (S := [2, 37, 38]) (T := [(1, 1), (36, 2)]) (M := M)
  obtain ⟨p4, hp4, h⟩ := g_bind h
  have hf := hf.trans ((r_X2_tell hp4).mono (by decide) (by decide))
  obtain rfl := Option.some.inj h
  exact hf
def f_X11_bears_94 (k : Int32 → Int32 → Int32 → Int32 → g_M → Option (Int32 × g_M)) (k114 : g_M → Option (Int32 × g_M)) (x1 : Int32) (x3 : Int32) (x4 : Int32) (x5 : Int32) (s0 : Int32) (M : g_M) : Option (Int32 × g_M) :=
  (if s0 = 0 then (k x1 x3 x4 (x5 + 1) M) else ((f_X5_isOpen x1 x5 M).bind fun p6 => (if p6 = 0 then (k114 M) else (k x1 x3 x4 (x5 + 1) M))))
set_option maxRecDepth 100000 in
theorem t_X11_bears_94 {l : Launch} {X : g_X} {Y : g_Y} {p : Int32 × g_M} {k : Int32 → Int32 → Int32 → Int32 → g_M → Option (Int32 × g_M)} {k114 : g_M → Option (Int32 × g_M)} (C : g_C l (g_rm (5)) RX11 cX11_bears 7 X Y) (E : g_E (some .int) X Y (some (.int p.1)) p.2) (ih : ∀ (x1 : Int32) (x3 : Int32) (x4 : Int32) (x5 : Int32) (M : g_M), k x1 x3 x4 x5 M = some p → g_G 7 X Y 64 [(0, g_r Y 0), (1, .int x1), (3, .int x3), (4, .int x4), (5, .int x5)] [] M) (hk114 : ∀ (M : g_M), k114 M = some p → g_G 7 X Y 114 [] [] M) (x1 : Int32) (x3 : Int32) (x4 : Int32) (x5 : Int32) (s0 : Int32) (M : g_M) (h : f_X11_bears_94 k k114 x1 x3 x4 x5 s0 M = some p) : g_G 7 X Y 94 [(0, g_r Y 0), (1, .int x1), (3, .int x3), (4, .int x4), (5, .int x5)] [.int s0] M := by
  unfold f_X11_bears_94 at h
  refine g_istore C dX11_bears_94 (q := 96) rfl (by decide) (lv' := [(6, .int s0), (0, g_r Y 0), (1, .int x1), (3, .int x3), (4, .int x4), (5, .int x5)]) rfl ?_
  refine g_iload C 0 dX11_bears_96 (q := 98) rfl rfl ?_
  have hif := g_if h
  clear h
  refine g_if_eq C dX11_bears_98 (q := 101) (tgt := 116) rfl (by decide) (fun c => ?_) (fun c => ?_)
  · have h := hif.1 c
    clear hif
    refine g_iinc C (k := 5) (v := x5 + 1) dX11_bears_116 (q := 119) rfl rfl rfl (by decide) (lv' := [(5, .int (x5 + 1)), (6, .int s0), (0, g_r Y 0), (1, .int x1), (3, .int x3), (4, .int x4)]) rfl ?_
    refine g_goto C dX11_bears_119 (tgt := 64) (by decide) ?_
    refine g_sub [2, 3, 4, 5, 0] (lv' := [(0, g_r Y 0), (1, .int x1), (3, .int x3), (4, .int x4), (5, .int (x5 + 1))]) rfl ?_
    exact ih x1 x3 x4 (x5 + 1) M h
  · have h := hif.2 c
    clear hif
    refine g_aload_n C 1 dX11_bears_101 (q := 102) rfl rfl rfl ?_
    refine g_get C (k := 0) (i := 11) (by decide) (gc_0 Y _ _) rfl kU_X11 (by decide) kF_X11_55 rfl dX11_bears_102 (q := 105) rfl ?_
    refine g_iload_n C 2 dX11_bears_105 (q := 106) rfl rfl rfl ?_
    refine g_iload C 5 dX11_bears_106 (q := 108) rfl rfl ?_
    obtain ⟨p6, hp6, h⟩ := g_bind h
    refine g_callV C (k := 36) (as := [.int x1, .int x5]) (st := []) (m_X5_isOpen hp6) (g_hR (by decide)) (by decide) (by decide) (gc_36 Y _ _) rfl kM_X11_257 kI_X5_isOpen kS_X5_isOpen kN_X5 kC_X5_isOpen kD_X5_isOpen rfl (Nat.le_of_ble_eq_true rfl) dX11_bears_108 (q := 111) rfl ?_
    show g_G 7 X Y 111 [(6, .int s0), (0, g_r Y 0), (1, .int x1), (3, .int x3), (4, .int x4), (5, .int x5)] [.int p6] M
    have hif := g_if h
    clear h
    refine g_if_ne C dX11_bears_111 (q := 114) (tgt := 116) rfl (by decide) (fun c => ?_) (fun c => ?_)
    · have h := hif.2 c
      clear hif
      refine g_iinc C (k := 5) (v := x5 + 1) dX11_bears_116 (q := 119) rfl rfl rfl (by decide) (lv' := [(5, .int (x5 + 1)), (6, .int s0), (0, g_r Y 0), (1, .int x1), (3, .int x3), (4, .int x4)]) rfl ?_
      refine g_goto C dX11_bears_119 (tgt := 64) (by decide) ?_
      refine g_sub [2, 3, 4, 5, 0] (lv' := [(0, g_r Y 0), (1, .int x1), (3, .int x3), (4, .int x4), (5, .int (x5 + 1))]) rfl ?_
      exact ih x1 x3 x4 (x5 + 1) M h
    · have h := hif.1 c
      clear hif
      refine g_sub [] (lv' := []) rfl ?_
      exact hk114 M h
theorem r_X11_bears_94 {p : Int32 × g_M} {k : Int32 → Int32 → Int32 → Int32 → g_M → Option (Int32 × g_M)} {k114 : g_M → Option (Int32 × g_M)} (ih : ∀ (x1 : Int32) (x3 : Int32) (x4 : Int32) (x5 : Int32) (M : g_M), k x1 x3 x4 x5 M = some p → g_fr [2, 37, 38] [(1, 1), (36, 2)] M p.2) (hk114 : ∀ (M : g_M), k114 M = some p → g_fr [2, 37, 38] [(1, 1), (36, 2)] M p.2) (x1 : Int32) (x3 : Int32) (x4 : Int32) (x5 : Int32) (s0 : Int32) (M : g_M) (h : f_X11_bears_94 k k114 x1 x3 x4 x5 s0 M = some p) : g_fr [2, 37, 38] [(1, 1), (36, 2)] M p.2 := by
  unfold f_X11_bears_94 at h
  have hf := g_fr.rfl (S := [2, 37, 38]) (T := [(1, 1), (36, 2)]) (M := M)
  rcases g_ifs h with h | h
  · exact hf.trans (ih x1 x3 x4 (x5 + 1) M h)
  · obtain ⟨p6, -, h⟩ := g_bind h
    rcases g_ifs h with h | h
    · exact hf.trans (hk114 M h)
    · exact hf.trans (ih x1 x3 x4 (x5 + 1) M h)
def f_X11_bears_93 (k : Int32 → Int32 → Int32 → Int32 → g_M → Option (Int32 × g_M)) (k114 : g_M → Option (Int32 × g_M)) (x1 : Int32) (x3 : Int32) (x4 : Int32) (x5 : Int32) (M : g_M) : Option (Int32 × g_M) :=
  f_X11_bears_94 k k114 x1 x3 x4 x5 0 M
set_option maxRecDepth 100000 in
theorem t_X11_bears_93 {l : Launch} {X : g_X} {Y : g_Y} {p : Int32 × g_M} {k : Int32 → Int32 → Int32 → Int32 → g_M → Option (Int32 × g_M)} {k114 : g_M → Option (Int32 × g_M)} (C : g_C l (g_rm (5)) RX11 cX11_bears 7 X Y) (E : g_E (some .int) X Y (some (.int p.1)) p.2) (ih : ∀ (x1 : Int32) (x3 : Int32) (x4 : Int32) (x5 : Int32) (M : g_M), k x1 x3 x4 x5 M = some p → g_G 7 X Y 64 [(0, g_r Y 0), (1, .int x1), (3, .int x3), (4, .int x4), (5, .int x5)] [] M) (hk114 : ∀ (M : g_M), k114 M = some p → g_G 7 X Y 114 [] [] M) (x1 : Int32) (x3 : Int32) (x4 : Int32) (x5 : Int32) (M : g_M) (h : f_X11_bears_93 k k114 x1 x3 x4 x5 M = some p) : g_G 7 X Y 93 [(0, g_r Y 0), (1, .int x1), (3, .int x3), (4, .int x4), (5, .int x5)] [] M := by
  unfold f_X11_bears_93 at h
  refine g_iconst C (v := 0) dX11_bears_93 (q := 94) rfl (by decide) ?_
  refine g_sub [0, 1, 2, 3, 4] (lv' := [(0, g_r Y 0), (1, .int x1), (3, .int x3), (4, .int x4), (5, .int x5)]) rfl ?_
  exact t_X11_bears_94 C E ih hk114 x1 x3 x4 x5 0 M h
theorem r_X11_bears_93 {p : Int32 × g_M} {k : Int32 → Int32 → Int32 → Int32 → g_M → Option (Int32 × g_M)} {k114 : g_M → Option (Int32 × g_M)} (ih : ∀ (x1 : Int32) (x3 : Int32) (x4 : Int32) (x5 : Int32) (M : g_M), k x1 x3 x4 x5 M = some p → g_fr [2, 37, 38] [(1, 1), (36, 2)] M p.2) (hk114 : ∀ (M : g_M), k114 M = some p → g_fr [2, 37, 38] [(1, 1), (36, 2)] M p.2) (x1 : Int32) (x3 : Int32) (x4 : Int32) (x5 : Int32) (M : g_M) (h : f_X11_bears_93 k k114 x1 x3 x4 x5 M = some p) : g_fr [2, 37, 38] [(1, 1), (36, 2)] M p.2 := by
  unfold f_X11_bears_93 at h
  have hf := g_fr.rfl (S := [2, 37, 38]) (T := [(1, 1), (36, 2)]) (M := M)
  exact hf.trans (r_X11_bears_94 ih hk114 x1 x3 x4 x5 0 M h)
def f_X11_bears_94_b (k : Int32 → Int32 → Int32 → Int32 → g_M → Option (Int32 × g_M)) (k114 : g_M → Option (Int32 × g_M)) (x1 : Int32) (x3 : Int32) (x4 : Int32) (x5 : Int32) (s0 : Int32) (M : g_M) : Option (Int32 × g_M) :=
  (if s0 = 0 then (k x1 x3 x4 (x5 + 1) M) else ((f_X5_isOpen x1 x5 M).bind fun p8 => (if p8 = 0 then (k114 M) else (k x1 x3 x4 (x5 + 1) M))))
set_option maxRecDepth 100000 in
theorem t_X11_bears_94_b {l : Launch} {X : g_X} {Y : g_Y} {p : Int32 × g_M} {k : Int32 → Int32 → Int32 → Int32 → g_M → Option (Int32 × g_M)} {k114 : g_M → Option (Int32 × g_M)} (C : g_C l (g_rm (5)) RX11 cX11_bears 7 X Y) (E : g_E (some .int) X Y (some (.int p.1)) p.2) (ih : ∀ (x1 : Int32) (x3 : Int32) (x4 : Int32) (x5 : Int32) (M : g_M), k x1 x3 x4 x5 M = some p → g_G 7 X Y 64 [(0, g_r Y 0), (1, .int x1), (3, .int x3), (4, .int x4), (5, .int x5)] [] M) (hk114 : ∀ (M : g_M), k114 M = some p → g_G 7 X Y 114 [] [] M) (x1 : Int32) (x3 : Int32) (x4 : Int32) (x5 : Int32) (s0 : Int32) (M : g_M) (h : f_X11_bears_94_b k k114 x1 x3 x4 x5 s0 M = some p) : g_G 7 X Y 94 [(0, g_r Y 0), (1, .int x1), (3, .int x3), (4, .int x4), (5, .int x5)] [.int s0] M := by
  unfold f_X11_bears_94_b at h
  refine g_istore C dX11_bears_94 (q := 96) rfl (by decide) (lv' := [(6, .int s0), (0, g_r Y 0), (1, .int x1), (3, .int x3), (4, .int x4), (5, .int x5)]) rfl ?_
  refine g_iload C 0 dX11_bears_96 (q := 98) rfl rfl ?_
  have hif := g_if h
  clear h
  refine g_if_eq C dX11_bears_98 (q := 101) (tgt := 116) rfl (by decide) (fun c => ?_) (fun c => ?_)
  · have h := hif.1 c
    clear hif
    refine g_iinc C (k := 5) (v := x5 + 1) dX11_bears_116 (q := 119) rfl rfl rfl (by decide) (lv' := [(5, .int (x5 + 1)), (6, .int s0), (0, g_r Y 0), (1, .int x1), (3, .int x3), (4, .int x4)]) rfl ?_
    refine g_goto C dX11_bears_119 (tgt := 64) (by decide) ?_
    refine g_sub [2, 3, 4, 5, 0] (lv' := [(0, g_r Y 0), (1, .int x1), (3, .int x3), (4, .int x4), (5, .int (x5 + 1))]) rfl ?_
    exact ih x1 x3 x4 (x5 + 1) M h
  · have h := hif.2 c
    clear hif
    refine g_aload_n C 1 dX11_bears_101 (q := 102) rfl rfl rfl ?_
    refine g_get C (k := 0) (i := 11) (by decide) (gc_0 Y _ _) rfl kU_X11 (by decide) kF_X11_55 rfl dX11_bears_102 (q := 105) rfl ?_
    refine g_iload_n C 2 dX11_bears_105 (q := 106) rfl rfl rfl ?_
    refine g_iload C 5 dX11_bears_106 (q := 108) rfl rfl ?_
    obtain ⟨p8, hp8, h⟩ := g_bind h
    refine g_callV C (k := 36) (as := [.int x1, .int x5]) (st := []) (m_X5_isOpen hp8) (g_hR (by decide)) (by decide) (by decide) (gc_36 Y _ _) rfl kM_X11_257 kI_X5_isOpen kS_X5_isOpen kN_X5 kC_X5_isOpen kD_X5_isOpen rfl (Nat.le_of_ble_eq_true rfl) dX11_bears_108 (q := 111) rfl ?_
    show g_G 7 X Y 111 [(6, .int s0), (0, g_r Y 0), (1, .int x1), (3, .int x3), (4, .int x4), (5, .int x5)] [.int p8] M
    have hif := g_if h
    clear h
    refine g_if_ne C dX11_bears_111 (q := 114) (tgt := 116) rfl (by decide) (fun c => ?_) (fun c => ?_)
    · have h := hif.2 c
      clear hif
      refine g_iinc C (k := 5) (v := x5 + 1) dX11_bears_116 (q := 119) rfl rfl rfl (by decide) (lv' := [(5, .int (x5 + 1)), (6, .int s0), (0, g_r Y 0), (1, .int x1), (3, .int x3), (4, .int x4)]) rfl ?_
      refine g_goto C dX11_bears_119 (tgt := 64) (by decide) ?_
      refine g_sub [2, 3, 4, 5, 0] (lv' := [(0, g_r Y 0), (1, .int x1), (3, .int x3), (4, .int x4), (5, .int (x5 + 1))]) rfl ?_
      exact ih x1 x3 x4 (x5 + 1) M h
    · have h := hif.1 c
      clear hif
      refine g_sub [] (lv' := []) rfl ?_
      exact hk114 M h
theorem r_X11_bears_94_b {p : Int32 × g_M} {k : Int32 → Int32 → Int32 → Int32 → g_M → Option (Int32 × g_M)} {k114 : g_M → Option (Int32 × g_M)} (ih : ∀ (x1 : Int32) (x3 : Int32) (x4 : Int32) (x5 : Int32) (M : g_M), k x1 x3 x4 x5 M = some p → g_fr [2, 37, 38] [(1, 1), (36, 2)] M p.2) (hk114 : ∀ (M : g_M), k114 M = some p → g_fr [2, 37, 38] [(1, 1), (36, 2)] M p.2) (x1 : Int32) (x3 : Int32) (x4 : Int32) (x5 : Int32) (s0 : Int32) (M : g_M) (h : f_X11_bears_94_b k k114 x1 x3 x4 x5 s0 M = some p) : g_fr [2, 37, 38] [(1, 1), (36, 2)] M p.2 := by
  unfold f_X11_bears_94_b at h
  have hf := g_fr.rfl (S := [2, 37, 38]) (T := [(1, 1), (36, 2)]) (M := M)
  rcases g_ifs h with h | h
  · exact hf.trans (ih x1 x3 x4 (x5 + 1) M h)
  · obtain ⟨p8, -, h⟩ := g_bind h
    rcases g_ifs h with h | h
    · exact hf.trans (hk114 M h)
    · exact hf.trans (ih x1 x3 x4 (x5 + 1) M h)
def F_X11_bears_64 (k114 : g_M → Option (Int32 × g_M)) (k122 : g_M → Option (Int32 × g_M)) (k : Int32 → Int32 → Int32 → Int32 → g_M → Option (Int32 × g_M)) (x1 : Int32) (x3 : Int32) (x4 : Int32) (x5 : Int32) (M : g_M) : Option (Int32 × g_M) :=
  (if x3 < x5 then (k122 M) else ((if (x5 &&& (x3 ^^^ (-1))) = 0 then ((f_J6_bitCount_0f7a4 x5 M).bind fun p7 => (if p7 = x4 then (f_X11_bears_94_b k k114 x1 x3 x4 x5 1 M) else (f_X11_bears_93 k k114 x1 x3 x4 x5 M))) else (f_X11_bears_93 k k114 x1 x3 x4 x5 M))))
set_option maxRecDepth 100000 in
theorem t_X11_bears_64 {l : Launch} {X : g_X} {Y : g_Y} {p : Int32 × g_M} {k114 : g_M → Option (Int32 × g_M)} {k122 : g_M → Option (Int32 × g_M)} (C : g_C l (g_rm (5)) RX11 cX11_bears 7 X Y) (E : g_E (some .int) X Y (some (.int p.1)) p.2) (hk114 : ∀ (M : g_M), k114 M = some p → g_G 7 X Y 114 [] [] M) (hk122 : ∀ (M : g_M), k122 M = some p → g_G 7 X Y 122 [] [] M) (n : Nat) : ∀ (x1 : Int32) (x3 : Int32) (x4 : Int32) (x5 : Int32) (M : g_M), g_lp4 (F_X11_bears_64 k114 k122) n x1 x3 x4 x5 M = some p → g_G 7 X Y 64 [(0, g_r Y 0), (1, .int x1), (3, .int x3), (4, .int x4), (5, .int x5)] [] M := by
  induction n with
  | zero => intro x1 x3 x4 x5 M h; exact (g_nn h).elim
  | succ n ih =>
    intro x1 x3 x4 x5 M h
    have h : F_X11_bears_64 k114 k122 (g_lp4 (F_X11_bears_64 k114 k122) n) x1 x3 x4 x5 M = some p := h
    generalize g_lp4 (F_X11_bears_64 k114 k122) n = k at h ih
    unfold F_X11_bears_64 at h
    refine g_iload C 4 dX11_bears_64 (q := 66) rfl rfl ?_
    refine g_iload_n C 2 dX11_bears_66 (q := 67) rfl rfl rfl ?_
    have hif := g_if h
    clear h
    refine g_icmp_gt C dX11_bears_67 (q := 70) (tgt := 122) rfl (by decide) (fun c => ?_) (fun c => ?_)
    · have h := hif.1 c
      clear hif
      refine g_sub [] (lv' := []) rfl ?_
      exact hk122 M h
    · have h := hif.2 c
      clear hif
      refine g_iload C 4 dX11_bears_70 (q := 72) rfl rfl ?_
      refine g_iload_n C 2 dX11_bears_72 (q := 73) rfl rfl rfl ?_
      refine g_iconst C (v := (-1)) dX11_bears_73 (q := 74) rfl (by decide) ?_
      refine g_ixor C dX11_bears_74 (q := 75) rfl ?_
      refine g_iand C dX11_bears_75 (q := 76) rfl ?_
      have hif := g_if h
      clear h
      refine g_if_ne C dX11_bears_76 (q := 79) (tgt := 93) rfl (by decide) (fun c => ?_) (fun c => ?_)
      · have h := hif.2 c
        clear hif
        refine g_sub [0, 1, 2, 3, 4] (lv' := [(0, g_r Y 0), (1, .int x1), (3, .int x3), (4, .int x4), (5, .int x5)]) rfl ?_
        exact t_X11_bears_93 C E ih hk114 x1 x3 x4 x5 M h
      · have h := hif.1 c
        clear hif
        refine g_iload C 4 dX11_bears_79 (q := 81) rfl rfl ?_
        obtain ⟨p7, hp7, h⟩ := g_bind h
        refine g_callS C (as := [.int x5]) (st := []) (m_J6_bitCount_0f7a4 hp7) (g_hR (by decide)) (by decide) kM_X11_117 kT_J6_bitCount_0f7a4 kN_J6 kC_J6_bitCount_0f7a4 kD_J6_bitCount_0f7a4 rfl (Nat.le_of_ble_eq_true rfl) dX11_bears_81 (q := 84) rfl ?_
        show g_G 7 X Y 84 [(0, g_r Y 0), (1, .int x1), (3, .int x3), (4, .int x4), (5, .int x5)] [.int p7] M
        refine g_iload C 3 dX11_bears_84 (q := 86) rfl rfl ?_
        have hif := g_if h
        clear h
        refine g_icmp_ne C dX11_bears_86 (q := 89) (tgt := 93) rfl (by decide) (fun c => ?_) (fun c => ?_)
        · have h := hif.2 c
          clear hif
          refine g_sub [0, 1, 2, 3, 4] (lv' := [(0, g_r Y 0), (1, .int x1), (3, .int x3), (4, .int x4), (5, .int x5)]) rfl ?_
          exact t_X11_bears_93 C E ih hk114 x1 x3 x4 x5 M h
        · have h := hif.1 c
          clear hif
          refine g_iconst C (v := 1) dX11_bears_89 (q := 90) rfl (by decide) ?_
          refine g_goto C dX11_bears_90 (tgt := 94) (by decide) ?_
          refine g_sub [0, 1, 2, 3, 4] (lv' := [(0, g_r Y 0), (1, .int x1), (3, .int x3), (4, .int x4), (5, .int x5)]) rfl ?_
          exact t_X11_bears_94_b C E ih hk114 x1 x3 x4 x5 1 M h
theorem r_X11_bears_64 {p : Int32 × g_M} {k114 : g_M → Option (Int32 × g_M)} {k122 : g_M → Option (Int32 × g_M)} (hk114 : ∀ (M : g_M), k114 M = some p → g_fr [2, 37, 38] [(1, 1), (36, 2)] M p.2) (hk122 : ∀ (M : g_M), k122 M = some p → g_fr [2, 37, 38] [(1, 1), (36, 2)] M p.2) (n : Nat) : ∀ (x1 : Int32) (x3 : Int32) (x4 : Int32) (x5 : Int32) (M : g_M), g_lp4 (F_X11_bears_64 k114 k122) n x1 x3 x4 x5 M = some p → g_fr [2, 37, 38] [(1, 1), (36, 2)] M p.2 := by
  induction n with
  | zero => intro x1 x3 x4 x5 M h; exact (g_nn h).elim
  | succ n ih =>
    intro x1 x3 x4 x5 M h
    have h : F_X11_bears_64 k114 k122 (g_lp4 (F_X11_bears_64 k114 k122) n) x1 x3 x4 x5 M = some p := h
    generalize g_lp4 (F_X11_bears_64 k114 k122) n = k at h ih
    unfold F_X11_bears_64 at h
    have hf := g_fr.rfl (S := [2, 37, 38]) (T := [(1, 1), (36, 2)]) (M := M)
    rcases g_ifs h with h | h
    · exact hf.trans (hk122 M h)
    · rcases g_ifs h with h | h
      · obtain ⟨p7, -, h⟩ := g_bind h
        rcases g_ifs h with h | h
        · exact hf.trans (r_X11_bears_94_b ih hk114 x1 x3 x4 x5 1 M h)
        · exact hf.trans (r_X11_bears_93 ih hk114 x1 x3 x4 x5 M h)
      · exact hf.trans (r_X11_bears_93 ih hk114 x1 x3 x4 x5 M h)
def f_X11_bears (x1 : Int32) (x2 : Int32) (M : g_M) : Option (Int32 × g_M) :=
  (f_X0_present M).bind fun p1 => (f_J6_bitCount_0f7a4 p1 M).bind fun p2 => (f_X4_has x1 M).bind fun p3 => (if p3 = 0 then (f_X11_bears_36 M) else ((if x2 < 0 then (f_X11_bears_36 M) else ((if 0 ≤ (p2 - x2) then ((f_X5_refresh_36_3_24 M).bind fun p5 => g_lp4 (F_X11_bears_64 (fun (M : g_M) => some (0, M)) (fun (M : g_M) => some (1, M))) 20000000 x1 p1 (p2 - x2) 0 p5) else (f_X11_bears_36 M))))))
set_option maxRecDepth 100000 in
theorem m_X11_bears {l : Launch} {Y : g_Y} {x1 : Int32} {x2 : Int32} {M : g_M} {p : Int32 × g_M} (h : f_X11_bears x1 x2 M = some p) : g_R l Y (5) yX11_bears cX11_bears 7 (some .int) [g_r Y 0, .int x1, .int x2] M (some (.int p.1)) p.2 := by
  unfold f_X11_bears at h
  refine g_R_of kP_X11 rfl (Nat.le_of_ble_eq_true rfl) (fun X C E => ?_)
  show g_G 7 X Y 0 [(0, g_r Y 0), (1, .int x1), (2, .int x2)] [] M
  refine g_aload_n C 0 dX11_bears_0 (q := 1) rfl rfl rfl ?_
  refine g_get C (k := 0) (i := 1) (by decide) (gc_0 Y _ _) rfl kU_X11 (by decide) kF_X11_19 rfl dX11_bears_1 (q := 4) rfl ?_
  obtain ⟨p1, hp1, h⟩ := g_bind h
  refine g_callV C (k := 3) (as := []) (st := []) (m_X0_present hp1) (g_hR (by decide)) (by decide) (by decide) (gc_3 Y _ _) rfl kM_X11_159 kI_X0_present kS_X0_present kN_X0 kC_X0_present kD_X0_present rfl (Nat.le_of_ble_eq_true rfl) dX11_bears_4 (q := 7) rfl ?_
  show g_G 7 X Y 7 [(0, g_r Y 0), (1, .int x1), (2, .int x2)] [.int p1] M
  refine g_istore_n C dX11_bears_7 (q := 8) rfl rfl (by decide) (lv' := [(3, .int p1), (0, g_r Y 0), (1, .int x1), (2, .int x2)]) rfl ?_
  refine g_iload_n C 0 dX11_bears_8 (q := 9) rfl rfl rfl ?_
  obtain ⟨p2, hp2, h⟩ := g_bind h
  refine g_callS C (as := [.int p1]) (st := []) (m_J6_bitCount_0f7a4 hp2) (g_hR (by decide)) (by decide) kM_X11_117 kT_J6_bitCount_0f7a4 kN_J6 kC_J6_bitCount_0f7a4 kD_J6_bitCount_0f7a4 rfl (Nat.le_of_ble_eq_true rfl) dX11_bears_9 (q := 12) rfl ?_
  show g_G 7 X Y 12 [(3, .int p1), (0, g_r Y 0), (1, .int x1), (2, .int x2)] [.int p2] M
  refine g_iload_n C 3 dX11_bears_12 (q := 13) rfl rfl rfl ?_
  refine g_isub C dX11_bears_13 (q := 14) rfl ?_
  refine g_istore C dX11_bears_14 (q := 16) rfl (by decide) (lv' := [(4, .int (p2 - x2)), (3, .int p1), (0, g_r Y 0), (1, .int x1), (2, .int x2)]) rfl ?_
  refine g_aload_n C 2 dX11_bears_16 (q := 17) rfl rfl rfl ?_
  refine g_get C (k := 0) (i := 3) (by decide) (gc_0 Y _ _) rfl kU_X11 (by decide) kF_X11_33 rfl dX11_bears_17 (q := 20) rfl ?_
  refine g_iload_n C 3 dX11_bears_20 (q := 21) rfl rfl rfl ?_
  obtain ⟨p3, hp3, h⟩ := g_bind h
  refine g_callV C (k := 24) (as := [.int x1]) (st := []) (m_X4_has hp3) (g_hR (by decide)) (by decide) (by decide) (gc_24 Y _ _) rfl kM_X11_191 kI_X4_has kS_X4_has kN_X4 kC_X4_has kD_X4_has rfl (Nat.le_of_ble_eq_true rfl) dX11_bears_21 (q := 24) rfl ?_
  show g_G 7 X Y 24 [(4, .int (p2 - x2)), (3, .int p1), (0, g_r Y 0), (1, .int x1), (2, .int x2)] [.int p3] M
  have hif := g_if h
  clear h
  refine g_if_eq C dX11_bears_24 (q := 27) (tgt := 36) rfl (by decide) (fun c => ?_) (fun c => ?_)
  · have h := hif.1 c
    clear hif
    refine g_sub [2] (lv' := [(0, g_r Y 0)]) rfl ?_
    exact t_X11_bears_36 C E M h
  · have h := hif.2 c
    clear hif
    refine g_iload_n C 4 dX11_bears_27 (q := 28) rfl rfl rfl ?_
    have hif := g_if h
    clear h
    refine g_if_lt C dX11_bears_28 (q := 31) (tgt := 36) rfl (by decide) (fun c => ?_) (fun c => ?_)
    · have h := hif.1 c
      clear hif
      refine g_sub [2] (lv' := [(0, g_r Y 0)]) rfl ?_
      exact t_X11_bears_36 C E M h
    · have h := hif.2 c
      clear hif
      refine g_iload C 0 dX11_bears_31 (q := 33) rfl rfl ?_
      have hif := g_if h
      clear h
      refine g_if_ge C dX11_bears_33 (q := 36) (tgt := 46) rfl (by decide) (fun c => ?_) (fun c => ?_)
      · have h := hif.1 c
        clear hif
        refine g_aload_n C 2 dX11_bears_46 (q := 47) rfl rfl rfl ?_
        refine g_get C (k := 0) (i := 11) (by decide) (gc_0 Y _ _) rfl kU_X11 (by decide) kF_X11_55 rfl dX11_bears_47 (q := 50) rfl ?_
        refine g_aload_n C 2 dX11_bears_50 (q := 51) rfl rfl rfl ?_
        refine g_get C (k := 0) (i := 1) (by decide) (gc_0 Y _ _) rfl kU_X11 (by decide) kF_X11_19 rfl dX11_bears_51 (q := 54) rfl ?_
        refine g_aload_n C 2 dX11_bears_54 (q := 55) rfl rfl rfl ?_
        refine g_get C (k := 0) (i := 3) (by decide) (gc_0 Y _ _) rfl kU_X11 (by decide) kF_X11_33 rfl dX11_bears_55 (q := 58) rfl ?_
        obtain ⟨p5, hp5, h⟩ := g_bind h
        refine g_callV C (k := 36) (as := [g_r Y 3, g_r Y 24]) (st := []) (m_X5_refresh_36_3_24 hp5) (g_hR (by decide)) (by decide) (by decide) (gc_36 Y _ _) rfl kM_X11_253 kI_X5_refresh kS_X5_refresh kN_X5 kC_X5_refresh kD_X5_refresh rfl (Nat.le_of_ble_eq_true rfl) dX11_bears_58 (q := 61) rfl ?_
        show g_G 7 X Y 61 [(4, .int (p2 - x2)), (3, .int p1), (0, g_r Y 0), (1, .int x1), (2, .int x2)] [] p5
        refine g_iconst C (v := 0) dX11_bears_61 (q := 62) rfl (by decide) ?_
        refine g_istore C dX11_bears_62 (q := 64) rfl (by decide) (lv' := [(5, .int 0), (4, .int (p2 - x2)), (3, .int p1), (0, g_r Y 0), (1, .int x1), (2, .int x2)]) rfl ?_
        refine g_sub [3, 4, 2, 1, 0] (lv' := [(0, g_r Y 0), (1, .int x1), (3, .int p1), (4, .int (p2 - x2)), (5, .int 0)]) rfl ?_
        refine t_X11_bears_64 C E ?_ ?_ 20000000 x1 p1 (p2 - x2) 0 p5 h
        · intro M h
          try dsimp only at h
          refine g_iconst C (v := 0) dX11_bears_114 (q := 115) rfl (by decide) ?_
          obtain rfl := Option.some.inj h
          exact g_iret C E dX11_bears_115
        · intro M h
          try dsimp only at h
          refine g_iconst C (v := 1) dX11_bears_122 (q := 123) rfl (by decide) ?_
          obtain rfl := Option.some.inj h
          exact g_iret C E dX11_bears_123
      · have h := hif.2 c
        clear hif
        refine g_sub [2] (lv' := [(0, g_r Y 0)]) rfl ?_
        exact t_X11_bears_36 C E M h
theorem r_X11_bears {x1 : Int32} {x2 : Int32} {M : g_M} {p : Int32 × g_M} (h : f_X11_bears x1 x2 M = some p) : g_fr [2, 37, 38] [(1, 1), (36, 2)] M p.2 := by
  unfold f_X11_bears at h
  have hf := g_fr.rfl (S := [2, 37, 38]) (T := [(1, 1), (36, 2)]) (M := M)
  obtain ⟨p1, -, h⟩ := g_bind h
  obtain ⟨p2, -, h⟩ := g_bind h
  obtain ⟨p3, -, h⟩ := g_bind h
  rcases g_ifs h with h | h
  · exact hf.trans (r_X11_bears_36 M h)
  · rcases g_ifs h with h | h
    · exact hf.trans (r_X11_bears_36 M h)
    · rcases g_ifs h with h | h
      · obtain ⟨p5, hp5, h⟩ := g_bind h
        have hf := hf.trans ((r_X5_refresh_36_3_24 hp5).mono (by decide) (by decide))
        refine hf.trans (r_X11_bears_64 ?_ ?_ 20000000 x1 p1 (p2 - x2) 0 p5 h)
        · intro M h
          try dsimp only at h
          have hf := g_fr.rfl (S := [2, 37, 38]) (T := [(1, 1), (36, 2)]) (M := M)
          obtain rfl := Option.some.inj h
          exact hf
        · intro M h
          try dsimp only at h
          have hf := g_fr.rfl (S := [2, 37, 38]) (T := [(1, 1), (36, 2)]) (M := M)
          obtain rfl := Option.some.inj h
          exact hf
      · exact hf.trans (r_X11_bears_36 M h)
def F_X11_could_34 (k104 : Int32 → g_M → Option (Int32 × g_M)) (k : Int32 → Int32 → Int32 → Int32 → g_M → Option (Int32 × g_M)) (x1 : Int32) (x2 : Int32) (x3 : Int32) (x4 : Int32) (M : g_M) : Option (Int32 × g_M) :=
  (if (M.1 3 0) ≤ x4 then (k104 x3 M) else ((g_ld M 5 10 x4).bind fun v3 => (g_ld M 7 10 x4).bind fun v4 => (if ((x2 >>> (x4 &&& 31)) &&& 1) = 0 then (k x1 x2 x3 (x4 + 1) M) else ((f_X4_isOpenInTheEnd x1 (v3 ||| v4) M).bind fun p5 => (if p5 = 0 then (k x1 x2 x3 (x4 + 1) M) else ((some (x3 ||| ((1 : Int32) <<< (x4 &&& 31)))).bind fun y6 => k x1 x2 y6 (x4 + 1) M))))))
set_option maxRecDepth 100000 in
theorem t_X11_could_34 {l : Launch} {X : g_X} {Y : g_Y} {p : Int32 × g_M} {k104 : Int32 → g_M → Option (Int32 × g_M)} (C : g_C l (g_rm (4)) RX11 cX11_could 6 X Y) (E : g_E (some .int) X Y (some (.int p.1)) p.2) (hk104 : ∀ (x3 : Int32) (M : g_M), k104 x3 M = some p → g_G 6 X Y 104 [(3, .int x3)] [] M) (n : Nat) : ∀ (x1 : Int32) (x2 : Int32) (x3 : Int32) (x4 : Int32) (M : g_M), g_lp4 (F_X11_could_34 k104) n x1 x2 x3 x4 M = some p → g_G 6 X Y 34 [(0, g_r Y 0), (1, .int x1), (2, .int x2), (3, .int x3), (4, .int x4)] [] M := by
  induction n with
  | zero => intro x1 x2 x3 x4 M h; exact (g_nn h).elim
  | succ n ih =>
    intro x1 x2 x3 x4 M h
    have h : F_X11_could_34 k104 (g_lp4 (F_X11_could_34 k104) n) x1 x2 x3 x4 M = some p := h
    generalize g_lp4 (F_X11_could_34 k104) n = k at h ih
    unfold F_X11_could_34 at h
    refine g_iload C 4 dX11_could_34 (q := 36) rfl rfl ?_
    refine g_aload_n C 0 dX11_could_36 (q := 37) rfl rfl rfl ?_
    refine g_get C (k := 0) (i := 1) (by decide) (gc_0 Y _ _) rfl kU_X11 (by decide) kF_X11_19 rfl dX11_could_37 (q := 40) rfl ?_
    refine g_get C (k := 3) (i := 0) (by decide) (gc_3 Y _ _) rfl kU_X0 (by decide) kF_X11_95 rfl dX11_could_40 (q := 43) rfl ?_
    have hif := g_if h
    clear h
    refine g_icmp_ge C dX11_could_43 (q := 46) (tgt := 104) rfl (by decide) (fun c => ?_) (fun c => ?_)
    · have h := hif.1 c
      clear hif
      refine g_sub [3] (lv' := [(3, .int x3)]) rfl ?_
      exact hk104 x3 M h
    · have h := hif.2 c
      clear hif
      refine g_aload_n C 0 dX11_could_46 (q := 47) rfl rfl rfl ?_
      refine g_get C (k := 0) (i := 1) (by decide) (gc_0 Y _ _) rfl kU_X11 (by decide) kF_X11_19 rfl dX11_could_47 (q := 50) rfl ?_
      refine g_get C (k := 3) (i := 5) (by decide) (gc_3 Y _ _) rfl kU_X0 (by decide) kF_X11_114 rfl dX11_could_50 (q := 53) rfl ?_
      refine g_iload C 4 dX11_could_53 (q := 55) rfl rfl ?_
      obtain ⟨v3, hv3, h⟩ := g_bind h
      refine g_iald C (k := 5) (n := 10) (by decide) (gc_5 Y _ _) hv3 dX11_could_55 (q := 56) rfl ?_
      refine g_aload_n C 0 dX11_could_56 (q := 57) rfl rfl rfl ?_
      refine g_get C (k := 0) (i := 1) (by decide) (gc_0 Y _ _) rfl kU_X11 (by decide) kF_X11_19 rfl dX11_could_57 (q := 60) rfl ?_
      refine g_get C (k := 3) (i := 7) (by decide) (gc_3 Y _ _) rfl kU_X0 (by decide) kF_X11_264 rfl dX11_could_60 (q := 63) rfl ?_
      refine g_iload C 4 dX11_could_63 (q := 65) rfl rfl ?_
      obtain ⟨v4, hv4, h⟩ := g_bind h
      refine g_iald C (k := 7) (n := 10) (by decide) (gc_7 Y _ _) hv4 dX11_could_65 (q := 66) rfl ?_
      refine g_ior C dX11_could_66 (q := 67) rfl ?_
      refine g_istore C dX11_could_67 (q := 69) rfl (by decide) (lv' := [(5, .int (v3 ||| v4)), (0, g_r Y 0), (1, .int x1), (2, .int x2), (3, .int x3), (4, .int x4)]) rfl ?_
      refine g_iload_n C 3 dX11_could_69 (q := 70) rfl rfl rfl ?_
      refine g_iload C 5 dX11_could_70 (q := 72) rfl rfl ?_
      refine g_ishr C dX11_could_72 (q := 73) rfl ?_
      refine g_iconst C (v := 1) dX11_could_73 (q := 74) rfl (by decide) ?_
      refine g_iand C dX11_could_74 (q := 75) rfl ?_
      have hif := g_if h
      clear h
      refine g_if_eq C dX11_could_75 (q := 78) (tgt := 98) rfl (by decide) (fun c => ?_) (fun c => ?_)
      · have h := hif.1 c
        clear hif
        refine g_iinc C (k := 5) (v := x4 + 1) dX11_could_98 (q := 101) rfl rfl rfl (by decide) (lv' := [(4, .int (x4 + 1)), (5, .int (v3 ||| v4)), (0, g_r Y 0), (1, .int x1), (2, .int x2), (3, .int x3)]) rfl ?_
        refine g_goto C dX11_could_101 (tgt := 34) (by decide) ?_
        refine g_sub [2, 3, 4, 5, 0] (lv' := [(0, g_r Y 0), (1, .int x1), (2, .int x2), (3, .int x3), (4, .int (x4 + 1))]) rfl ?_
        exact ih x1 x2 x3 (x4 + 1) M h
      · have h := hif.2 c
        clear hif
        refine g_aload_n C 1 dX11_could_78 (q := 79) rfl rfl rfl ?_
        refine g_get C (k := 0) (i := 3) (by decide) (gc_0 Y _ _) rfl kU_X11 (by decide) kF_X11_33 rfl dX11_could_79 (q := 82) rfl ?_
        refine g_iload_n C 2 dX11_could_82 (q := 83) rfl rfl rfl ?_
        refine g_iload C 0 dX11_could_83 (q := 85) rfl rfl ?_
        obtain ⟨p5, hp5, h⟩ := g_bind h
        refine g_callV C (k := 24) (as := [.int x1, .int (v3 ||| v4)]) (st := []) (m_X4_isOpenInTheEnd hp5) (g_hR (by decide)) (by decide) (by decide) (gc_24 Y _ _) rfl kM_X11_238 kI_X4_isOpenInTheEnd kS_X4_isOpenInTheEnd kN_X4 kC_X4_isOpenInTheEnd kD_X4_isOpenInTheEnd rfl (Nat.le_of_ble_eq_true rfl) dX11_could_85 (q := 88) rfl ?_
        show g_G 6 X Y 88 [(5, .int (v3 ||| v4)), (0, g_r Y 0), (1, .int x1), (2, .int x2), (3, .int x3), (4, .int x4)] [.int p5] M
        have hif := g_if h
        clear h
        refine g_if_eq C dX11_could_88 (q := 91) (tgt := 98) rfl (by decide) (fun c => ?_) (fun c => ?_)
        · have h := hif.1 c
          clear hif
          refine g_iinc C (k := 5) (v := x4 + 1) dX11_could_98 (q := 101) rfl rfl rfl (by decide) (lv' := [(4, .int (x4 + 1)), (5, .int (v3 ||| v4)), (0, g_r Y 0), (1, .int x1), (2, .int x2), (3, .int x3)]) rfl ?_
          refine g_goto C dX11_could_101 (tgt := 34) (by decide) ?_
          refine g_sub [2, 3, 4, 5, 0] (lv' := [(0, g_r Y 0), (1, .int x1), (2, .int x2), (3, .int x3), (4, .int (x4 + 1))]) rfl ?_
          exact ih x1 x2 x3 (x4 + 1) M h
        · have h := hif.2 c
          clear hif
          refine g_iload_n C 4 dX11_could_91 (q := 92) rfl rfl rfl ?_
          refine g_iconst C (v := 1) dX11_could_92 (q := 93) rfl (by decide) ?_
          refine g_iload C 5 dX11_could_93 (q := 95) rfl rfl ?_
          refine g_ishl C dX11_could_95 (q := 96) rfl ?_
          refine g_ior C dX11_could_96 (q := 97) rfl ?_
          obtain ⟨y6, hy6, h⟩ := g_bind h
          refine g_top hy6 ?_
          refine g_istore_n C dX11_could_97 (q := 98) rfl rfl (by decide) (lv' := [(3, .int y6), (5, .int (v3 ||| v4)), (0, g_r Y 0), (1, .int x1), (2, .int x2), (4, .int x4)]) rfl ?_
          refine g_iinc C (k := 5) (v := x4 + 1) dX11_could_98 (q := 101) rfl rfl rfl (by decide) (lv' := [(4, .int (x4 + 1)), (3, .int y6), (5, .int (v3 ||| v4)), (0, g_r Y 0), (1, .int x1), (2, .int x2)]) rfl ?_
          refine g_goto C dX11_could_101 (tgt := 34) (by decide) ?_
          refine g_sub [3, 4, 5, 1, 0] (lv' := [(0, g_r Y 0), (1, .int x1), (2, .int x2), (3, .int y6), (4, .int (x4 + 1))]) rfl ?_
          exact ih x1 x2 y6 (x4 + 1) M h
theorem r_X11_could_34 {p : Int32 × g_M} {k104 : Int32 → g_M → Option (Int32 × g_M)} (hk104 : ∀ (x3 : Int32) (M : g_M), k104 x3 M = some p → g_fr [2] [(1, 1)] M p.2) (n : Nat) : ∀ (x1 : Int32) (x2 : Int32) (x3 : Int32) (x4 : Int32) (M : g_M), g_lp4 (F_X11_could_34 k104) n x1 x2 x3 x4 M = some p → g_fr [2] [(1, 1)] M p.2 := by
  induction n with
  | zero => intro x1 x2 x3 x4 M h; exact (g_nn h).elim
  | succ n ih =>
    intro x1 x2 x3 x4 M h
    have h : F_X11_could_34 k104 (g_lp4 (F_X11_could_34 k104) n) x1 x2 x3 x4 M = some p := h
    generalize g_lp4 (F_X11_could_34 k104) n = k at h ih
    unfold F_X11_could_34 at h
    have hf := g_fr.rfl (S := [2]) (T := [(1, 1)]) (M := M)
    rcases g_ifs h with h | h
    · exact hf.trans (hk104 x3 M h)
    · obtain ⟨v3, -, h⟩ := g_bind h
      obtain ⟨v4, -, h⟩ := g_bind h
      rcases g_ifs h with h | h
      · exact hf.trans (ih x1 x2 x3 (x4 + 1) M h)
      · obtain ⟨p5, -, h⟩ := g_bind h
        rcases g_ifs h with h | h
        · exact hf.trans (ih x1 x2 x3 (x4 + 1) M h)
        · obtain ⟨y6, -, h⟩ := g_bind h
          exact hf.trans (ih x1 x2 y6 (x4 + 1) M h)
def f_X11_could (x1 : Int32) (M : g_M) : Option (Int32 × g_M) :=
  (f_X4_has x1 M).bind fun p1 => (if p1 = 0 then ((f_X2_tell (-1000000001) M).bind fun p7 => some (p7.1, p7.2)) else ((f_X0_present M).bind fun p2 => g_lp4 (F_X11_could_34 (fun (x3 : Int32) (M : g_M) => some (x3, M))) 20000000 x1 p2 0 0 M))
set_option maxRecDepth 100000 in
theorem m_X11_could {l : Launch} {Y : g_Y} {x1 : Int32} {M : g_M} {p : Int32 × g_M} (h : f_X11_could x1 M = some p) : g_R l Y (4) yX11_could cX11_could 6 (some .int) [g_r Y 0, .int x1] M (some (.int p.1)) p.2 := by
  unfold f_X11_could at h
  refine g_R_of kP_X11 rfl (Nat.le_of_ble_eq_true rfl) (fun X C E => ?_)
  show g_G 6 X Y 0 [(0, g_r Y 0), (1, .int x1)] [] M
  refine g_aload_n C 0 dX11_could_0 (q := 1) rfl rfl rfl ?_
  refine g_get C (k := 0) (i := 3) (by decide) (gc_0 Y _ _) rfl kU_X11 (by decide) kF_X11_33 rfl dX11_could_1 (q := 4) rfl ?_
  refine g_iload_n C 1 dX11_could_4 (q := 5) rfl rfl rfl ?_
  obtain ⟨p1, hp1, h⟩ := g_bind h
  refine g_callV C (k := 24) (as := [.int x1]) (st := []) (m_X4_has hp1) (g_hR (by decide)) (by decide) (by decide) (gc_24 Y _ _) rfl kM_X11_191 kI_X4_has kS_X4_has kN_X4 kC_X4_has kD_X4_has rfl (Nat.le_of_ble_eq_true rfl) dX11_could_5 (q := 8) rfl ?_
  show g_G 6 X Y 8 [(0, g_r Y 0), (1, .int x1)] [.int p1] M
  have hif := g_if h
  clear h
  refine g_if_ne C dX11_could_8 (q := 11) (tgt := 21) rfl (by decide) (fun c => ?_) (fun c => ?_)
  · have h := hif.2 c
    clear hif
    refine g_aload_n C 0 dX11_could_21 (q := 22) rfl rfl rfl ?_
    refine g_get C (k := 0) (i := 1) (by decide) (gc_0 Y _ _) rfl kU_X11 (by decide) kF_X11_19 rfl dX11_could_22 (q := 25) rfl ?_
    obtain ⟨p2, hp2, h⟩ := g_bind h
    refine g_callV C (k := 3) (as := []) (st := []) (m_X0_present hp2) (g_hR (by decide)) (by decide) (by decide) (gc_3 Y _ _) rfl kM_X11_159 kI_X0_present kS_X0_present kN_X0 kC_X0_present kD_X0_present rfl (Nat.le_of_ble_eq_true rfl) dX11_could_25 (q := 28) rfl ?_
    show g_G 6 X Y 28 [(0, g_r Y 0), (1, .int x1)] [.int p2] M
    refine g_istore_n C dX11_could_28 (q := 29) rfl rfl (by decide) (lv' := [(2, .int p2), (0, g_r Y 0), (1, .int x1)]) rfl ?_
    refine g_iconst C (v := 0) dX11_could_29 (q := 30) rfl (by decide) ?_
    refine g_istore_n C dX11_could_30 (q := 31) rfl rfl (by decide) (lv' := [(3, .int 0), (2, .int p2), (0, g_r Y 0), (1, .int x1)]) rfl ?_
    refine g_iconst C (v := 0) dX11_could_31 (q := 32) rfl (by decide) ?_
    refine g_istore C dX11_could_32 (q := 34) rfl (by decide) (lv' := [(4, .int 0), (3, .int 0), (2, .int p2), (0, g_r Y 0), (1, .int x1)]) rfl ?_
    refine g_sub [3, 4, 2, 1, 0] (lv' := [(0, g_r Y 0), (1, .int x1), (2, .int p2), (3, .int 0), (4, .int 0)]) rfl ?_
    refine t_X11_could_34 C E ?_ 20000000 x1 p2 0 0 M h
    · intro x3 M h
      try dsimp only at h
      refine g_iload_n C 0 dX11_could_104 (q := 105) rfl rfl rfl ?_
      obtain rfl := Option.some.inj h
      exact g_iret C E dX11_could_105
  · have h := hif.1 c
    clear hif
    refine g_aload_n C 0 dX11_could_11 (q := 12) rfl rfl rfl ?_
    refine g_get C (k := 0) (i := 0) (by decide) (gc_0 Y _ _) rfl kU_X11 (by decide) kF_X11_12 rfl dX11_could_12 (q := 15) rfl ?_
    refine g_ldc C (v := (-1000000001)) kK_X11_90 dX11_could_15 (q := 17) rfl ?_
    obtain ⟨p7, hp7, h⟩ := g_bind h
    refine g_callV C (k := 1) (as := [.int (-1000000001)]) (st := []) (m_X2_tell hp7) (g_hR (by decide)) (by decide) (by decide) (gc_1 Y _ _) rfl kM_X11_91 kI_X2_tell kS_X2_tell kN_X2 kC_X2_tell kD_X2_tell rfl (Nat.le_of_ble_eq_true rfl) dX11_could_17 (q := 20) rfl ?_
    show g_G 6 X Y 20 [(0, g_r Y 0), (1, .int x1)] [.int p7.1] p7.2
    obtain rfl := Option.some.inj h
    exact g_iret C E dX11_could_20
theorem r_X11_could {x1 : Int32} {M : g_M} {p : Int32 × g_M} (h : f_X11_could x1 M = some p) : g_fr [2] [(1, 1)] M p.2 := by
  unfold f_X11_could at h
  have hf := g_fr.rfl (S := [2]) (T := [(1, 1)]) (M := M)
  obtain ⟨p1, -, h⟩ := g_bind h
  rcases g_ifs h with h | h
  · obtain ⟨p7, hp7, h⟩ := g_bind h
    have hf := hf.trans ((r_X2_tell hp7).mono (by decide) (by decide))
    obtain rfl := Option.some.inj h
    exact hf
  · obtain ⟨p2, -, h⟩ := g_bind h
    refine hf.trans (r_X11_could_34 ?_ 20000000 x1 p2 0 0 M h)
    · intro x3 M h
      try dsimp only at h
      have hf := g_fr.rfl (S := [2]) (T := [(1, 1)]) (M := M)
      obtain rfl := Option.some.inj h
      exact hf
def F_X11_hangSideBySide_25 (k73 : Int32 → g_M → Option (Int32 × g_M)) (k : Int32 → Int32 → Int32 → g_M → Option (Int32 × g_M)) (x1 : Int32) (x2 : Int32) (x3 : Int32) (M : g_M) : Option (Int32 × g_M) :=
  (if (M.1 43 1) ≤ x3 then (k73 x2 M) else ((f_X4_addLock x3 0 M).bind fun p3 => (g_ld p3.2 44 252 x3).bind fun v4 => (f_X0_giveKey (x1 &&& (v4 ^^^ (-1))) x3 p3.2).bind fun p5 => k x1 x2 (x3 + 1) p5))
set_option maxRecDepth 100000 in
theorem t_X11_hangSideBySide_25 {l : Launch} {X : g_X} {Y : g_Y} {p : Int32 × g_M} {k73 : Int32 → g_M → Option (Int32 × g_M)} (C : g_C l (g_rm (3)) RX11 cX11_hangSideBySide 5 X Y) (E : g_E (some .int) X Y (some (.int p.1)) p.2) (hk73 : ∀ (x2 : Int32) (M : g_M), k73 x2 M = some p → g_G 5 X Y 73 [(0, g_r Y 0), (2, .int x2)] [] M) (n : Nat) : ∀ (x1 : Int32) (x2 : Int32) (x3 : Int32) (M : g_M), g_lp3 (F_X11_hangSideBySide_25 k73) n x1 x2 x3 M = some p → g_G 5 X Y 25 [(0, g_r Y 0), (1, .int x1), (2, .int x2), (3, .int x3)] [] M := by
  induction n with
  | zero => intro x1 x2 x3 M h; exact (g_nn h).elim
  | succ n ih =>
    intro x1 x2 x3 M h
    have h : F_X11_hangSideBySide_25 k73 (g_lp3 (F_X11_hangSideBySide_25 k73) n) x1 x2 x3 M = some p := h
    generalize g_lp3 (F_X11_hangSideBySide_25 k73) n = k at h ih
    unfold F_X11_hangSideBySide_25 at h
    refine g_iload_n C 3 dX11_hangSideBySide_25 (q := 26) rfl rfl rfl ?_
    refine g_aload_n C 0 dX11_hangSideBySide_26 (q := 27) rfl rfl rfl ?_
    refine g_get C (k := 0) (i := 14) (by decide) (gc_0 Y _ _) rfl kU_X11 (by decide) kF_X11_72 rfl dX11_hangSideBySide_27 (q := 30) rfl ?_
    refine g_get C (k := 43) (i := 1) (by decide) (gc_43 Y _ _) rfl kU_X6 (by decide) kF_X11_271 rfl dX11_hangSideBySide_30 (q := 33) rfl ?_
    have hif := g_if h
    clear h
    refine g_icmp_ge C dX11_hangSideBySide_33 (q := 36) (tgt := 73) rfl (by decide) (fun c => ?_) (fun c => ?_)
    · have h := hif.1 c
      clear hif
      refine g_sub [0, 2] (lv' := [(0, g_r Y 0), (2, .int x2)]) rfl ?_
      exact hk73 x2 M h
    · have h := hif.2 c
      clear hif
      refine g_aload_n C 0 dX11_hangSideBySide_36 (q := 37) rfl rfl rfl ?_
      refine g_get C (k := 0) (i := 3) (by decide) (gc_0 Y _ _) rfl kU_X11 (by decide) kF_X11_33 rfl dX11_hangSideBySide_37 (q := 40) rfl ?_
      refine g_iload_n C 3 dX11_hangSideBySide_40 (q := 41) rfl rfl rfl ?_
      refine g_iconst C (v := 0) dX11_hangSideBySide_41 (q := 42) rfl (by decide) ?_
      obtain ⟨p3, hp3, h⟩ := g_bind h
      refine g_callV C (k := 24) (as := [.int x3, .int 0]) (st := []) (m_X4_addLock hp3) (g_hR (by decide)) (by decide) (by decide) (gc_24 Y _ _) rfl kM_X11_188 kI_X4_addLock kS_X4_addLock kN_X4 kC_X4_addLock kD_X4_addLock rfl (Nat.le_of_ble_eq_true rfl) dX11_hangSideBySide_42 (q := 45) rfl ?_
      show g_G 5 X Y 45 [(0, g_r Y 0), (1, .int x1), (2, .int x2), (3, .int x3)] [.int p3.1] p3.2
      refine g_pop C dX11_hangSideBySide_45 (q := 46) rfl rfl ?_
      refine g_aload_n C 0 dX11_hangSideBySide_46 (q := 47) rfl rfl rfl ?_
      refine g_get C (k := 0) (i := 1) (by decide) (gc_0 Y _ _) rfl kU_X11 (by decide) kF_X11_19 rfl dX11_hangSideBySide_47 (q := 50) rfl ?_
      refine g_iload_n C 1 dX11_hangSideBySide_50 (q := 51) rfl rfl rfl ?_
      refine g_aload_n C 0 dX11_hangSideBySide_51 (q := 52) rfl rfl rfl ?_
      refine g_get C (k := 0) (i := 14) (by decide) (gc_0 Y _ _) rfl kU_X11 (by decide) kF_X11_72 rfl dX11_hangSideBySide_52 (q := 55) rfl ?_
      refine g_get C (k := 43) (i := 0) (by decide) (gc_43 Y _ _) rfl kU_X6 (by decide) kF_X11_386 rfl dX11_hangSideBySide_55 (q := 58) rfl ?_
      refine g_iload_n C 3 dX11_hangSideBySide_58 (q := 59) rfl rfl rfl ?_
      obtain ⟨v4, hv4, h⟩ := g_bind h
      refine g_iald C (k := 44) (n := 252) (by decide) (gc_44 Y _ _) hv4 dX11_hangSideBySide_59 (q := 60) rfl ?_
      refine g_iconst C (v := (-1)) dX11_hangSideBySide_60 (q := 61) rfl (by decide) ?_
      refine g_ixor C dX11_hangSideBySide_61 (q := 62) rfl ?_
      refine g_iand C dX11_hangSideBySide_62 (q := 63) rfl ?_
      refine g_iload_n C 3 dX11_hangSideBySide_63 (q := 64) rfl rfl rfl ?_
      obtain ⟨p5, hp5, h⟩ := g_bind h
      refine g_callV C (k := 3) (as := [.int (x1 &&& (v4 ^^^ (-1))), .int x3]) (st := []) (m_X0_giveKey hp5) (g_hR (by decide)) (by decide) (by decide) (gc_3 Y _ _) rfl kM_X11_395 kI_X0_giveKey kS_X0_giveKey kN_X0 kC_X0_giveKey kD_X0_giveKey rfl (Nat.le_of_ble_eq_true rfl) dX11_hangSideBySide_64 (q := 67) rfl ?_
      show g_G 5 X Y 67 [(0, g_r Y 0), (1, .int x1), (2, .int x2), (3, .int x3)] [] p5
      refine g_iinc C (k := 3) (v := x3 + 1) dX11_hangSideBySide_67 (q := 70) rfl rfl rfl (by decide) (lv' := [(3, .int (x3 + 1)), (0, g_r Y 0), (1, .int x1), (2, .int x2)]) rfl ?_
      refine g_goto C dX11_hangSideBySide_70 (tgt := 25) (by decide) ?_
      refine g_sub [1, 2, 3, 0] (lv' := [(0, g_r Y 0), (1, .int x1), (2, .int x2), (3, .int (x3 + 1))]) rfl ?_
      exact ih x1 x2 (x3 + 1) p5 h
theorem r_X11_hangSideBySide_25 {p : Int32 × g_M} {k73 : Int32 → g_M → Option (Int32 × g_M)} (hk73 : ∀ (x2 : Int32) (M : g_M), k73 x2 M = some p → g_fr [5, 25, 26, 27, 28, 29, 30, 31] [(3, 3), (24, 0), (24, 1)] M p.2) (n : Nat) : ∀ (x1 : Int32) (x2 : Int32) (x3 : Int32) (M : g_M), g_lp3 (F_X11_hangSideBySide_25 k73) n x1 x2 x3 M = some p → g_fr [5, 25, 26, 27, 28, 29, 30, 31] [(3, 3), (24, 0), (24, 1)] M p.2 := by
  induction n with
  | zero => intro x1 x2 x3 M h; exact (g_nn h).elim
  | succ n ih =>
    intro x1 x2 x3 M h
    have h : F_X11_hangSideBySide_25 k73 (g_lp3 (F_X11_hangSideBySide_25 k73) n) x1 x2 x3 M = some p := h
    generalize g_lp3 (F_X11_hangSideBySide_25 k73) n = k at h ih
    unfold F_X11_hangSideBySide_25 at h
    have hf := g_fr.rfl (S := [5, 25, 26, 27, 28, 29, 30, 31]) (T := [(3, 3), (24, 0), (24, 1)]) (M := M)
    rcases g_ifs h with h | h
    · exact hf.trans (hk73 x2 M h)
    · obtain ⟨p3, hp3, h⟩ := g_bind h
      have hf := hf.trans ((r_X4_addLock hp3).mono (by decide) (by decide))
      obtain ⟨v4, -, h⟩ := g_bind h
      obtain ⟨p5, hp5, h⟩ := g_bind h
      have hf := hf.trans ((r_X0_giveKey hp5).mono (by decide) (by decide))
      exact hf.trans (ih x1 x2 (x3 + 1) p5 h)
def F_X11_hangSideBySide_78 (k110 : Int32 → g_M → Option (Int32 × g_M)) (k : Int32 → Int32 → Int32 → g_M → Option (Int32 × g_M)) (x2 : Int32) (x3 : Int32) (x4 : Int32) (M : g_M) : Option (Int32 × g_M) :=
  (if (M.1 43 1) ≤ x4 then (k110 x3 M) else ((f_X4_addChain x3 (x2 + x4) 1 M).bind fun p6 => k x2 p6.1 (x4 + 1) p6.2))
set_option maxRecDepth 100000 in
theorem t_X11_hangSideBySide_78 {l : Launch} {X : g_X} {Y : g_Y} {p : Int32 × g_M} {k110 : Int32 → g_M → Option (Int32 × g_M)} (C : g_C l (g_rm (3)) RX11 cX11_hangSideBySide 5 X Y) (E : g_E (some .int) X Y (some (.int p.1)) p.2) (hk110 : ∀ (x3 : Int32) (M : g_M), k110 x3 M = some p → g_G 5 X Y 110 [(3, .int x3)] [] M) (n : Nat) : ∀ (x2 : Int32) (x3 : Int32) (x4 : Int32) (M : g_M), g_lp3 (F_X11_hangSideBySide_78 k110) n x2 x3 x4 M = some p → g_G 5 X Y 78 [(0, g_r Y 0), (2, .int x2), (3, .int x3), (4, .int x4)] [] M := by
  induction n with
  | zero => intro x2 x3 x4 M h; exact (g_nn h).elim
  | succ n ih =>
    intro x2 x3 x4 M h
    have h : F_X11_hangSideBySide_78 k110 (g_lp3 (F_X11_hangSideBySide_78 k110) n) x2 x3 x4 M = some p := h
    generalize g_lp3 (F_X11_hangSideBySide_78 k110) n = k at h ih
    unfold F_X11_hangSideBySide_78 at h
    refine g_iload C 3 dX11_hangSideBySide_78 (q := 80) rfl rfl ?_
    refine g_aload_n C 0 dX11_hangSideBySide_80 (q := 81) rfl rfl rfl ?_
    refine g_get C (k := 0) (i := 14) (by decide) (gc_0 Y _ _) rfl kU_X11 (by decide) kF_X11_72 rfl dX11_hangSideBySide_81 (q := 84) rfl ?_
    refine g_get C (k := 43) (i := 1) (by decide) (gc_43 Y _ _) rfl kU_X6 (by decide) kF_X11_271 rfl dX11_hangSideBySide_84 (q := 87) rfl ?_
    have hif := g_if h
    clear h
    refine g_icmp_ge C dX11_hangSideBySide_87 (q := 90) (tgt := 110) rfl (by decide) (fun c => ?_) (fun c => ?_)
    · have h := hif.1 c
      clear hif
      refine g_sub [2] (lv' := [(3, .int x3)]) rfl ?_
      exact hk110 x3 M h
    · have h := hif.2 c
      clear hif
      refine g_aload_n C 0 dX11_hangSideBySide_90 (q := 91) rfl rfl rfl ?_
      refine g_get C (k := 0) (i := 3) (by decide) (gc_0 Y _ _) rfl kU_X11 (by decide) kF_X11_33 rfl dX11_hangSideBySide_91 (q := 94) rfl ?_
      refine g_iload_n C 2 dX11_hangSideBySide_94 (q := 95) rfl rfl rfl ?_
      refine g_iload_n C 1 dX11_hangSideBySide_95 (q := 96) rfl rfl rfl ?_
      refine g_iload C 3 dX11_hangSideBySide_96 (q := 98) rfl rfl ?_
      refine g_iadd C dX11_hangSideBySide_98 (q := 99) rfl ?_
      refine g_iconst C (v := 1) dX11_hangSideBySide_99 (q := 100) rfl (by decide) ?_
      obtain ⟨p6, hp6, h⟩ := g_bind h
      refine g_callV C (k := 24) (as := [.int x3, .int (x2 + x4), .int 1]) (st := []) (m_X4_addChain hp6) (g_hR (by decide)) (by decide) (by decide) (gc_24 Y _ _) rfl kM_X11_192 kI_X4_addChain kS_X4_addChain kN_X4 kC_X4_addChain kD_X4_addChain rfl (Nat.le_of_ble_eq_true rfl) dX11_hangSideBySide_100 (q := 103) rfl ?_
      show g_G 5 X Y 103 [(0, g_r Y 0), (2, .int x2), (3, .int x3), (4, .int x4)] [.int p6.1] p6.2
      refine g_istore_n C dX11_hangSideBySide_103 (q := 104) rfl rfl (by decide) (lv' := [(3, .int p6.1), (0, g_r Y 0), (2, .int x2), (4, .int x4)]) rfl ?_
      refine g_iinc C (k := 3) (v := x4 + 1) dX11_hangSideBySide_104 (q := 107) rfl rfl rfl (by decide) (lv' := [(4, .int (x4 + 1)), (3, .int p6.1), (0, g_r Y 0), (2, .int x2)]) rfl ?_
      refine g_goto C dX11_hangSideBySide_107 (tgt := 78) (by decide) ?_
      refine g_sub [2, 3, 1, 0] (lv' := [(0, g_r Y 0), (2, .int x2), (3, .int p6.1), (4, .int (x4 + 1))]) rfl ?_
      exact ih x2 p6.1 (x4 + 1) p6.2 h
theorem r_X11_hangSideBySide_78 {p : Int32 × g_M} {k110 : Int32 → g_M → Option (Int32 × g_M)} (hk110 : ∀ (x3 : Int32) (M : g_M), k110 x3 M = some p → g_fr [5, 25, 26, 27, 28, 29, 30, 31] [(3, 3), (24, 0), (24, 1)] M p.2) (n : Nat) : ∀ (x2 : Int32) (x3 : Int32) (x4 : Int32) (M : g_M), g_lp3 (F_X11_hangSideBySide_78 k110) n x2 x3 x4 M = some p → g_fr [5, 25, 26, 27, 28, 29, 30, 31] [(3, 3), (24, 0), (24, 1)] M p.2 := by
  induction n with
  | zero => intro x2 x3 x4 M h; exact (g_nn h).elim
  | succ n ih =>
    intro x2 x3 x4 M h
    have h : F_X11_hangSideBySide_78 k110 (g_lp3 (F_X11_hangSideBySide_78 k110) n) x2 x3 x4 M = some p := h
    generalize g_lp3 (F_X11_hangSideBySide_78 k110) n = k at h ih
    unfold F_X11_hangSideBySide_78 at h
    have hf := g_fr.rfl (S := [5, 25, 26, 27, 28, 29, 30, 31]) (T := [(3, 3), (24, 0), (24, 1)]) (M := M)
    rcases g_ifs h with h | h
    · exact hf.trans (hk110 x3 M h)
    · obtain ⟨p6, hp6, h⟩ := g_bind h
      have hf := hf.trans ((r_X4_addChain hp6).mono (by decide) (by decide))
      exact hf.trans (ih x2 p6.1 (x4 + 1) p6.2 h)
def f_X11_hangSideBySide (M : g_M) : Option (Int32 × g_M) :=
  (f_X0_emptyRings M).bind fun p1 => (f_X0_present p1).bind fun p2 => g_lp3 (F_X11_hangSideBySide_25 (fun (x2 : Int32) (M : g_M) => g_lp3 (F_X11_hangSideBySide_78 (fun (x3 : Int32) (M : g_M) => some (x3, M))) 20000000 x2 x2 1 M)) 20000000 p2 (p1.1 24 0) 0 p1
set_option maxRecDepth 100000 in
theorem m_X11_hangSideBySide {l : Launch} {Y : g_Y} {M : g_M} {p : Int32 × g_M} (h : f_X11_hangSideBySide M = some p) : g_R l Y (3) yX11_hangSideBySide cX11_hangSideBySide 5 (some .int) [g_r Y 0] M (some (.int p.1)) p.2 := by
  unfold f_X11_hangSideBySide at h
  refine g_R_of kP_X11 rfl (Nat.le_of_ble_eq_true rfl) (fun X C E => ?_)
  show g_G 5 X Y 0 [(0, g_r Y 0)] [] M
  refine g_aload_n C 0 dX11_hangSideBySide_0 (q := 1) rfl rfl rfl ?_
  refine g_get C (k := 0) (i := 1) (by decide) (gc_0 Y _ _) rfl kU_X11 (by decide) kF_X11_19 rfl dX11_hangSideBySide_1 (q := 4) rfl ?_
  obtain ⟨p1, hp1, h⟩ := g_bind h
  refine g_callV C (k := 3) (as := []) (st := []) (m_X0_emptyRings hp1) (g_hR (by decide)) (by decide) (by decide) (gc_3 Y _ _) rfl kM_X11_392 kI_X0_emptyRings kS_X0_emptyRings kN_X0 kC_X0_emptyRings kD_X0_emptyRings rfl (Nat.le_of_ble_eq_true rfl) dX11_hangSideBySide_4 (q := 7) rfl ?_
  show g_G 5 X Y 7 [(0, g_r Y 0)] [] p1
  refine g_aload_n C 0 dX11_hangSideBySide_7 (q := 8) rfl rfl rfl ?_
  refine g_get C (k := 0) (i := 1) (by decide) (gc_0 Y _ _) rfl kU_X11 (by decide) kF_X11_19 rfl dX11_hangSideBySide_8 (q := 11) rfl ?_
  obtain ⟨p2, hp2, h⟩ := g_bind h
  refine g_callV C (k := 3) (as := []) (st := []) (m_X0_present hp2) (g_hR (by decide)) (by decide) (by decide) (gc_3 Y _ _) rfl kM_X11_159 kI_X0_present kS_X0_present kN_X0 kC_X0_present kD_X0_present rfl (Nat.le_of_ble_eq_true rfl) dX11_hangSideBySide_11 (q := 14) rfl ?_
  show g_G 5 X Y 14 [(0, g_r Y 0)] [.int p2] p1
  refine g_istore_n C dX11_hangSideBySide_14 (q := 15) rfl rfl (by decide) (lv' := [(1, .int p2), (0, g_r Y 0)]) rfl ?_
  refine g_aload_n C 1 dX11_hangSideBySide_15 (q := 16) rfl rfl rfl ?_
  refine g_get C (k := 0) (i := 3) (by decide) (gc_0 Y _ _) rfl kU_X11 (by decide) kF_X11_33 rfl dX11_hangSideBySide_16 (q := 19) rfl ?_
  refine g_get C (k := 24) (i := 0) (by decide) (gc_24 Y _ _) rfl kU_X4 (by decide) kF_X11_349 rfl dX11_hangSideBySide_19 (q := 22) rfl ?_
  refine g_istore_n C dX11_hangSideBySide_22 (q := 23) rfl rfl (by decide) (lv' := [(2, .int (p1.1 24 0)), (1, .int p2), (0, g_r Y 0)]) rfl ?_
  refine g_iconst C (v := 0) dX11_hangSideBySide_23 (q := 24) rfl (by decide) ?_
  refine g_istore_n C dX11_hangSideBySide_24 (q := 25) rfl rfl (by decide) (lv' := [(3, .int 0), (2, .int (p1.1 24 0)), (1, .int p2), (0, g_r Y 0)]) rfl ?_
  refine g_sub [3, 2, 1, 0] (lv' := [(0, g_r Y 0), (1, .int p2), (2, .int (p1.1 24 0)), (3, .int 0)]) rfl ?_
  refine t_X11_hangSideBySide_25 C E ?_ 20000000 p2 (p1.1 24 0) 0 p1 h
  · intro x2 M h
    try dsimp only at h
    refine g_iload_n C 1 dX11_hangSideBySide_73 (q := 74) rfl rfl rfl ?_
    refine g_istore_n C dX11_hangSideBySide_74 (q := 75) rfl rfl (by decide) (lv' := [(3, .int x2), (0, g_r Y 0), (2, .int x2)]) rfl ?_
    refine g_iconst C (v := 1) dX11_hangSideBySide_75 (q := 76) rfl (by decide) ?_
    refine g_istore C dX11_hangSideBySide_76 (q := 78) rfl (by decide) (lv' := [(4, .int 1), (3, .int x2), (0, g_r Y 0), (2, .int x2)]) rfl ?_
    refine g_sub [2, 3, 1, 0] (lv' := [(0, g_r Y 0), (2, .int x2), (3, .int x2), (4, .int 1)]) rfl ?_
    refine t_X11_hangSideBySide_78 C E ?_ 20000000 x2 x2 1 M h
    · intro x3 M h
      try dsimp only at h
      refine g_iload_n C 0 dX11_hangSideBySide_110 (q := 111) rfl rfl rfl ?_
      obtain rfl := Option.some.inj h
      exact g_iret C E dX11_hangSideBySide_111
theorem r_X11_hangSideBySide {M : g_M} {p : Int32 × g_M} (h : f_X11_hangSideBySide M = some p) : g_fr [5, 25, 26, 27, 28, 29, 30, 31] [(3, 3), (24, 0), (24, 1)] M p.2 := by
  unfold f_X11_hangSideBySide at h
  have hf := g_fr.rfl (S := [5, 25, 26, 27, 28, 29, 30, 31]) (T := [(3, 3), (24, 0), (24, 1)]) (M := M)
  obtain ⟨p1, hp1, h⟩ := g_bind h
  have hf := hf.trans ((r_X0_emptyRings hp1).mono (by decide) (by decide))
  obtain ⟨p2, -, h⟩ := g_bind h
  refine hf.trans (r_X11_hangSideBySide_25 ?_ 20000000 p2 (p1.1 24 0) 0 p1 h)
  · intro x2 M h
    try dsimp only at h
    have hf := g_fr.rfl (S := [5, 25, 26, 27, 28, 29, 30, 31]) (T := [(3, 3), (24, 0), (24, 1)]) (M := M)
    refine hf.trans (r_X11_hangSideBySide_78 ?_ 20000000 x2 x2 1 M h)
    · intro x3 M h
      try dsimp only at h
      have hf := g_fr.rfl (S := [5, 25, 26, 27, 28, 29, 30, 31]) (T := [(3, 3), (24, 0), (24, 1)]) (M := M)
      obtain rfl := Option.some.inj h
      exact hf
def f_X11_build_103 (M : g_M) : Option (Int32 × g_M) :=
  (f_X2_tell (-1000000002) M).bind fun p4 => some (p4.1, p4.2)
set_option maxRecDepth 100000 in
theorem t_X11_build_103 {l : Launch} {X : g_X} {Y : g_Y} {p : Int32 × g_M} (C : g_C l (g_rm (4)) RX11 cX11_build 2 X Y) (E : g_E (some .int) X Y (some (.int p.1)) p.2) (M : g_M) (h : f_X11_build_103 M = some p) : g_G 2 X Y 103 [(0, g_r Y 0)] [] M := by
  unfold f_X11_build_103 at h
  refine g_aload_n C 0 dX11_build_103 (q := 104) rfl rfl rfl ?_
  refine g_get C (k := 0) (i := 0) (by decide) (gc_0 Y _ _) rfl kU_X11 (by decide) kF_X11_12 rfl dX11_build_104 (q := 107) rfl ?_
  refine g_ldc C (v := (-1000000002)) kK_X11_99 dX11_build_107 (q := 109) rfl ?_
  obtain ⟨p4, hp4, h⟩ := g_bind h
  refine g_callV C (k := 1) (as := [.int (-1000000002)]) (st := []) (m_X2_tell hp4) (g_hR (by decide)) (by decide) (by decide) (gc_1 Y _ _) rfl kM_X11_91 kI_X2_tell kS_X2_tell kN_X2 kC_X2_tell kD_X2_tell rfl (Nat.le_of_ble_eq_true rfl) dX11_build_109 (q := 112) rfl ?_
  show g_G 2 X Y 112 [(0, g_r Y 0)] [.int p4.1] p4.2
  obtain rfl := Option.some.inj h
  exact g_iret C E dX11_build_112
theorem r_X11_build_103 {p : Int32 × g_M} (M : g_M) (h : f_X11_build_103 M = some p) : g_fr [2, 5, 25, 26, 27, 28, 29, 30, 31, 40, 44, 45] [(1, 1), (3, 3), (24, 0), (24, 1), (39, 1), (39, 2), (43, 1)] M p.2 := by
  unfold f_X11_build_103 at h
  have hf := g_fr.rfl (S := [2, 5, 25, 26, 27, 28, 29, 30, 31, 40, 44, 45]) (T := [(1, 1), (3, 3), (24, 0), (24, 1), (39, 1), (39, 2), (43, 1)]) (M := M)
  obtain ⟨p4, hp4, h⟩ := g_bind h
  have hf := hf.trans ((r_X2_tell hp4).mono (by decide) (by decide))
  obtain rfl := Option.some.inj h
  exact hf
def f_X11_build (M : g_M) : Option (Int32 × g_M) :=
  (if 0 ≤ (M.1 13 1) then ((f_X11_allowedSets M).bind fun p1 => (f_X1_firstFall p1).bind fun p2 => (if p2 < 0 then ((f_X6_findMost_43_39 p1).bind fun p3 => (if (p3.1 43 1) = 0 then ((f_X2_tell (-1000000004) p3).bind fun p7 => some (p7.1, p7.2)) else ((if 24 < (p3.1 43 1) then (f_X11_build_103 p3) else ((f_X4_hasRoomFor ((2 * (p3.1 43 1)) - 1) p3).bind fun p5 => (if p5 = 0 then (f_X11_build_103 p3) else ((f_X11_hangSideBySide p3).bind fun p6 => some (p6.1, p6.2)))))))) else ((f_X2_tell (-1000000003) p1).bind fun p8 => some (p8.1, p8.2)))) else ((f_X2_tell (-1000000005) M).bind fun p9 => some (p9.1, p9.2)))
set_option maxRecDepth 100000 in
theorem m_X11_build {l : Launch} {Y : g_Y} {M : g_M} {p : Int32 × g_M} (h : f_X11_build M = some p) : g_R l Y (4) yX11_build cX11_build 2 (some .int) [g_r Y 0] M (some (.int p.1)) p.2 := by
  unfold f_X11_build at h
  refine g_R_of kP_X11 rfl (Nat.le_of_ble_eq_true rfl) (fun X C E => ?_)
  show g_G 2 X Y 0 [(0, g_r Y 0)] [] M
  refine g_aload_n C 0 dX11_build_0 (q := 1) rfl rfl rfl ?_
  refine g_get C (k := 0) (i := 2) (by decide) (gc_0 Y _ _) rfl kU_X11 (by decide) kF_X11_26 rfl dX11_build_1 (q := 4) rfl ?_
  refine g_get C (k := 13) (i := 1) (by decide) (gc_13 Y _ _) rfl kU_X10 (by decide) kF_X11_166 rfl dX11_build_4 (q := 7) rfl ?_
  have hif := g_if h
  clear h
  refine g_if_ge C dX11_build_7 (q := 10) (tgt := 20) rfl (by decide) (fun c => ?_) (fun c => ?_)
  · have h := hif.1 c
    clear hif
    refine g_aload_n C 0 dX11_build_20 (q := 21) rfl rfl rfl ?_
    obtain ⟨p1, hp1, h⟩ := g_bind h
    refine g_callV C (k := 0) (as := []) (st := []) (m_X11_allowedSets hp1) (g_hR (by decide)) (by decide) (by decide) (gc_0 Y _ _) rfl kM_X11_170 kI_X11_allowedSets kS_X11_allowedSets kN_X11 kC_X11_allowedSets kD_X11_allowedSets rfl (Nat.le_of_ble_eq_true rfl) dX11_build_21 (q := 24) rfl ?_
    show g_G 2 X Y 24 [(0, g_r Y 0)] [g_r Y 39] p1
    refine g_astore_n C dX11_build_24 (q := 25) rfl rfl (by decide) (lv' := [(1, g_r Y 39), (0, g_r Y 0)]) rfl ?_
    refine g_aload_n C 0 dX11_build_25 (q := 26) rfl rfl rfl ?_
    obtain ⟨p2, hp2, h⟩ := g_bind h
    refine g_callV C (k := 39) (as := []) (st := []) (m_X1_firstFall hp2) (g_hR (by decide)) (by decide) (by decide) (gc_39 Y _ _) rfl kM_X11_174 kI_X1_firstFall kS_X1_firstFall kN_X1 kC_X1_firstFall kD_X1_firstFall rfl (Nat.le_of_ble_eq_true rfl) dX11_build_26 (q := 29) rfl ?_
    show g_G 2 X Y 29 [(1, g_r Y 39), (0, g_r Y 0)] [.int p2] p1
    have hif := g_if h
    clear h
    refine g_if_lt C dX11_build_29 (q := 32) (tgt := 42) rfl (by decide) (fun c => ?_) (fun c => ?_)
    · have h := hif.1 c
      clear hif
      refine g_aload_n C 1 dX11_build_42 (q := 43) rfl rfl rfl ?_
      refine g_get C (k := 0) (i := 14) (by decide) (gc_0 Y _ _) rfl kU_X11 (by decide) kF_X11_72 rfl dX11_build_43 (q := 46) rfl ?_
      refine g_aload_n C 0 dX11_build_46 (q := 47) rfl rfl rfl ?_
      obtain ⟨p3, hp3, h⟩ := g_bind h
      refine g_callV C (k := 43) (as := [g_r Y 39]) (st := []) (m_X6_findMost_43_39 hp3) (g_hR (by decide)) (by decide) (by decide) (gc_43 Y _ _) rfl kM_X11_267 kI_X6_findMost kS_X6_findMost kN_X6 kC_X6_findMost kD_X6_findMost rfl (Nat.le_of_ble_eq_true rfl) dX11_build_47 (q := 50) rfl ?_
      show g_G 2 X Y 50 [(1, g_r Y 39), (0, g_r Y 0)] [] p3
      refine g_aload_n C 1 dX11_build_50 (q := 51) rfl rfl rfl ?_
      refine g_get C (k := 0) (i := 14) (by decide) (gc_0 Y _ _) rfl kU_X11 (by decide) kF_X11_72 rfl dX11_build_51 (q := 54) rfl ?_
      refine g_get C (k := 43) (i := 1) (by decide) (gc_43 Y _ _) rfl kU_X6 (by decide) kF_X11_271 rfl dX11_build_54 (q := 57) rfl ?_
      have hif := g_if h
      clear h
      refine g_if_ne C dX11_build_57 (q := 60) (tgt := 70) rfl (by decide) (fun c => ?_) (fun c => ?_)
      · have h := hif.2 c
        clear hif
        refine g_aload_n C 1 dX11_build_70 (q := 71) rfl rfl rfl ?_
        refine g_get C (k := 0) (i := 14) (by decide) (gc_0 Y _ _) rfl kU_X11 (by decide) kF_X11_72 rfl dX11_build_71 (q := 74) rfl ?_
        refine g_get C (k := 43) (i := 1) (by decide) (gc_43 Y _ _) rfl kU_X6 (by decide) kF_X11_271 rfl dX11_build_74 (q := 77) rfl ?_
        refine g_bipush C (v := 24) dX11_build_77 (q := 79) rfl (by decide) ?_
        have hif := g_if h
        clear h
        refine g_icmp_gt C dX11_build_79 (q := 82) (tgt := 103) rfl (by decide) (fun c => ?_) (fun c => ?_)
        · have h := hif.1 c
          clear hif
          refine g_sub [1] (lv' := [(0, g_r Y 0)]) rfl ?_
          exact t_X11_build_103 C E p3 h
        · have h := hif.2 c
          clear hif
          refine g_aload_n C 1 dX11_build_82 (q := 83) rfl rfl rfl ?_
          refine g_get C (k := 0) (i := 3) (by decide) (gc_0 Y _ _) rfl kU_X11 (by decide) kF_X11_33 rfl dX11_build_83 (q := 86) rfl ?_
          refine g_iconst C (v := 2) dX11_build_86 (q := 87) rfl (by decide) ?_
          refine g_aload_n C 1 dX11_build_87 (q := 88) rfl rfl rfl ?_
          refine g_get C (k := 0) (i := 14) (by decide) (gc_0 Y _ _) rfl kU_X11 (by decide) kF_X11_72 rfl dX11_build_88 (q := 91) rfl ?_
          refine g_get C (k := 43) (i := 1) (by decide) (gc_43 Y _ _) rfl kU_X6 (by decide) kF_X11_271 rfl dX11_build_91 (q := 94) rfl ?_
          refine g_imul C dX11_build_94 (q := 95) rfl ?_
          refine g_iconst C (v := 1) dX11_build_95 (q := 96) rfl (by decide) ?_
          refine g_isub C dX11_build_96 (q := 97) rfl ?_
          obtain ⟨p5, hp5, h⟩ := g_bind h
          refine g_callV C (k := 24) (as := [.int ((2 * (p3.1 43 1)) - 1)]) (st := []) (m_X4_hasRoomFor hp5) (g_hR (by decide)) (by decide) (by decide) (gc_24 Y _ _) rfl kM_X11_185 kI_X4_hasRoomFor kS_X4_hasRoomFor kN_X4 kC_X4_hasRoomFor kD_X4_hasRoomFor rfl (Nat.le_of_ble_eq_true rfl) dX11_build_97 (q := 100) rfl ?_
          show g_G 2 X Y 100 [(1, g_r Y 39), (0, g_r Y 0)] [.int p5] p3
          have hif := g_if h
          clear h
          refine g_if_ne C dX11_build_100 (q := 103) (tgt := 113) rfl (by decide) (fun c => ?_) (fun c => ?_)
          · have h := hif.2 c
            clear hif
            refine g_aload_n C 1 dX11_build_113 (q := 114) rfl rfl rfl ?_
            obtain ⟨p6, hp6, h⟩ := g_bind h
            refine g_callV C (k := 0) (as := []) (st := []) (m_X11_hangSideBySide hp6) (g_hR (by decide)) (by decide) (by decide) (gc_0 Y _ _) rfl kM_X11_274 kI_X11_hangSideBySide kS_X11_hangSideBySide kN_X11 kC_X11_hangSideBySide kD_X11_hangSideBySide rfl (Nat.le_of_ble_eq_true rfl) dX11_build_114 (q := 117) rfl ?_
            show g_G 2 X Y 117 [(1, g_r Y 39), (0, g_r Y 0)] [.int p6.1] p6.2
            obtain rfl := Option.some.inj h
            exact g_iret C E dX11_build_117
          · have h := hif.1 c
            clear hif
            refine g_sub [1] (lv' := [(0, g_r Y 0)]) rfl ?_
            exact t_X11_build_103 C E p3 h
      · have h := hif.1 c
        clear hif
        refine g_aload_n C 1 dX11_build_60 (q := 61) rfl rfl rfl ?_
        refine g_get C (k := 0) (i := 0) (by decide) (gc_0 Y _ _) rfl kU_X11 (by decide) kF_X11_12 rfl dX11_build_61 (q := 64) rfl ?_
        refine g_ldc C (v := (-1000000004)) kK_X11_177 dX11_build_64 (q := 66) rfl ?_
        obtain ⟨p7, hp7, h⟩ := g_bind h
        refine g_callV C (k := 1) (as := [.int (-1000000004)]) (st := []) (m_X2_tell hp7) (g_hR (by decide)) (by decide) (by decide) (gc_1 Y _ _) rfl kM_X11_91 kI_X2_tell kS_X2_tell kN_X2 kC_X2_tell kD_X2_tell rfl (Nat.le_of_ble_eq_true rfl) dX11_build_66 (q := 69) rfl ?_
        show g_G 2 X Y 69 [(1, g_r Y 39), (0, g_r Y 0)] [.int p7.1] p7.2
        obtain rfl := Option.some.inj h
        exact g_iret C E dX11_build_69
    · have h := hif.2 c
      clear hif
      refine g_aload_n C 1 dX11_build_32 (q := 33) rfl rfl rfl ?_
      refine g_get C (k := 0) (i := 0) (by decide) (gc_0 Y _ _) rfl kU_X11 (by decide) kF_X11_12 rfl dX11_build_33 (q := 36) rfl ?_
      refine g_ldc C (v := (-1000000003)) kK_X11_206 dX11_build_36 (q := 38) rfl ?_
      obtain ⟨p8, hp8, h⟩ := g_bind h
      refine g_callV C (k := 1) (as := [.int (-1000000003)]) (st := []) (m_X2_tell hp8) (g_hR (by decide)) (by decide) (by decide) (gc_1 Y _ _) rfl kM_X11_91 kI_X2_tell kS_X2_tell kN_X2 kC_X2_tell kD_X2_tell rfl (Nat.le_of_ble_eq_true rfl) dX11_build_38 (q := 41) rfl ?_
      show g_G 2 X Y 41 [(1, g_r Y 39), (0, g_r Y 0)] [.int p8.1] p8.2
      obtain rfl := Option.some.inj h
      exact g_iret C E dX11_build_41
  · have h := hif.2 c
    clear hif
    refine g_aload_n C 0 dX11_build_10 (q := 11) rfl rfl rfl ?_
    refine g_get C (k := 0) (i := 0) (by decide) (gc_0 Y _ _) rfl kU_X11 (by decide) kF_X11_12 rfl dX11_build_11 (q := 14) rfl ?_
    refine g_ldc C (v := (-1000000005)) kK_X11_169 dX11_build_14 (q := 16) rfl ?_
    obtain ⟨p9, hp9, h⟩ := g_bind h
    refine g_callV C (k := 1) (as := [.int (-1000000005)]) (st := []) (m_X2_tell hp9) (g_hR (by decide)) (by decide) (by decide) (gc_1 Y _ _) rfl kM_X11_91 kI_X2_tell kS_X2_tell kN_X2 kC_X2_tell kD_X2_tell rfl (Nat.le_of_ble_eq_true rfl) dX11_build_16 (q := 19) rfl ?_
    show g_G 2 X Y 19 [(0, g_r Y 0)] [.int p9.1] p9.2
    obtain rfl := Option.some.inj h
    exact g_iret C E dX11_build_19
theorem r_X11_build {M : g_M} {p : Int32 × g_M} (h : f_X11_build M = some p) : g_fr [2, 5, 25, 26, 27, 28, 29, 30, 31, 40, 44, 45] [(1, 1), (3, 3), (24, 0), (24, 1), (39, 1), (39, 2), (43, 1)] M p.2 := by
  unfold f_X11_build at h
  have hf := g_fr.rfl (S := [2, 5, 25, 26, 27, 28, 29, 30, 31, 40, 44, 45]) (T := [(1, 1), (3, 3), (24, 0), (24, 1), (39, 1), (39, 2), (43, 1)]) (M := M)
  rcases g_ifs h with h | h
  · obtain ⟨p1, hp1, h⟩ := g_bind h
    have hf := hf.trans ((r_X11_allowedSets hp1).mono (by decide) (by decide))
    obtain ⟨p2, -, h⟩ := g_bind h
    rcases g_ifs h with h | h
    · obtain ⟨p3, hp3, h⟩ := g_bind h
      have hf := hf.trans ((r_X6_findMost_43_39 hp3).mono (by decide) (by decide))
      rcases g_ifs h with h | h
      · obtain ⟨p7, hp7, h⟩ := g_bind h
        have hf := hf.trans ((r_X2_tell hp7).mono (by decide) (by decide))
        obtain rfl := Option.some.inj h
        exact hf
      · rcases g_ifs h with h | h
        · exact hf.trans (r_X11_build_103 p3 h)
        · obtain ⟨p5, -, h⟩ := g_bind h
          rcases g_ifs h with h | h
          · exact hf.trans (r_X11_build_103 p3 h)
          · obtain ⟨p6, hp6, h⟩ := g_bind h
            have hf := hf.trans ((r_X11_hangSideBySide hp6).mono (by decide) (by decide))
            obtain rfl := Option.some.inj h
            exact hf
    · obtain ⟨p8, hp8, h⟩ := g_bind h
      have hf := hf.trans ((r_X2_tell hp8).mono (by decide) (by decide))
      obtain rfl := Option.some.inj h
      exact hf
  · obtain ⟨p9, hp9, h⟩ := g_bind h
    have hf := hf.trans ((r_X2_tell hp9).mono (by decide) (by decide))
    obtain rfl := Option.some.inj h
    exact hf
def f_X11_fewest_40 (M : g_M) : Option (Int32 × g_M) :=
  (f_X2_tell (-1000000007) M).bind fun p3 => some (p3.1, p3.2)
set_option maxRecDepth 100000 in
theorem t_X11_fewest_40 {l : Launch} {X : g_X} {Y : g_Y} {p : Int32 × g_M} (C : g_C l (g_rm (4)) RX11 cX11_fewest 4 X Y) (E : g_E (some .int) X Y (some (.int p.1)) p.2) (M : g_M) (h : f_X11_fewest_40 M = some p) : g_G 4 X Y 40 [(0, g_r Y 0)] [] M := by
  unfold f_X11_fewest_40 at h
  refine g_aload_n C 0 dX11_fewest_40 (q := 41) rfl rfl rfl ?_
  refine g_get C (k := 0) (i := 0) (by decide) (gc_0 Y _ _) rfl kU_X11 (by decide) kF_X11_12 rfl dX11_fewest_41 (q := 44) rfl ?_
  refine g_ldcw C (v := (-1000000007)) kK_X11_277 dX11_fewest_44 (q := 47) rfl ?_
  obtain ⟨p3, hp3, h⟩ := g_bind h
  refine g_callV C (k := 1) (as := [.int (-1000000007)]) (st := []) (m_X2_tell hp3) (g_hR (by decide)) (by decide) (by decide) (gc_1 Y _ _) rfl kM_X11_91 kI_X2_tell kS_X2_tell kN_X2 kC_X2_tell kD_X2_tell rfl (Nat.le_of_ble_eq_true rfl) dX11_fewest_47 (q := 50) rfl ?_
  show g_G 4 X Y 50 [(0, g_r Y 0)] [.int p3.1] p3.2
  obtain rfl := Option.some.inj h
  exact g_iret C E dX11_fewest_50
theorem r_X11_fewest_40 {p : Int32 × g_M} (M : g_M) (h : f_X11_fewest_40 M = some p) : g_fr [2, 40, 47, 48, 49] [(1, 1), (39, 1), (39, 2), (46, 3), (46, 4)] M p.2 := by
  unfold f_X11_fewest_40 at h
  have hf := g_fr.rfl (S := [2, 40, 47, 48, 49]) (T := [(1, 1), (39, 1), (39, 2), (46, 3), (46, 4)]) (M := M)
  obtain ⟨p3, hp3, h⟩ := g_bind h
  have hf := hf.trans ((r_X2_tell hp3).mono (by decide) (by decide))
  obtain rfl := Option.some.inj h
  exact hf
def f_X11_fewest (M : g_M) : Option (Int32 × g_M) :=
  (if 0 ≤ (M.1 13 1) then ((f_X0_present M).bind fun p1 => (f_J6_bitCount_0f7a4 p1 M).bind fun p2 => (if p2 = 0 then (f_X11_fewest_40 M) else ((if p2 ≤ 4 then ((f_X11_allowedSets M).bind fun p4 => (f_X1_firstFall p4).bind fun p5 => (if p5 < 0 then ((f_X1_truth p4).bind fun p6 => (f_X3_locksFor p6 p4).bind fun p7 => (if p7.1 = 0 then ((f_X2_tell (-1000000004) p7.2).bind fun p8 => some (p8.1, p8.2)) else (some (p7.1, p7.2)))) else ((f_X2_tell (-1000000003) p4).bind fun p9 => some (p9.1, p9.2)))) else (f_X11_fewest_40 M))))) else ((f_X2_tell (-1000000005) M).bind fun p10 => some (p10.1, p10.2)))
set_option maxRecDepth 100000 in
theorem m_X11_fewest {l : Launch} {Y : g_Y} {M : g_M} {p : Int32 × g_M} (h : f_X11_fewest M = some p) : g_R l Y (4) yX11_fewest cX11_fewest 4 (some .int) [g_r Y 0] M (some (.int p.1)) p.2 := by
  unfold f_X11_fewest at h
  refine g_R_of kP_X11 rfl (Nat.le_of_ble_eq_true rfl) (fun X C E => ?_)
  show g_G 4 X Y 0 [(0, g_r Y 0)] [] M
  refine g_aload_n C 0 dX11_fewest_0 (q := 1) rfl rfl rfl ?_
  refine g_get C (k := 0) (i := 2) (by decide) (gc_0 Y _ _) rfl kU_X11 (by decide) kF_X11_26 rfl dX11_fewest_1 (q := 4) rfl ?_
  refine g_get C (k := 13) (i := 1) (by decide) (gc_13 Y _ _) rfl kU_X10 (by decide) kF_X11_166 rfl dX11_fewest_4 (q := 7) rfl ?_
  have hif := g_if h
  clear h
  refine g_if_ge C dX11_fewest_7 (q := 10) (tgt := 20) rfl (by decide) (fun c => ?_) (fun c => ?_)
  · have h := hif.1 c
    clear hif
    refine g_aload_n C 0 dX11_fewest_20 (q := 21) rfl rfl rfl ?_
    refine g_get C (k := 0) (i := 1) (by decide) (gc_0 Y _ _) rfl kU_X11 (by decide) kF_X11_19 rfl dX11_fewest_21 (q := 24) rfl ?_
    obtain ⟨p1, hp1, h⟩ := g_bind h
    refine g_callV C (k := 3) (as := []) (st := []) (m_X0_present hp1) (g_hR (by decide)) (by decide) (by decide) (gc_3 Y _ _) rfl kM_X11_159 kI_X0_present kS_X0_present kN_X0 kC_X0_present kD_X0_present rfl (Nat.le_of_ble_eq_true rfl) dX11_fewest_24 (q := 27) rfl ?_
    show g_G 4 X Y 27 [(0, g_r Y 0)] [.int p1] M
    obtain ⟨p2, hp2, h⟩ := g_bind h
    refine g_callS C (as := [.int p1]) (st := []) (m_J6_bitCount_0f7a4 hp2) (g_hR (by decide)) (by decide) kM_X11_117 kT_J6_bitCount_0f7a4 kN_J6 kC_J6_bitCount_0f7a4 kD_J6_bitCount_0f7a4 rfl (Nat.le_of_ble_eq_true rfl) dX11_fewest_27 (q := 30) rfl ?_
    show g_G 4 X Y 30 [(0, g_r Y 0)] [.int p2] M
    refine g_istore_n C dX11_fewest_30 (q := 31) rfl rfl (by decide) (lv' := [(1, .int p2), (0, g_r Y 0)]) rfl ?_
    refine g_iload_n C 0 dX11_fewest_31 (q := 32) rfl rfl rfl ?_
    have hif := g_if h
    clear h
    refine g_if_eq C dX11_fewest_32 (q := 35) (tgt := 40) rfl (by decide) (fun c => ?_) (fun c => ?_)
    · have h := hif.1 c
      clear hif
      refine g_sub [1] (lv' := [(0, g_r Y 0)]) rfl ?_
      exact t_X11_fewest_40 C E M h
    · have h := hif.2 c
      clear hif
      refine g_iload_n C 0 dX11_fewest_35 (q := 36) rfl rfl rfl ?_
      refine g_iconst C (v := 4) dX11_fewest_36 (q := 37) rfl (by decide) ?_
      have hif := g_if h
      clear h
      refine g_icmp_le C dX11_fewest_37 (q := 40) (tgt := 51) rfl (by decide) (fun c => ?_) (fun c => ?_)
      · have h := hif.1 c
        clear hif
        refine g_aload_n C 1 dX11_fewest_51 (q := 52) rfl rfl rfl ?_
        obtain ⟨p4, hp4, h⟩ := g_bind h
        refine g_callV C (k := 0) (as := []) (st := []) (m_X11_allowedSets hp4) (g_hR (by decide)) (by decide) (by decide) (gc_0 Y _ _) rfl kM_X11_170 kI_X11_allowedSets kS_X11_allowedSets kN_X11 kC_X11_allowedSets kD_X11_allowedSets rfl (Nat.le_of_ble_eq_true rfl) dX11_fewest_52 (q := 55) rfl ?_
        show g_G 4 X Y 55 [(1, .int p2), (0, g_r Y 0)] [g_r Y 39] p4
        refine g_astore_n C dX11_fewest_55 (q := 56) rfl rfl (by decide) (lv' := [(2, g_r Y 39), (1, .int p2), (0, g_r Y 0)]) rfl ?_
        refine g_aload_n C 0 dX11_fewest_56 (q := 57) rfl rfl rfl ?_
        obtain ⟨p5, hp5, h⟩ := g_bind h
        refine g_callV C (k := 39) (as := []) (st := []) (m_X1_firstFall hp5) (g_hR (by decide)) (by decide) (by decide) (gc_39 Y _ _) rfl kM_X11_174 kI_X1_firstFall kS_X1_firstFall kN_X1 kC_X1_firstFall kD_X1_firstFall rfl (Nat.le_of_ble_eq_true rfl) dX11_fewest_57 (q := 60) rfl ?_
        show g_G 4 X Y 60 [(2, g_r Y 39), (1, .int p2), (0, g_r Y 0)] [.int p5] p4
        have hif := g_if h
        clear h
        refine g_if_lt C dX11_fewest_60 (q := 63) (tgt := 73) rfl (by decide) (fun c => ?_) (fun c => ?_)
        · have h := hif.1 c
          clear hif
          refine g_aload_n C 2 dX11_fewest_73 (q := 74) rfl rfl rfl ?_
          refine g_get C (k := 0) (i := 15) (by decide) (gc_0 Y _ _) rfl kU_X11 (by decide) kF_X11_79 rfl dX11_fewest_74 (q := 77) rfl ?_
          refine g_aload_n C 0 dX11_fewest_77 (q := 78) rfl rfl rfl ?_
          obtain ⟨p6, hp6, h⟩ := g_bind h
          refine g_callV C (k := 39) (as := []) (st := [g_r Y 46]) (m_X1_truth hp6) (g_hR (by decide)) (by decide) (by decide) (gc_39 Y _ _) rfl kM_X11_278 kI_X1_truth kS_X1_truth kN_X1 kC_X1_truth kD_X1_truth rfl (Nat.le_of_ble_eq_true rfl) dX11_fewest_78 (q := 81) rfl ?_
          show g_G 4 X Y 81 [(2, g_r Y 39), (1, .int p2), (0, g_r Y 0)] [.int p6, g_r Y 46] p4
          obtain ⟨p7, hp7, h⟩ := g_bind h
          refine g_callV C (k := 46) (as := [.int p6]) (st := []) (m_X3_locksFor hp7) (g_hR (by decide)) (by decide) (by decide) (gc_46 Y _ _) rfl kM_X11_281 kI_X3_locksFor kS_X3_locksFor kN_X3 kC_X3_locksFor kD_X3_locksFor rfl (Nat.le_of_ble_eq_true rfl) dX11_fewest_81 (q := 84) rfl ?_
          show g_G 4 X Y 84 [(2, g_r Y 39), (1, .int p2), (0, g_r Y 0)] [.int p7.1] p7.2
          refine g_istore_n C dX11_fewest_84 (q := 85) rfl rfl (by decide) (lv' := [(3, .int p7.1), (2, g_r Y 39), (1, .int p2), (0, g_r Y 0)]) rfl ?_
          refine g_iload_n C 0 dX11_fewest_85 (q := 86) rfl rfl rfl ?_
          have hif := g_if h
          clear h
          refine g_if_ne C dX11_fewest_86 (q := 89) (tgt := 101) rfl (by decide) (fun c => ?_) (fun c => ?_)
          · have h := hif.2 c
            clear hif
            refine g_iload_n C 0 dX11_fewest_101 (q := 102) rfl rfl rfl ?_
            obtain rfl := Option.some.inj h
            exact g_iret C E dX11_fewest_102
          · have h := hif.1 c
            clear hif
            refine g_aload_n C 3 dX11_fewest_89 (q := 90) rfl rfl rfl ?_
            refine g_get C (k := 0) (i := 0) (by decide) (gc_0 Y _ _) rfl kU_X11 (by decide) kF_X11_12 rfl dX11_fewest_90 (q := 93) rfl ?_
            refine g_ldc C (v := (-1000000004)) kK_X11_177 dX11_fewest_93 (q := 95) rfl ?_
            obtain ⟨p8, hp8, h⟩ := g_bind h
            refine g_callV C (k := 1) (as := [.int (-1000000004)]) (st := []) (m_X2_tell hp8) (g_hR (by decide)) (by decide) (by decide) (gc_1 Y _ _) rfl kM_X11_91 kI_X2_tell kS_X2_tell kN_X2 kC_X2_tell kD_X2_tell rfl (Nat.le_of_ble_eq_true rfl) dX11_fewest_95 (q := 98) rfl ?_
            show g_G 4 X Y 98 [(3, .int p7.1), (2, g_r Y 39), (1, .int p2), (0, g_r Y 0)] [.int p8.1] p8.2
            refine g_goto C dX11_fewest_98 (tgt := 102) (by decide) ?_
            obtain rfl := Option.some.inj h
            exact g_iret C E dX11_fewest_102
        · have h := hif.2 c
          clear hif
          refine g_aload_n C 2 dX11_fewest_63 (q := 64) rfl rfl rfl ?_
          refine g_get C (k := 0) (i := 0) (by decide) (gc_0 Y _ _) rfl kU_X11 (by decide) kF_X11_12 rfl dX11_fewest_64 (q := 67) rfl ?_
          refine g_ldc C (v := (-1000000003)) kK_X11_206 dX11_fewest_67 (q := 69) rfl ?_
          obtain ⟨p9, hp9, h⟩ := g_bind h
          refine g_callV C (k := 1) (as := [.int (-1000000003)]) (st := []) (m_X2_tell hp9) (g_hR (by decide)) (by decide) (by decide) (gc_1 Y _ _) rfl kM_X11_91 kI_X2_tell kS_X2_tell kN_X2 kC_X2_tell kD_X2_tell rfl (Nat.le_of_ble_eq_true rfl) dX11_fewest_69 (q := 72) rfl ?_
          show g_G 4 X Y 72 [(2, g_r Y 39), (1, .int p2), (0, g_r Y 0)] [.int p9.1] p9.2
          obtain rfl := Option.some.inj h
          exact g_iret C E dX11_fewest_72
      · have h := hif.2 c
        clear hif
        refine g_sub [1] (lv' := [(0, g_r Y 0)]) rfl ?_
        exact t_X11_fewest_40 C E M h
  · have h := hif.2 c
    clear hif
    refine g_aload_n C 0 dX11_fewest_10 (q := 11) rfl rfl rfl ?_
    refine g_get C (k := 0) (i := 0) (by decide) (gc_0 Y _ _) rfl kU_X11 (by decide) kF_X11_12 rfl dX11_fewest_11 (q := 14) rfl ?_
    refine g_ldc C (v := (-1000000005)) kK_X11_169 dX11_fewest_14 (q := 16) rfl ?_
    obtain ⟨p10, hp10, h⟩ := g_bind h
    refine g_callV C (k := 1) (as := [.int (-1000000005)]) (st := []) (m_X2_tell hp10) (g_hR (by decide)) (by decide) (by decide) (gc_1 Y _ _) rfl kM_X11_91 kI_X2_tell kS_X2_tell kN_X2 kC_X2_tell kD_X2_tell rfl (Nat.le_of_ble_eq_true rfl) dX11_fewest_16 (q := 19) rfl ?_
    show g_G 4 X Y 19 [(0, g_r Y 0)] [.int p10.1] p10.2
    obtain rfl := Option.some.inj h
    exact g_iret C E dX11_fewest_19
theorem r_X11_fewest {M : g_M} {p : Int32 × g_M} (h : f_X11_fewest M = some p) : g_fr [2, 40, 47, 48, 49] [(1, 1), (39, 1), (39, 2), (46, 3), (46, 4)] M p.2 := by
  unfold f_X11_fewest at h
  have hf := g_fr.rfl (S := [2, 40, 47, 48, 49]) (T := [(1, 1), (39, 1), (39, 2), (46, 3), (46, 4)]) (M := M)
  rcases g_ifs h with h | h
  · obtain ⟨p1, -, h⟩ := g_bind h
    obtain ⟨p2, -, h⟩ := g_bind h
    rcases g_ifs h with h | h
    · exact hf.trans (r_X11_fewest_40 M h)
    · rcases g_ifs h with h | h
      · obtain ⟨p4, hp4, h⟩ := g_bind h
        have hf := hf.trans ((r_X11_allowedSets hp4).mono (by decide) (by decide))
        obtain ⟨p5, -, h⟩ := g_bind h
        rcases g_ifs h with h | h
        · obtain ⟨p6, -, h⟩ := g_bind h
          obtain ⟨p7, hp7, h⟩ := g_bind h
          have hf := hf.trans ((r_X3_locksFor hp7).mono (by decide) (by decide))
          rcases g_ifs h with h | h
          · obtain ⟨p8, hp8, h⟩ := g_bind h
            have hf := hf.trans ((r_X2_tell hp8).mono (by decide) (by decide))
            obtain rfl := Option.some.inj h
            exact hf
          · obtain rfl := Option.some.inj h
            exact hf
        · obtain ⟨p9, hp9, h⟩ := g_bind h
          have hf := hf.trans ((r_X2_tell hp9).mono (by decide) (by decide))
          obtain rfl := Option.some.inj h
          exact hf
      · exact hf.trans (r_X11_fewest_40 M h)
  · obtain ⟨p10, hp10, h⟩ := g_bind h
    have hf := hf.trans ((r_X2_tell hp10).mono (by decide) (by decide))
    obtain rfl := Option.some.inj h
    exact hf
def f_X11_isSpare_99 (k : Int32 → Int32 → Int32 → Int32 → Int32 → Option (Int32)) (k130 : Option (Int32)) (x1 : Int32) (x4 : Int32) (x5 : Int32) (x6 : Int32) (x7 : Int32) (x8 : Int32) (s0 : Int32) (M : g_M) : Option (Int32) :=
  (if s0 = 0 then (k x1 x4 x5 x6 (x7 + 1)) else ((g_ld M 37 1024 x8).bind fun v4 => (f_X4_isOpenInTheEnd x1 (v4 ||| x6) M).bind fun p5 => (if p5 = 0 then (k130) else (k x1 x4 x5 x6 (x7 + 1)))))
set_option maxRecDepth 100000 in
theorem t_X11_isSpare_99 {l : Launch} {X : g_X} {Y : g_Y} {p : Int32} {M : g_M} {k : Int32 → Int32 → Int32 → Int32 → Int32 → Option (Int32)} {k130 : Option (Int32)} (C : g_C l (g_rm (4)) RX11 cX11_isSpare 10 X Y) (E : g_E (some .boolean) X Y (some (.int p)) M) (ih : ∀ (x1 : Int32) (x4 : Int32) (x5 : Int32) (x6 : Int32) (x7 : Int32), k x1 x4 x5 x6 x7 = some p → g_G 10 X Y 35 [(0, g_r Y 0), (1, .int x1), (4, .int x4), (5, .int x5), (6, .int x6), (7, .int x7)] [] M) (hk130 : k130 = some p → g_G 10 X Y 130 [] [] M) (x1 : Int32) (x4 : Int32) (x5 : Int32) (x6 : Int32) (x7 : Int32) (x8 : Int32) (s0 : Int32) (h : f_X11_isSpare_99 k k130 x1 x4 x5 x6 x7 x8 s0 M = some p) : g_G 10 X Y 99 [(0, g_r Y 0), (1, .int x1), (4, .int x4), (5, .int x5), (6, .int x6), (7, .int x7), (8, .int x8)] [.int s0] M := by
  unfold f_X11_isSpare_99 at h
  refine g_istore C dX11_isSpare_99 (q := 101) rfl (by decide) (lv' := [(9, .int s0), (0, g_r Y 0), (1, .int x1), (4, .int x4), (5, .int x5), (6, .int x6), (7, .int x7), (8, .int x8)]) rfl ?_
  refine g_iload C 0 dX11_isSpare_101 (q := 103) rfl rfl ?_
  have hif := g_if h
  clear h
  refine g_if_eq C dX11_isSpare_103 (q := 106) (tgt := 132) rfl (by decide) (fun c => ?_) (fun c => ?_)
  · have h := hif.1 c
    clear hif
    refine g_iinc C (k := 6) (v := x7 + 1) dX11_isSpare_132 (q := 135) rfl rfl rfl (by decide) (lv' := [(7, .int (x7 + 1)), (9, .int s0), (0, g_r Y 0), (1, .int x1), (4, .int x4), (5, .int x5), (6, .int x6), (8, .int x8)]) rfl ?_
    refine g_goto C dX11_isSpare_135 (tgt := 35) (by decide) ?_
    refine g_sub [2, 3, 4, 5, 6, 0] (lv' := [(0, g_r Y 0), (1, .int x1), (4, .int x4), (5, .int x5), (6, .int x6), (7, .int (x7 + 1))]) rfl ?_
    exact ih x1 x4 x5 x6 (x7 + 1) h
  · have h := hif.2 c
    clear hif
    refine g_aload_n C 1 dX11_isSpare_106 (q := 107) rfl rfl rfl ?_
    refine g_get C (k := 0) (i := 3) (by decide) (gc_0 Y _ _) rfl kU_X11 (by decide) kF_X11_33 rfl dX11_isSpare_107 (q := 110) rfl ?_
    refine g_iload_n C 2 dX11_isSpare_110 (q := 111) rfl rfl rfl ?_
    refine g_aload_n C 1 dX11_isSpare_111 (q := 112) rfl rfl rfl ?_
    refine g_get C (k := 0) (i := 11) (by decide) (gc_0 Y _ _) rfl kU_X11 (by decide) kF_X11_55 rfl dX11_isSpare_112 (q := 115) rfl ?_
    refine g_get C (k := 36) (i := 0) (by decide) (gc_36 Y _ _) rfl kU_X5 (by decide) kF_X11_398 rfl dX11_isSpare_115 (q := 118) rfl ?_
    refine g_iload C 7 dX11_isSpare_118 (q := 120) rfl rfl ?_
    obtain ⟨v4, hv4, h⟩ := g_bind h
    refine g_iald C (k := 37) (n := 1024) (by decide) (gc_37 Y _ _) hv4 dX11_isSpare_120 (q := 121) rfl ?_
    refine g_iload C 5 dX11_isSpare_121 (q := 123) rfl rfl ?_
    refine g_ior C dX11_isSpare_123 (q := 124) rfl ?_
    obtain ⟨p5, hp5, h⟩ := g_bind h
    refine g_callV C (k := 24) (as := [.int x1, .int (v4 ||| x6)]) (st := []) (m_X4_isOpenInTheEnd hp5) (g_hR (by decide)) (by decide) (by decide) (gc_24 Y _ _) rfl kM_X11_238 kI_X4_isOpenInTheEnd kS_X4_isOpenInTheEnd kN_X4 kC_X4_isOpenInTheEnd kD_X4_isOpenInTheEnd rfl (Nat.le_of_ble_eq_true rfl) dX11_isSpare_124 (q := 127) rfl ?_
    show g_G 10 X Y 127 [(9, .int s0), (0, g_r Y 0), (1, .int x1), (4, .int x4), (5, .int x5), (6, .int x6), (7, .int x7), (8, .int x8)] [.int p5] M
    have hif := g_if h
    clear h
    refine g_if_ne C dX11_isSpare_127 (q := 130) (tgt := 132) rfl (by decide) (fun c => ?_) (fun c => ?_)
    · have h := hif.2 c
      clear hif
      refine g_iinc C (k := 6) (v := x7 + 1) dX11_isSpare_132 (q := 135) rfl rfl rfl (by decide) (lv' := [(7, .int (x7 + 1)), (9, .int s0), (0, g_r Y 0), (1, .int x1), (4, .int x4), (5, .int x5), (6, .int x6), (8, .int x8)]) rfl ?_
      refine g_goto C dX11_isSpare_135 (tgt := 35) (by decide) ?_
      refine g_sub [2, 3, 4, 5, 6, 0] (lv' := [(0, g_r Y 0), (1, .int x1), (4, .int x4), (5, .int x5), (6, .int x6), (7, .int (x7 + 1))]) rfl ?_
      exact ih x1 x4 x5 x6 (x7 + 1) h
    · have h := hif.1 c
      clear hif
      refine g_sub [] (lv' := []) rfl ?_
      exact hk130 h
def f_X11_isSpare_98 (k : Int32 → Int32 → Int32 → Int32 → Int32 → Option (Int32)) (k130 : Option (Int32)) (x1 : Int32) (x4 : Int32) (x5 : Int32) (x6 : Int32) (x7 : Int32) (x8 : Int32) (M : g_M) : Option (Int32) :=
  f_X11_isSpare_99 k k130 x1 x4 x5 x6 x7 x8 0 M
set_option maxRecDepth 100000 in
theorem t_X11_isSpare_98 {l : Launch} {X : g_X} {Y : g_Y} {p : Int32} {M : g_M} {k : Int32 → Int32 → Int32 → Int32 → Int32 → Option (Int32)} {k130 : Option (Int32)} (C : g_C l (g_rm (4)) RX11 cX11_isSpare 10 X Y) (E : g_E (some .boolean) X Y (some (.int p)) M) (ih : ∀ (x1 : Int32) (x4 : Int32) (x5 : Int32) (x6 : Int32) (x7 : Int32), k x1 x4 x5 x6 x7 = some p → g_G 10 X Y 35 [(0, g_r Y 0), (1, .int x1), (4, .int x4), (5, .int x5), (6, .int x6), (7, .int x7)] [] M) (hk130 : k130 = some p → g_G 10 X Y 130 [] [] M) (x1 : Int32) (x4 : Int32) (x5 : Int32) (x6 : Int32) (x7 : Int32) (x8 : Int32) (h : f_X11_isSpare_98 k k130 x1 x4 x5 x6 x7 x8 M = some p) : g_G 10 X Y 98 [(0, g_r Y 0), (1, .int x1), (4, .int x4), (5, .int x5), (6, .int x6), (7, .int x7), (8, .int x8)] [] M := by
  unfold f_X11_isSpare_98 at h
  refine g_iconst C (v := 0) dX11_isSpare_98 (q := 99) rfl (by decide) ?_
  refine g_sub [0, 1, 2, 3, 4, 5, 6] (lv' := [(0, g_r Y 0), (1, .int x1), (4, .int x4), (5, .int x5), (6, .int x6), (7, .int x7), (8, .int x8)]) rfl ?_
  exact t_X11_isSpare_99 C E ih hk130 x1 x4 x5 x6 x7 x8 0 h
def f_X11_isSpare_99_b (k : Int32 → Int32 → Int32 → Int32 → Int32 → Option (Int32)) (k130 : Option (Int32)) (x1 : Int32) (x4 : Int32) (x5 : Int32) (x6 : Int32) (x7 : Int32) (x8 : Int32) (s0 : Int32) (M : g_M) : Option (Int32) :=
  (if s0 = 0 then (k x1 x4 x5 x6 (x7 + 1)) else ((g_ld M 37 1024 x8).bind fun v8 => (f_X4_isOpenInTheEnd x1 (v8 ||| x6) M).bind fun p9 => (if p9 = 0 then (k130) else (k x1 x4 x5 x6 (x7 + 1)))))
set_option maxRecDepth 100000 in
theorem t_X11_isSpare_99_b {l : Launch} {X : g_X} {Y : g_Y} {p : Int32} {M : g_M} {k : Int32 → Int32 → Int32 → Int32 → Int32 → Option (Int32)} {k130 : Option (Int32)} (C : g_C l (g_rm (4)) RX11 cX11_isSpare 10 X Y) (E : g_E (some .boolean) X Y (some (.int p)) M) (ih : ∀ (x1 : Int32) (x4 : Int32) (x5 : Int32) (x6 : Int32) (x7 : Int32), k x1 x4 x5 x6 x7 = some p → g_G 10 X Y 35 [(0, g_r Y 0), (1, .int x1), (4, .int x4), (5, .int x5), (6, .int x6), (7, .int x7)] [] M) (hk130 : k130 = some p → g_G 10 X Y 130 [] [] M) (x1 : Int32) (x4 : Int32) (x5 : Int32) (x6 : Int32) (x7 : Int32) (x8 : Int32) (s0 : Int32) (h : f_X11_isSpare_99_b k k130 x1 x4 x5 x6 x7 x8 s0 M = some p) : g_G 10 X Y 99 [(0, g_r Y 0), (1, .int x1), (4, .int x4), (5, .int x5), (6, .int x6), (7, .int x7), (8, .int x8)] [.int s0] M := by
  unfold f_X11_isSpare_99_b at h
  refine g_istore C dX11_isSpare_99 (q := 101) rfl (by decide) (lv' := [(9, .int s0), (0, g_r Y 0), (1, .int x1), (4, .int x4), (5, .int x5), (6, .int x6), (7, .int x7), (8, .int x8)]) rfl ?_
  refine g_iload C 0 dX11_isSpare_101 (q := 103) rfl rfl ?_
  have hif := g_if h
  clear h
  refine g_if_eq C dX11_isSpare_103 (q := 106) (tgt := 132) rfl (by decide) (fun c => ?_) (fun c => ?_)
  · have h := hif.1 c
    clear hif
    refine g_iinc C (k := 6) (v := x7 + 1) dX11_isSpare_132 (q := 135) rfl rfl rfl (by decide) (lv' := [(7, .int (x7 + 1)), (9, .int s0), (0, g_r Y 0), (1, .int x1), (4, .int x4), (5, .int x5), (6, .int x6), (8, .int x8)]) rfl ?_
    refine g_goto C dX11_isSpare_135 (tgt := 35) (by decide) ?_
    refine g_sub [2, 3, 4, 5, 6, 0] (lv' := [(0, g_r Y 0), (1, .int x1), (4, .int x4), (5, .int x5), (6, .int x6), (7, .int (x7 + 1))]) rfl ?_
    exact ih x1 x4 x5 x6 (x7 + 1) h
  · have h := hif.2 c
    clear hif
    refine g_aload_n C 1 dX11_isSpare_106 (q := 107) rfl rfl rfl ?_
    refine g_get C (k := 0) (i := 3) (by decide) (gc_0 Y _ _) rfl kU_X11 (by decide) kF_X11_33 rfl dX11_isSpare_107 (q := 110) rfl ?_
    refine g_iload_n C 2 dX11_isSpare_110 (q := 111) rfl rfl rfl ?_
    refine g_aload_n C 1 dX11_isSpare_111 (q := 112) rfl rfl rfl ?_
    refine g_get C (k := 0) (i := 11) (by decide) (gc_0 Y _ _) rfl kU_X11 (by decide) kF_X11_55 rfl dX11_isSpare_112 (q := 115) rfl ?_
    refine g_get C (k := 36) (i := 0) (by decide) (gc_36 Y _ _) rfl kU_X5 (by decide) kF_X11_398 rfl dX11_isSpare_115 (q := 118) rfl ?_
    refine g_iload C 7 dX11_isSpare_118 (q := 120) rfl rfl ?_
    obtain ⟨v8, hv8, h⟩ := g_bind h
    refine g_iald C (k := 37) (n := 1024) (by decide) (gc_37 Y _ _) hv8 dX11_isSpare_120 (q := 121) rfl ?_
    refine g_iload C 5 dX11_isSpare_121 (q := 123) rfl rfl ?_
    refine g_ior C dX11_isSpare_123 (q := 124) rfl ?_
    obtain ⟨p9, hp9, h⟩ := g_bind h
    refine g_callV C (k := 24) (as := [.int x1, .int (v8 ||| x6)]) (st := []) (m_X4_isOpenInTheEnd hp9) (g_hR (by decide)) (by decide) (by decide) (gc_24 Y _ _) rfl kM_X11_238 kI_X4_isOpenInTheEnd kS_X4_isOpenInTheEnd kN_X4 kC_X4_isOpenInTheEnd kD_X4_isOpenInTheEnd rfl (Nat.le_of_ble_eq_true rfl) dX11_isSpare_124 (q := 127) rfl ?_
    show g_G 10 X Y 127 [(9, .int s0), (0, g_r Y 0), (1, .int x1), (4, .int x4), (5, .int x5), (6, .int x6), (7, .int x7), (8, .int x8)] [.int p9] M
    have hif := g_if h
    clear h
    refine g_if_ne C dX11_isSpare_127 (q := 130) (tgt := 132) rfl (by decide) (fun c => ?_) (fun c => ?_)
    · have h := hif.2 c
      clear hif
      refine g_iinc C (k := 6) (v := x7 + 1) dX11_isSpare_132 (q := 135) rfl rfl rfl (by decide) (lv' := [(7, .int (x7 + 1)), (9, .int s0), (0, g_r Y 0), (1, .int x1), (4, .int x4), (5, .int x5), (6, .int x6), (8, .int x8)]) rfl ?_
      refine g_goto C dX11_isSpare_135 (tgt := 35) (by decide) ?_
      refine g_sub [2, 3, 4, 5, 6, 0] (lv' := [(0, g_r Y 0), (1, .int x1), (4, .int x4), (5, .int x5), (6, .int x6), (7, .int (x7 + 1))]) rfl ?_
      exact ih x1 x4 x5 x6 (x7 + 1) h
    · have h := hif.1 c
      clear hif
      refine g_sub [] (lv' := []) rfl ?_
      exact hk130 h
def F_X11_isSpare_35 (M : g_M) (k130 : Option (Int32)) (k138 : Option (Int32)) (k : Int32 → Int32 → Int32 → Int32 → Int32 → Option (Int32)) (x1 : Int32) (x4 : Int32) (x5 : Int32) (x6 : Int32) (x7 : Int32) : Option (Int32) :=
  (if x5 < x7 then (k138) else ((if (x7 &&& (x5 ^^^ (-1))) = 0 then ((if (x7 &&& (x4 ^^^ (-1))) = x7 then (f_X11_isSpare_98 k k130 x1 x4 x5 x6 x7 (x7 &&& (x4 ^^^ (-1))) M) else ((f_X5_isOpen x1 x7 M).bind fun p6 => (if p6 = 0 then (f_X11_isSpare_98 k k130 x1 x4 x5 x6 x7 (x7 &&& (x4 ^^^ (-1))) M) else ((f_X5_isOpen x1 (x7 &&& (x4 ^^^ (-1))) M).bind fun p7 => (if p7 = 0 then (f_X11_isSpare_99_b k k130 x1 x4 x5 x6 x7 (x7 &&& (x4 ^^^ (-1))) 1 M) else (f_X11_isSpare_98 k k130 x1 x4 x5 x6 x7 (x7 &&& (x4 ^^^ (-1))) M))))))) else (f_X11_isSpare_98 k k130 x1 x4 x5 x6 x7 (x7 &&& (x4 ^^^ (-1))) M))))
set_option maxRecDepth 100000 in
theorem t_X11_isSpare_35 {l : Launch} {X : g_X} {Y : g_Y} {p : Int32} {M : g_M} {k130 : Option (Int32)} {k138 : Option (Int32)} (C : g_C l (g_rm (4)) RX11 cX11_isSpare 10 X Y) (E : g_E (some .boolean) X Y (some (.int p)) M) (hk130 : k130 = some p → g_G 10 X Y 130 [] [] M) (hk138 : k138 = some p → g_G 10 X Y 138 [] [] M) (n : Nat) : ∀ (x1 : Int32) (x4 : Int32) (x5 : Int32) (x6 : Int32) (x7 : Int32), g_lq5 (F_X11_isSpare_35 M k130 k138) n x1 x4 x5 x6 x7 = some p → g_G 10 X Y 35 [(0, g_r Y 0), (1, .int x1), (4, .int x4), (5, .int x5), (6, .int x6), (7, .int x7)] [] M := by
  induction n with
  | zero => intro x1 x4 x5 x6 x7 h; exact (g_nn h).elim
  | succ n ih =>
    intro x1 x4 x5 x6 x7 h
    have h : F_X11_isSpare_35 M k130 k138 (g_lq5 (F_X11_isSpare_35 M k130 k138) n) x1 x4 x5 x6 x7 = some p := h
    generalize g_lq5 (F_X11_isSpare_35 M k130 k138) n = k at h ih
    unfold F_X11_isSpare_35 at h
    refine g_iload C 5 dX11_isSpare_35 (q := 37) rfl rfl ?_
    refine g_iload C 3 dX11_isSpare_37 (q := 39) rfl rfl ?_
    have hif := g_if h
    clear h
    refine g_icmp_gt C dX11_isSpare_39 (q := 42) (tgt := 138) rfl (by decide) (fun c => ?_) (fun c => ?_)
    · have h := hif.1 c
      clear hif
      refine g_sub [] (lv' := []) rfl ?_
      exact hk138 h
    · have h := hif.2 c
      clear hif
      refine g_iload C 5 dX11_isSpare_42 (q := 44) rfl rfl ?_
      refine g_iload C 2 dX11_isSpare_44 (q := 46) rfl rfl ?_
      refine g_iconst C (v := (-1)) dX11_isSpare_46 (q := 47) rfl (by decide) ?_
      refine g_ixor C dX11_isSpare_47 (q := 48) rfl ?_
      refine g_iand C dX11_isSpare_48 (q := 49) rfl ?_
      refine g_istore C dX11_isSpare_49 (q := 51) rfl (by decide) (lv' := [(8, .int (x7 &&& (x4 ^^^ (-1)))), (0, g_r Y 0), (1, .int x1), (4, .int x4), (5, .int x5), (6, .int x6), (7, .int x7)]) rfl ?_
      refine g_iload C 6 dX11_isSpare_51 (q := 53) rfl rfl ?_
      refine g_iload C 4 dX11_isSpare_53 (q := 55) rfl rfl ?_
      refine g_iconst C (v := (-1)) dX11_isSpare_55 (q := 56) rfl (by decide) ?_
      refine g_ixor C dX11_isSpare_56 (q := 57) rfl ?_
      refine g_iand C dX11_isSpare_57 (q := 58) rfl ?_
      have hif := g_if h
      clear h
      refine g_if_ne C dX11_isSpare_58 (q := 61) (tgt := 98) rfl (by decide) (fun c => ?_) (fun c => ?_)
      · have h := hif.2 c
        clear hif
        refine g_sub [1, 2, 3, 4, 5, 6, 0] (lv' := [(0, g_r Y 0), (1, .int x1), (4, .int x4), (5, .int x5), (6, .int x6), (7, .int x7), (8, .int (x7 &&& (x4 ^^^ (-1))))]) rfl ?_
        exact t_X11_isSpare_98 C E ih hk130 x1 x4 x5 x6 x7 (x7 &&& (x4 ^^^ (-1))) h
      · have h := hif.1 c
        clear hif
        refine g_iload C 0 dX11_isSpare_61 (q := 63) rfl rfl ?_
        refine g_iload C 6 dX11_isSpare_63 (q := 65) rfl rfl ?_
        have hif := g_if h
        clear h
        refine g_icmp_eq C dX11_isSpare_65 (q := 68) (tgt := 98) rfl (by decide) (fun c => ?_) (fun c => ?_)
        · have h := hif.1 c
          clear hif
          refine g_sub [1, 2, 3, 4, 5, 6, 0] (lv' := [(0, g_r Y 0), (1, .int x1), (4, .int x4), (5, .int x5), (6, .int x6), (7, .int x7), (8, .int (x7 &&& (x4 ^^^ (-1))))]) rfl ?_
          exact t_X11_isSpare_98 C E ih hk130 x1 x4 x5 x6 x7 (x7 &&& (x4 ^^^ (-1))) h
        · have h := hif.2 c
          clear hif
          refine g_aload_n C 1 dX11_isSpare_68 (q := 69) rfl rfl rfl ?_
          refine g_get C (k := 0) (i := 11) (by decide) (gc_0 Y _ _) rfl kU_X11 (by decide) kF_X11_55 rfl dX11_isSpare_69 (q := 72) rfl ?_
          refine g_iload_n C 2 dX11_isSpare_72 (q := 73) rfl rfl rfl ?_
          refine g_iload C 6 dX11_isSpare_73 (q := 75) rfl rfl ?_
          obtain ⟨p6, hp6, h⟩ := g_bind h
          refine g_callV C (k := 36) (as := [.int x1, .int x7]) (st := []) (m_X5_isOpen hp6) (g_hR (by decide)) (by decide) (by decide) (gc_36 Y _ _) rfl kM_X11_257 kI_X5_isOpen kS_X5_isOpen kN_X5 kC_X5_isOpen kD_X5_isOpen rfl (Nat.le_of_ble_eq_true rfl) dX11_isSpare_75 (q := 78) rfl ?_
          show g_G 10 X Y 78 [(8, .int (x7 &&& (x4 ^^^ (-1)))), (0, g_r Y 0), (1, .int x1), (4, .int x4), (5, .int x5), (6, .int x6), (7, .int x7)] [.int p6] M
          have hif := g_if h
          clear h
          refine g_if_eq C dX11_isSpare_78 (q := 81) (tgt := 98) rfl (by decide) (fun c => ?_) (fun c => ?_)
          · have h := hif.1 c
            clear hif
            refine g_sub [1, 2, 3, 4, 5, 6, 0] (lv' := [(0, g_r Y 0), (1, .int x1), (4, .int x4), (5, .int x5), (6, .int x6), (7, .int x7), (8, .int (x7 &&& (x4 ^^^ (-1))))]) rfl ?_
            exact t_X11_isSpare_98 C E ih hk130 x1 x4 x5 x6 x7 (x7 &&& (x4 ^^^ (-1))) h
          · have h := hif.2 c
            clear hif
            refine g_aload_n C 1 dX11_isSpare_81 (q := 82) rfl rfl rfl ?_
            refine g_get C (k := 0) (i := 11) (by decide) (gc_0 Y _ _) rfl kU_X11 (by decide) kF_X11_55 rfl dX11_isSpare_82 (q := 85) rfl ?_
            refine g_iload_n C 2 dX11_isSpare_85 (q := 86) rfl rfl rfl ?_
            refine g_iload C 0 dX11_isSpare_86 (q := 88) rfl rfl ?_
            obtain ⟨p7, hp7, h⟩ := g_bind h
            refine g_callV C (k := 36) (as := [.int x1, .int (x7 &&& (x4 ^^^ (-1)))]) (st := []) (m_X5_isOpen hp7) (g_hR (by decide)) (by decide) (by decide) (gc_36 Y _ _) rfl kM_X11_257 kI_X5_isOpen kS_X5_isOpen kN_X5 kC_X5_isOpen kD_X5_isOpen rfl (Nat.le_of_ble_eq_true rfl) dX11_isSpare_88 (q := 91) rfl ?_
            show g_G 10 X Y 91 [(8, .int (x7 &&& (x4 ^^^ (-1)))), (0, g_r Y 0), (1, .int x1), (4, .int x4), (5, .int x5), (6, .int x6), (7, .int x7)] [.int p7] M
            have hif := g_if h
            clear h
            refine g_if_ne C dX11_isSpare_91 (q := 94) (tgt := 98) rfl (by decide) (fun c => ?_) (fun c => ?_)
            · have h := hif.2 c
              clear hif
              refine g_sub [1, 2, 3, 4, 5, 6, 0] (lv' := [(0, g_r Y 0), (1, .int x1), (4, .int x4), (5, .int x5), (6, .int x6), (7, .int x7), (8, .int (x7 &&& (x4 ^^^ (-1))))]) rfl ?_
              exact t_X11_isSpare_98 C E ih hk130 x1 x4 x5 x6 x7 (x7 &&& (x4 ^^^ (-1))) h
            · have h := hif.1 c
              clear hif
              refine g_iconst C (v := 1) dX11_isSpare_94 (q := 95) rfl (by decide) ?_
              refine g_goto C dX11_isSpare_95 (tgt := 99) (by decide) ?_
              refine g_sub [1, 2, 3, 4, 5, 6, 0] (lv' := [(0, g_r Y 0), (1, .int x1), (4, .int x4), (5, .int x5), (6, .int x6), (7, .int x7), (8, .int (x7 &&& (x4 ^^^ (-1))))]) rfl ?_
              exact t_X11_isSpare_99_b C E ih hk130 x1 x4 x5 x6 x7 (x7 &&& (x4 ^^^ (-1))) 1 h
def f_X11_isSpare (x1 : Int32) (x2 : Int32) (x3 : Int32) (M : g_M) : Option (Int32) :=
  (f_X0_present M).bind fun p1 => (g_ld M 5 10 x2).bind fun v2 => (some (v2 &&& (((1 : Int32) <<< (x3 &&& 31)) ^^^ (-1)))).bind fun y3 => g_lq5 (F_X11_isSpare_35 M (some 0) (some 1)) 20000000 x1 ((1 : Int32) <<< (x2 &&& 31)) p1 y3 ((1 : Int32) <<< (x2 &&& 31))
set_option maxRecDepth 100000 in
theorem m_X11_isSpare {l : Launch} {Y : g_Y} {x1 : Int32} {x2 : Int32} {x3 : Int32} {M : g_M} {p : Int32} (h : f_X11_isSpare x1 x2 x3 M = some p) : g_R l Y (4) yX11_isSpare cX11_isSpare 10 (some .boolean) [g_r Y 0, .int x1, .int x2, .int x3] M (some (.int p)) M := by
  unfold f_X11_isSpare at h
  refine g_R_of kP_X11 rfl (Nat.le_of_ble_eq_true rfl) (fun X C E => ?_)
  show g_G 10 X Y 0 [(0, g_r Y 0), (1, .int x1), (2, .int x2), (3, .int x3)] [] M
  refine g_iconst C (v := 1) dX11_isSpare_0 (q := 1) rfl (by decide) ?_
  refine g_iload_n C 2 dX11_isSpare_1 (q := 2) rfl rfl rfl ?_
  refine g_ishl C dX11_isSpare_2 (q := 3) rfl ?_
  refine g_istore C dX11_isSpare_3 (q := 5) rfl (by decide) (lv' := [(4, .int ((1 : Int32) <<< (x2 &&& 31))), (0, g_r Y 0), (1, .int x1), (2, .int x2), (3, .int x3)]) rfl ?_
  refine g_aload_n C 1 dX11_isSpare_5 (q := 6) rfl rfl rfl ?_
  refine g_get C (k := 0) (i := 1) (by decide) (gc_0 Y _ _) rfl kU_X11 (by decide) kF_X11_19 rfl dX11_isSpare_6 (q := 9) rfl ?_
  obtain ⟨p1, hp1, h⟩ := g_bind h
  refine g_callV C (k := 3) (as := []) (st := []) (m_X0_present hp1) (g_hR (by decide)) (by decide) (by decide) (gc_3 Y _ _) rfl kM_X11_159 kI_X0_present kS_X0_present kN_X0 kC_X0_present kD_X0_present rfl (Nat.le_of_ble_eq_true rfl) dX11_isSpare_9 (q := 12) rfl ?_
  show g_G 10 X Y 12 [(4, .int ((1 : Int32) <<< (x2 &&& 31))), (0, g_r Y 0), (1, .int x1), (2, .int x2), (3, .int x3)] [.int p1] M
  refine g_istore C dX11_isSpare_12 (q := 14) rfl (by decide) (lv' := [(5, .int p1), (4, .int ((1 : Int32) <<< (x2 &&& 31))), (0, g_r Y 0), (1, .int x1), (2, .int x2), (3, .int x3)]) rfl ?_
  refine g_aload_n C 2 dX11_isSpare_14 (q := 15) rfl rfl rfl ?_
  refine g_get C (k := 0) (i := 1) (by decide) (gc_0 Y _ _) rfl kU_X11 (by decide) kF_X11_19 rfl dX11_isSpare_15 (q := 18) rfl ?_
  refine g_get C (k := 3) (i := 5) (by decide) (gc_3 Y _ _) rfl kU_X0 (by decide) kF_X11_114 rfl dX11_isSpare_18 (q := 21) rfl ?_
  refine g_iload_n C 4 dX11_isSpare_21 (q := 22) rfl rfl rfl ?_
  obtain ⟨v2, hv2, h⟩ := g_bind h
  refine g_iald C (k := 5) (n := 10) (by decide) (gc_5 Y _ _) hv2 dX11_isSpare_22 (q := 23) rfl ?_
  refine g_iconst C (v := 1) dX11_isSpare_23 (q := 24) rfl (by decide) ?_
  refine g_iload_n C 5 dX11_isSpare_24 (q := 25) rfl rfl rfl ?_
  refine g_ishl C dX11_isSpare_25 (q := 26) rfl ?_
  refine g_iconst C (v := (-1)) dX11_isSpare_26 (q := 27) rfl (by decide) ?_
  refine g_ixor C dX11_isSpare_27 (q := 28) rfl ?_
  refine g_iand C dX11_isSpare_28 (q := 29) rfl ?_
  obtain ⟨y3, hy3, h⟩ := g_bind h
  refine g_top hy3 ?_
  refine g_istore C dX11_isSpare_29 (q := 31) rfl (by decide) (lv' := [(6, .int y3), (5, .int p1), (4, .int ((1 : Int32) <<< (x2 &&& 31))), (0, g_r Y 0), (1, .int x1), (2, .int x2), (3, .int x3)]) rfl ?_
  refine g_iload C 2 dX11_isSpare_31 (q := 33) rfl rfl ?_
  refine g_istore C dX11_isSpare_33 (q := 35) rfl (by decide) (lv' := [(7, .int ((1 : Int32) <<< (x2 &&& 31))), (6, .int y3), (5, .int p1), (4, .int ((1 : Int32) <<< (x2 &&& 31))), (0, g_r Y 0), (1, .int x1), (2, .int x2), (3, .int x3)]) rfl ?_
  refine g_sub [4, 5, 3, 2, 1, 0] (lv' := [(0, g_r Y 0), (1, .int x1), (4, .int ((1 : Int32) <<< (x2 &&& 31))), (5, .int p1), (6, .int y3), (7, .int ((1 : Int32) <<< (x2 &&& 31)))]) rfl ?_
  refine t_X11_isSpare_35 C E ?_ ?_ 20000000 x1 ((1 : Int32) <<< (x2 &&& 31)) p1 y3 ((1 : Int32) <<< (x2 &&& 31)) h
  · intro  h
    try dsimp only at h
    refine g_iconst C (v := 0) dX11_isSpare_130 (q := 131) rfl (by decide) ?_
    obtain rfl := Option.some.inj h
    exact g_zret C (g_bz_lit (by decide)) E dX11_isSpare_131
  · intro  h
    try dsimp only at h
    refine g_iconst C (v := 1) dX11_isSpare_138 (q := 139) rfl (by decide) ?_
    obtain rfl := Option.some.inj h
    exact g_zret C (g_bz_lit (by decide)) E dX11_isSpare_139
def f_X11_spare_29 (M : g_M) : Option (Int32 × g_M) :=
  (f_X2_tell (-1000000001) M).bind fun p2 => some (p2.1, p2.2)
set_option maxRecDepth 100000 in
theorem t_X11_spare_29 {l : Launch} {X : g_X} {Y : g_Y} {p : Int32 × g_M} (C : g_C l (g_rm (5)) RX11 cX11_spare 4 X Y) (E : g_E (some .int) X Y (some (.int p.1)) p.2) (M : g_M) (h : f_X11_spare_29 M = some p) : g_G 4 X Y 29 [(0, g_r Y 0)] [] M := by
  unfold f_X11_spare_29 at h
  refine g_aload_n C 0 dX11_spare_29 (q := 30) rfl rfl rfl ?_
  refine g_get C (k := 0) (i := 0) (by decide) (gc_0 Y _ _) rfl kU_X11 (by decide) kF_X11_12 rfl dX11_spare_30 (q := 33) rfl ?_
  refine g_ldc C (v := (-1000000001)) kK_X11_90 dX11_spare_33 (q := 35) rfl ?_
  obtain ⟨p2, hp2, h⟩ := g_bind h
  refine g_callV C (k := 1) (as := [.int (-1000000001)]) (st := []) (m_X2_tell hp2) (g_hR (by decide)) (by decide) (by decide) (gc_1 Y _ _) rfl kM_X11_91 kI_X2_tell kS_X2_tell kN_X2 kC_X2_tell kD_X2_tell rfl (Nat.le_of_ble_eq_true rfl) dX11_spare_35 (q := 38) rfl ?_
  show g_G 4 X Y 38 [(0, g_r Y 0)] [.int p2.1] p2.2
  obtain rfl := Option.some.inj h
  exact g_iret C E dX11_spare_38
theorem r_X11_spare_29 {p : Int32 × g_M} (M : g_M) (h : f_X11_spare_29 M = some p) : g_fr [2, 37, 38] [(1, 1), (36, 2)] M p.2 := by
  unfold f_X11_spare_29 at h
  have hf := g_fr.rfl (S := [2, 37, 38]) (T := [(1, 1), (36, 2)]) (M := M)
  obtain ⟨p2, hp2, h⟩ := g_bind h
  have hf := hf.trans ((r_X2_tell hp2).mono (by decide) (by decide))
  obtain rfl := Option.some.inj h
  exact hf
def f_X11_spare (x1 : Int32) (x2 : Int32) (x3 : Int32) (M : g_M) : Option (Int32 × g_M) :=
  (f_X4_has x1 M).bind fun p1 => (if p1 = 0 then (f_X11_spare_29 M) else ((f_X0_has x2 M).bind fun p3 => (if p3 = 0 then (f_X11_spare_29 M) else ((f_X11_isKey x3 M).bind fun p4 => (if p4 = 0 then (f_X11_spare_29 M) else ((f_X0_hasKey x2 x3 M).bind fun p5 => (if p5 = 0 then ((f_X2_tell (-1000000004) M).bind fun p8 => some (p8.1, p8.2)) else ((f_X5_refresh_36_3_24 M).bind fun p6 => (f_X11_isSpare x1 x2 x3 p6).bind fun p7 => (if p7 = 0 then (some (0, p6)) else (some (1, p6)))))))))))
set_option maxRecDepth 100000 in
theorem m_X11_spare {l : Launch} {Y : g_Y} {x1 : Int32} {x2 : Int32} {x3 : Int32} {M : g_M} {p : Int32 × g_M} (h : f_X11_spare x1 x2 x3 M = some p) : g_R l Y (5) yX11_spare cX11_spare 4 (some .int) [g_r Y 0, .int x1, .int x2, .int x3] M (some (.int p.1)) p.2 := by
  unfold f_X11_spare at h
  refine g_R_of kP_X11 rfl (Nat.le_of_ble_eq_true rfl) (fun X C E => ?_)
  show g_G 4 X Y 0 [(0, g_r Y 0), (1, .int x1), (2, .int x2), (3, .int x3)] [] M
  refine g_aload_n C 0 dX11_spare_0 (q := 1) rfl rfl rfl ?_
  refine g_get C (k := 0) (i := 3) (by decide) (gc_0 Y _ _) rfl kU_X11 (by decide) kF_X11_33 rfl dX11_spare_1 (q := 4) rfl ?_
  refine g_iload_n C 1 dX11_spare_4 (q := 5) rfl rfl rfl ?_
  obtain ⟨p1, hp1, h⟩ := g_bind h
  refine g_callV C (k := 24) (as := [.int x1]) (st := []) (m_X4_has hp1) (g_hR (by decide)) (by decide) (by decide) (gc_24 Y _ _) rfl kM_X11_191 kI_X4_has kS_X4_has kN_X4 kC_X4_has kD_X4_has rfl (Nat.le_of_ble_eq_true rfl) dX11_spare_5 (q := 8) rfl ?_
  show g_G 4 X Y 8 [(0, g_r Y 0), (1, .int x1), (2, .int x2), (3, .int x3)] [.int p1] M
  have hif := g_if h
  clear h
  refine g_if_eq C dX11_spare_8 (q := 11) (tgt := 29) rfl (by decide) (fun c => ?_) (fun c => ?_)
  · have h := hif.1 c
    clear hif
    refine g_sub [0] (lv' := [(0, g_r Y 0)]) rfl ?_
    exact t_X11_spare_29 C E M h
  · have h := hif.2 c
    clear hif
    refine g_aload_n C 0 dX11_spare_11 (q := 12) rfl rfl rfl ?_
    refine g_get C (k := 0) (i := 1) (by decide) (gc_0 Y _ _) rfl kU_X11 (by decide) kF_X11_19 rfl dX11_spare_12 (q := 15) rfl ?_
    refine g_iload_n C 2 dX11_spare_15 (q := 16) rfl rfl rfl ?_
    obtain ⟨p3, hp3, h⟩ := g_bind h
    refine g_callV C (k := 3) (as := [.int x2]) (st := []) (m_X0_has hp3) (g_hR (by decide)) (by decide) (by decide) (gc_3 Y _ _) rfl kM_X11_103 kI_X0_has kS_X0_has kN_X0 kC_X0_has kD_X0_has rfl (Nat.le_of_ble_eq_true rfl) dX11_spare_16 (q := 19) rfl ?_
    show g_G 4 X Y 19 [(0, g_r Y 0), (1, .int x1), (2, .int x2), (3, .int x3)] [.int p3] M
    have hif := g_if h
    clear h
    refine g_if_eq C dX11_spare_19 (q := 22) (tgt := 29) rfl (by decide) (fun c => ?_) (fun c => ?_)
    · have h := hif.1 c
      clear hif
      refine g_sub [0] (lv' := [(0, g_r Y 0)]) rfl ?_
      exact t_X11_spare_29 C E M h
    · have h := hif.2 c
      clear hif
      refine g_iload_n C 3 dX11_spare_22 (q := 23) rfl rfl rfl ?_
      obtain ⟨p4, hp4, h⟩ := g_bind h
      refine g_callS C (as := [.int x3]) (st := []) (m_X11_isKey hp4) (g_hR (by decide)) (by decide) kM_X11_182 kT_X11_isKey kN_X11 kC_X11_isKey kD_X11_isKey rfl (Nat.le_of_ble_eq_true rfl) dX11_spare_23 (q := 26) rfl ?_
      show g_G 4 X Y 26 [(0, g_r Y 0), (1, .int x1), (2, .int x2), (3, .int x3)] [.int p4] M
      have hif := g_if h
      clear h
      refine g_if_ne C dX11_spare_26 (q := 29) (tgt := 39) rfl (by decide) (fun c => ?_) (fun c => ?_)
      · have h := hif.2 c
        clear hif
        refine g_aload_n C 0 dX11_spare_39 (q := 40) rfl rfl rfl ?_
        refine g_get C (k := 0) (i := 1) (by decide) (gc_0 Y _ _) rfl kU_X11 (by decide) kF_X11_19 rfl dX11_spare_40 (q := 43) rfl ?_
        refine g_iload_n C 2 dX11_spare_43 (q := 44) rfl rfl rfl ?_
        refine g_iload_n C 3 dX11_spare_44 (q := 45) rfl rfl rfl ?_
        obtain ⟨p5, hp5, h⟩ := g_bind h
        refine g_callV C (k := 3) (as := [.int x2, .int x3]) (st := []) (m_X0_hasKey hp5) (g_hR (by decide)) (by decide) (by decide) (gc_3 Y _ _) rfl kM_X11_226 kI_X0_hasKey kS_X0_hasKey kN_X0 kC_X0_hasKey kD_X0_hasKey rfl (Nat.le_of_ble_eq_true rfl) dX11_spare_45 (q := 48) rfl ?_
        show g_G 4 X Y 48 [(0, g_r Y 0), (1, .int x1), (2, .int x2), (3, .int x3)] [.int p5] M
        have hif := g_if h
        clear h
        refine g_if_ne C dX11_spare_48 (q := 51) (tgt := 61) rfl (by decide) (fun c => ?_) (fun c => ?_)
        · have h := hif.2 c
          clear hif
          refine g_aload_n C 0 dX11_spare_61 (q := 62) rfl rfl rfl ?_
          refine g_get C (k := 0) (i := 11) (by decide) (gc_0 Y _ _) rfl kU_X11 (by decide) kF_X11_55 rfl dX11_spare_62 (q := 65) rfl ?_
          refine g_aload_n C 0 dX11_spare_65 (q := 66) rfl rfl rfl ?_
          refine g_get C (k := 0) (i := 1) (by decide) (gc_0 Y _ _) rfl kU_X11 (by decide) kF_X11_19 rfl dX11_spare_66 (q := 69) rfl ?_
          refine g_aload_n C 0 dX11_spare_69 (q := 70) rfl rfl rfl ?_
          refine g_get C (k := 0) (i := 3) (by decide) (gc_0 Y _ _) rfl kU_X11 (by decide) kF_X11_33 rfl dX11_spare_70 (q := 73) rfl ?_
          obtain ⟨p6, hp6, h⟩ := g_bind h
          refine g_callV C (k := 36) (as := [g_r Y 3, g_r Y 24]) (st := []) (m_X5_refresh_36_3_24 hp6) (g_hR (by decide)) (by decide) (by decide) (gc_36 Y _ _) rfl kM_X11_253 kI_X5_refresh kS_X5_refresh kN_X5 kC_X5_refresh kD_X5_refresh rfl (Nat.le_of_ble_eq_true rfl) dX11_spare_73 (q := 76) rfl ?_
          show g_G 4 X Y 76 [(0, g_r Y 0), (1, .int x1), (2, .int x2), (3, .int x3)] [] p6
          refine g_aload_n C 0 dX11_spare_76 (q := 77) rfl rfl rfl ?_
          refine g_iload_n C 1 dX11_spare_77 (q := 78) rfl rfl rfl ?_
          refine g_iload_n C 2 dX11_spare_78 (q := 79) rfl rfl rfl ?_
          refine g_iload_n C 3 dX11_spare_79 (q := 80) rfl rfl rfl ?_
          obtain ⟨p7, hp7, h⟩ := g_bind h
          refine g_callV C (k := 0) (as := [.int x1, .int x2, .int x3]) (st := []) (m_X11_isSpare hp7) (g_hR (by decide)) (by decide) (by decide) (gc_0 Y _ _) rfl kM_X11_284 kI_X11_isSpare kS_X11_isSpare kN_X11 kC_X11_isSpare kD_X11_isSpare rfl (Nat.le_of_ble_eq_true rfl) dX11_spare_80 (q := 83) rfl ?_
          show g_G 4 X Y 83 [(0, g_r Y 0), (1, .int x1), (2, .int x2), (3, .int x3)] [.int p7] p6
          have hif := g_if h
          clear h
          refine g_if_eq C dX11_spare_83 (q := 86) (tgt := 90) rfl (by decide) (fun c => ?_) (fun c => ?_)
          · have h := hif.1 c
            clear hif
            refine g_iconst C (v := 0) dX11_spare_90 (q := 91) rfl (by decide) ?_
            obtain rfl := Option.some.inj h
            exact g_iret C E dX11_spare_91
          · have h := hif.2 c
            clear hif
            refine g_iconst C (v := 1) dX11_spare_86 (q := 87) rfl (by decide) ?_
            refine g_goto C dX11_spare_87 (tgt := 91) (by decide) ?_
            obtain rfl := Option.some.inj h
            exact g_iret C E dX11_spare_91
        · have h := hif.1 c
          clear hif
          refine g_aload_n C 0 dX11_spare_51 (q := 52) rfl rfl rfl ?_
          refine g_get C (k := 0) (i := 0) (by decide) (gc_0 Y _ _) rfl kU_X11 (by decide) kF_X11_12 rfl dX11_spare_52 (q := 55) rfl ?_
          refine g_ldc C (v := (-1000000004)) kK_X11_177 dX11_spare_55 (q := 57) rfl ?_
          obtain ⟨p8, hp8, h⟩ := g_bind h
          refine g_callV C (k := 1) (as := [.int (-1000000004)]) (st := []) (m_X2_tell hp8) (g_hR (by decide)) (by decide) (by decide) (gc_1 Y _ _) rfl kM_X11_91 kI_X2_tell kS_X2_tell kN_X2 kC_X2_tell kD_X2_tell rfl (Nat.le_of_ble_eq_true rfl) dX11_spare_57 (q := 60) rfl ?_
          show g_G 4 X Y 60 [(0, g_r Y 0), (1, .int x1), (2, .int x2), (3, .int x3)] [.int p8.1] p8.2
          obtain rfl := Option.some.inj h
          exact g_iret C E dX11_spare_60
      · have h := hif.1 c
        clear hif
        refine g_sub [0] (lv' := [(0, g_r Y 0)]) rfl ?_
        exact t_X11_spare_29 C E M h
theorem r_X11_spare {x1 : Int32} {x2 : Int32} {x3 : Int32} {M : g_M} {p : Int32 × g_M} (h : f_X11_spare x1 x2 x3 M = some p) : g_fr [2, 37, 38] [(1, 1), (36, 2)] M p.2 := by
  unfold f_X11_spare at h
  have hf := g_fr.rfl (S := [2, 37, 38]) (T := [(1, 1), (36, 2)]) (M := M)
  obtain ⟨p1, -, h⟩ := g_bind h
  rcases g_ifs h with h | h
  · exact hf.trans (r_X11_spare_29 M h)
  · obtain ⟨p3, -, h⟩ := g_bind h
    rcases g_ifs h with h | h
    · exact hf.trans (r_X11_spare_29 M h)
    · obtain ⟨p4, -, h⟩ := g_bind h
      rcases g_ifs h with h | h
      · exact hf.trans (r_X11_spare_29 M h)
      · obtain ⟨p5, -, h⟩ := g_bind h
        rcases g_ifs h with h | h
        · obtain ⟨p8, hp8, h⟩ := g_bind h
          have hf := hf.trans ((r_X2_tell hp8).mono (by decide) (by decide))
          obtain rfl := Option.some.inj h
          exact hf
        · obtain ⟨p6, hp6, h⟩ := g_bind h
          have hf := hf.trans ((r_X5_refresh_36_3_24 hp6).mono (by decide) (by decide))
          obtain ⟨p7, -, h⟩ := g_bind h
          rcases g_ifs h with h | h
          · obtain rfl := Option.some.inj h
            exact hf
          · obtain rfl := Option.some.inj h
            exact hf
