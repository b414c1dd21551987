def f_X4_addLock_22 (s0 : Int32) (s1 : Int32) (s2 : Int32) (s3 : Int32) (s4 : Int32) (M : g_M) : Option (Int32 × g_M) :=
  (f_X4_add s4 s3 s2 s1 s0 1 M).bind fun p1 => some (p1.1, p1.2)
set_option maxRecDepth 100000 in
theorem t_X4_addLock_22 {l : Launch} {X : g_X} {Y : g_Y} {p : Int32 × g_M} (C : g_C l (g_rm (2)) RX4 cX4_addLock 3 X Y) (E : g_E (some .int) X Y (some (.int p.1)) p.2) (s0 : Int32) (s1 : Int32) (s2 : Int32) (s3 : Int32) (s4 : Int32) (M : g_M) (h : f_X4_addLock_22 s0 s1 s2 s3 s4 M = some p) : g_G 3 X Y 22 [] [.int s0, .int s1, .int s2, .int s3, .int s4, g_r Y 24] M := by
  unfold f_X4_addLock_22 at h
  refine g_iconst C (v := 1) dX4_addLock_22 (q := 23) rfl (by decide) ?_
  obtain ⟨p1, hp1, h⟩ := g_bind h
  refine g_callV C (k := 24) (as := [.int s4, .int s3, .int s2, .int s1, .int s0, .int 1]) (st := []) (m_X4_add hp1) (g_hR (by decide)) (by decide) (by decide) (gc_24 Y _ _) rfl kM_X4_37 kI_X4_add kS_X4_add kN_X4 kC_X4_add kD_X4_add rfl (Nat.le_of_ble_eq_true rfl) dX4_addLock_23 (q := 26) rfl ?_
  show g_G 3 X Y 26 [] [.int p1.1] p1.2
  obtain rfl := Option.some.inj h
  exact g_iret C E dX4_addLock_26
theorem r_X4_addLock_22 {p : Int32 × g_M} (s0 : Int32) (s1 : Int32) (s2 : Int32) (s3 : Int32) (s4 : Int32) (M : g_M) (h : f_X4_addLock_22 s0 s1 s2 s3 s4 M = some p) : g_fr [25, 26, 27, 28, 29, 30, 31] [(24, 0), (24, 1)] M p.2 := by
  unfold f_X4_addLock_22 at h
  have hf := g_fr.rfl (S := [25, 26, 27, 28, 29, 30, 31]) (T := [(24, 0), (24, 1)]) (M := M)
  obtain ⟨p1, hp1, h⟩ := g_bind h
  have hf := hf.trans ((r_X4_add hp1).mono (by decide) (by decide))
  obtain rfl := Option.some.inj h
  exact hf
def f_X4_addLock_10 (x1 : Int32) (x2 : Int32) (s0 : Int32) (M : g_M) : Option (Int32 × g_M) :=
  (if x2 = 0 then (f_X4_addLock_22 3 0 0 x1 s0 M) else (f_X4_addLock_22 2 0 0 x1 s0 M))
set_option maxRecDepth 100000 in
theorem t_X4_addLock_10 {l : Launch} {X : g_X} {Y : g_Y} {p : Int32 × g_M} (C : g_C l (g_rm (2)) RX4 cX4_addLock 3 X Y) (E : g_E (some .int) X Y (some (.int p.1)) p.2) (x1 : Int32) (x2 : Int32) (s0 : Int32) (M : g_M) (h : f_X4_addLock_10 x1 x2 s0 M = some p) : g_G 3 X Y 10 [(1, .int x1), (2, .int x2)] [.int s0, g_r Y 24] M := by
  unfold f_X4_addLock_10 at h
  refine g_iload_n C 0 dX4_addLock_10 (q := 11) rfl rfl rfl ?_
  refine g_iconst C (v := 0) dX4_addLock_11 (q := 12) rfl (by decide) ?_
  refine g_iconst C (v := 0) dX4_addLock_12 (q := 13) rfl (by decide) ?_
  refine g_iload_n C 1 dX4_addLock_13 (q := 14) rfl rfl rfl ?_
  have hif := g_if h
  clear h
  refine g_if_eq C dX4_addLock_14 (q := 17) (tgt := 21) rfl (by decide) (fun c => ?_) (fun c => ?_)
  · have h := hif.1 c
    clear hif
    refine g_iconst C (v := 3) dX4_addLock_21 (q := 22) rfl (by decide) ?_
    refine g_sub [] (lv' := []) rfl ?_
    exact t_X4_addLock_22 C E 3 0 0 x1 s0 M h
  · have h := hif.2 c
    clear hif
    refine g_iconst C (v := 2) dX4_addLock_17 (q := 18) rfl (by decide) ?_
    refine g_goto C dX4_addLock_18 (tgt := 22) (by decide) ?_
    refine g_sub [] (lv' := []) rfl ?_
    exact t_X4_addLock_22 C E 2 0 0 x1 s0 M h
theorem r_X4_addLock_10 {p : Int32 × g_M} (x1 : Int32) (x2 : Int32) (s0 : Int32) (M : g_M) (h : f_X4_addLock_10 x1 x2 s0 M = some p) : g_fr [25, 26, 27, 28, 29, 30, 31] [(24, 0), (24, 1)] M p.2 := by
  unfold f_X4_addLock_10 at h
  have hf := g_fr.rfl (S := [25, 26, 27, 28, 29, 30, 31]) (T := [(24, 0), (24, 1)]) (M := M)
  rcases g_ifs h with h | h
  · exact hf.trans (r_X4_addLock_22 3 0 0 x1 s0 M h)
  · exact hf.trans (r_X4_addLock_22 2 0 0 x1 s0 M h)
def f_X4_addLock (x1 : Int32) (x2 : Int32) (M : g_M) : Option (Int32 × g_M) :=
  (if x2 = 0 then (f_X4_addLock_10 x1 x2 1 M) else (f_X4_addLock_10 x1 x2 5 M))
set_option maxRecDepth 100000 in
theorem m_X4_addLock {l : Launch} {Y : g_Y} {x1 : Int32} {x2 : Int32} {M : g_M} {p : Int32 × g_M} (h : f_X4_addLock x1 x2 M = some p) : g_R l Y (2) yX4_addLock cX4_addLock 3 (some .int) [g_r Y 24, .int x1, .int x2] M (some (.int p.1)) p.2 := by
  unfold f_X4_addLock at h
  refine g_R_of kP_X4 rfl (Nat.le_of_ble_eq_true rfl) (fun X C E => ?_)
  show g_G 3 X Y 0 [(0, g_r Y 24), (1, .int x1), (2, .int x2)] [] M
  refine g_aload_n C 0 dX4_addLock_0 (q := 1) rfl rfl rfl ?_
  refine g_iload_n C 2 dX4_addLock_1 (q := 2) rfl rfl rfl ?_
  have hif := g_if h
  clear h
  refine g_if_eq C dX4_addLock_2 (q := 5) (tgt := 9) rfl (by decide) (fun c => ?_) (fun c => ?_)
  · have h := hif.1 c
    clear hif
    refine g_iconst C (v := 1) dX4_addLock_9 (q := 10) rfl (by decide) ?_
    refine g_sub [1, 2] (lv' := [(1, .int x1), (2, .int x2)]) rfl ?_
    exact t_X4_addLock_10 C E x1 x2 1 M h
  · have h := hif.2 c
    clear hif
    refine g_iconst C (v := 5) dX4_addLock_5 (q := 6) rfl (by decide) ?_
    refine g_goto C dX4_addLock_6 (tgt := 10) (by decide) ?_
    refine g_sub [1, 2] (lv' := [(1, .int x1), (2, .int x2)]) rfl ?_
    exact t_X4_addLock_10 C E x1 x2 5 M h
theorem r_X4_addLock {x1 : Int32} {x2 : Int32} {M : g_M} {p : Int32 × g_M} (h : f_X4_addLock x1 x2 M = some p) : g_fr [25, 26, 27, 28, 29, 30, 31] [(24, 0), (24, 1)] M p.2 := by
  unfold f_X4_addLock at h
  have hf := g_fr.rfl (S := [25, 26, 27, 28, 29, 30, 31]) (T := [(24, 0), (24, 1)]) (M := M)
  rcases g_ifs h with h | h
  · exact hf.trans (r_X4_addLock_10 x1 x2 1 M h)
  · exact hf.trans (r_X4_addLock_10 x1 x2 5 M h)
def f_X4_has (x1 : Int32) (M : g_M) : Option (Int32) :=
  (if x1 < 0 then (some 0) else ((if (M.1 24 0) ≤ x1 then (some 0) else (some 1))))
set_option maxRecDepth 100000 in
theorem m_X4_has {l : Launch} {Y : g_Y} {x1 : Int32} {M : g_M} {p : Int32} (h : f_X4_has x1 M = some p) : g_R l Y (0) yX4_has cX4_has 2 (some .boolean) [g_r Y 24, .int x1] M (some (.int p)) M := by
  unfold f_X4_has at h
  refine g_R_of kP_X4 rfl (Nat.le_of_ble_eq_true rfl) (fun X C E => ?_)
  show g_G 2 X Y 0 [(0, g_r Y 24), (1, .int x1)] [] M
  refine g_iload_n C 1 dX4_has_0 (q := 1) rfl rfl rfl ?_
  have hif := g_if h
  clear h
  refine g_if_lt C dX4_has_1 (q := 4) (tgt := 16) rfl (by decide) (fun c => ?_) (fun c => ?_)
  · have h := hif.1 c
    clear hif
    refine g_iconst C (v := 0) dX4_has_16 (q := 17) rfl (by decide) ?_
    obtain rfl := Option.some.inj h
    exact g_zret C (g_bz_lit (by decide)) E dX4_has_17
  · have h := hif.2 c
    clear hif
    refine g_iload_n C 1 dX4_has_4 (q := 5) rfl rfl rfl ?_
    refine g_aload_n C 0 dX4_has_5 (q := 6) rfl rfl rfl ?_
    refine g_get C (k := 24) (i := 0) (by decide) (gc_24 Y _ _) rfl kU_X4 (by decide) kF_X4_33 rfl dX4_has_6 (q := 9) rfl ?_
    have hif := g_if h
    clear h
    refine g_icmp_ge C dX4_has_9 (q := 12) (tgt := 16) rfl (by decide) (fun c => ?_) (fun c => ?_)
    · have h := hif.1 c
      clear hif
      refine g_iconst C (v := 0) dX4_has_16 (q := 17) rfl (by decide) ?_
      obtain rfl := Option.some.inj h
      exact g_zret C (g_bz_lit (by decide)) E dX4_has_17
    · have h := hif.2 c
      clear hif
      refine g_iconst C (v := 1) dX4_has_12 (q := 13) rfl (by decide) ?_
      refine g_goto C dX4_has_13 (tgt := 17) (by decide) ?_
      obtain rfl := Option.some.inj h
      exact g_zret C (g_bz_lit (by decide)) E dX4_has_17
def f_X4_addChain_35 (x1 : Int32) (x2 : Int32) (x4 : Int32) (s0 : Int32) (M : g_M) : Option (Int32 × g_M) :=
  (g_ld M 31 40 x1).bind fun v3 => (g_ld M 31 40 x2).bind fun v4 => (f_X4_add s0 0 x1 x2 x4 (v3 + v4) M).bind fun p5 => some (p5.1, p5.2)
set_option maxRecDepth 100000 in
theorem t_X4_addChain_35 {l : Launch} {X : g_X} {Y : g_Y} {p : Int32 × g_M} (C : g_C l (g_rm (2)) RX4 cX4_addChain 5 X Y) (E : g_E (some .int) X Y (some (.int p.1)) p.2) (x1 : Int32) (x2 : Int32) (x4 : Int32) (s0 : Int32) (M : g_M) (h : f_X4_addChain_35 x1 x2 x4 s0 M = some p) : g_G 5 X Y 35 [(0, g_r Y 24), (1, .int x1), (2, .int x2), (4, .int x4)] [.int s0, g_r Y 24] M := by
  unfold f_X4_addChain_35 at h
  refine g_iconst C (v := 0) dX4_addChain_35 (q := 36) rfl (by decide) ?_
  refine g_iload_n C 1 dX4_addChain_36 (q := 37) rfl rfl rfl ?_
  refine g_iload_n C 2 dX4_addChain_37 (q := 38) rfl rfl rfl ?_
  refine g_iload C 3 dX4_addChain_38 (q := 40) rfl rfl ?_
  refine g_aload_n C 0 dX4_addChain_40 (q := 41) rfl rfl rfl ?_
  refine g_get C (k := 24) (i := 8) (by decide) (gc_24 Y _ _) rfl kU_X4 (by decide) kF_X4_30 rfl dX4_addChain_41 (q := 44) rfl ?_
  refine g_iload_n C 1 dX4_addChain_44 (q := 45) rfl rfl rfl ?_
  obtain ⟨v3, hv3, h⟩ := g_bind h
  refine g_iald C (k := 31) (n := 40) (by decide) (gc_31 Y _ _) hv3 dX4_addChain_45 (q := 46) rfl ?_
  refine g_aload_n C 0 dX4_addChain_46 (q := 47) rfl rfl rfl ?_
  refine g_get C (k := 24) (i := 8) (by decide) (gc_24 Y _ _) rfl kU_X4 (by decide) kF_X4_30 rfl dX4_addChain_47 (q := 50) rfl ?_
  refine g_iload_n C 2 dX4_addChain_50 (q := 51) rfl rfl rfl ?_
  obtain ⟨v4, hv4, h⟩ := g_bind h
  refine g_iald C (k := 31) (n := 40) (by decide) (gc_31 Y _ _) hv4 dX4_addChain_51 (q := 52) rfl ?_
  refine g_iadd C dX4_addChain_52 (q := 53) rfl ?_
  obtain ⟨p5, hp5, h⟩ := g_bind h
  refine g_callV C (k := 24) (as := [.int s0, .int 0, .int x1, .int x2, .int x4, .int (v3 + v4)]) (st := []) (m_X4_add hp5) (g_hR (by decide)) (by decide) (by decide) (gc_24 Y _ _) rfl kM_X4_37 kI_X4_add kS_X4_add kN_X4 kC_X4_add kD_X4_add rfl (Nat.le_of_ble_eq_true rfl) dX4_addChain_53 (q := 56) rfl ?_
  show g_G 5 X Y 56 [(0, g_r Y 24), (1, .int x1), (2, .int x2), (4, .int x4)] [.int p5.1] p5.2
  obtain rfl := Option.some.inj h
  exact g_iret C E dX4_addChain_56
theorem r_X4_addChain_35 {p : Int32 × g_M} (x1 : Int32) (x2 : Int32) (x4 : Int32) (s0 : Int32) (M : g_M) (h : f_X4_addChain_35 x1 x2 x4 s0 M = some p) : g_fr [25, 26, 27, 28, 29, 30, 31] [(24, 0), (24, 1)] M p.2 := by
  unfold f_X4_addChain_35 at h
  have hf := g_fr.rfl (S := [25, 26, 27, 28, 29, 30, 31]) (T := [(24, 0), (24, 1)]) (M := M)
  obtain ⟨v3, -, h⟩ := g_bind h
  obtain ⟨v4, -, h⟩ := g_bind h
  obtain ⟨p5, hp5, h⟩ := g_bind h
  have hf := hf.trans ((r_X4_add hp5).mono (by decide) (by decide))
  obtain rfl := Option.some.inj h
  exact hf
def f_X4_addChain_9 (x1 : Int32) (x2 : Int32) (x3 : Int32) (s0 : Int32) (M : g_M) : Option (Int32 × g_M) :=
  (g_ld M 30 40 x1).bind fun v1 => (g_ld M 30 40 x2).bind fun v2 => (if x3 = 0 then (f_X4_addChain_35 x1 x2 ((s0 + v1) + v2) 2 M) else (f_X4_addChain_35 x1 x2 ((s0 + v1) + v2) 3 M))
set_option maxRecDepth 100000 in
theorem t_X4_addChain_9 {l : Launch} {X : g_X} {Y : g_Y} {p : Int32 × g_M} (C : g_C l (g_rm (2)) RX4 cX4_addChain 5 X Y) (E : g_E (some .int) X Y (some (.int p.1)) p.2) (x1 : Int32) (x2 : Int32) (x3 : Int32) (s0 : Int32) (M : g_M) (h : f_X4_addChain_9 x1 x2 x3 s0 M = some p) : g_G 5 X Y 9 [(0, g_r Y 24), (1, .int x1), (2, .int x2), (3, .int x3)] [.int s0] M := by
  unfold f_X4_addChain_9 at h
  refine g_aload_n C 0 dX4_addChain_9 (q := 10) rfl rfl rfl ?_
  refine g_get C (k := 24) (i := 7) (by decide) (gc_24 Y _ _) rfl kU_X4 (by decide) kF_X4_27 rfl dX4_addChain_10 (q := 13) rfl ?_
  refine g_iload_n C 1 dX4_addChain_13 (q := 14) rfl rfl rfl ?_
  obtain ⟨v1, hv1, h⟩ := g_bind h
  refine g_iald C (k := 30) (n := 40) (by decide) (gc_30 Y _ _) hv1 dX4_addChain_14 (q := 15) rfl ?_
  refine g_iadd C dX4_addChain_15 (q := 16) rfl ?_
  refine g_aload_n C 0 dX4_addChain_16 (q := 17) rfl rfl rfl ?_
  refine g_get C (k := 24) (i := 7) (by decide) (gc_24 Y _ _) rfl kU_X4 (by decide) kF_X4_27 rfl dX4_addChain_17 (q := 20) rfl ?_
  refine g_iload_n C 2 dX4_addChain_20 (q := 21) rfl rfl rfl ?_
  obtain ⟨v2, hv2, h⟩ := g_bind h
  refine g_iald C (k := 30) (n := 40) (by decide) (gc_30 Y _ _) hv2 dX4_addChain_21 (q := 22) rfl ?_
  refine g_iadd C dX4_addChain_22 (q := 23) rfl ?_
  refine g_istore C dX4_addChain_23 (q := 25) rfl (by decide) (lv' := [(4, .int ((s0 + v1) + v2)), (0, g_r Y 24), (1, .int x1), (2, .int x2), (3, .int x3)]) rfl ?_
  refine g_aload_n C 1 dX4_addChain_25 (q := 26) rfl rfl rfl ?_
  refine g_iload_n C 4 dX4_addChain_26 (q := 27) rfl rfl rfl ?_
  have hif := g_if h
  clear h
  refine g_if_eq C dX4_addChain_27 (q := 30) (tgt := 34) rfl (by decide) (fun c => ?_) (fun c => ?_)
  · have h := hif.1 c
    clear hif
    refine g_iconst C (v := 2) dX4_addChain_34 (q := 35) rfl (by decide) ?_
    refine g_sub [1, 2, 3, 0] (lv' := [(0, g_r Y 24), (1, .int x1), (2, .int x2), (4, .int ((s0 + v1) + v2))]) rfl ?_
    exact t_X4_addChain_35 C E x1 x2 ((s0 + v1) + v2) 2 M h
  · have h := hif.2 c
    clear hif
    refine g_iconst C (v := 3) dX4_addChain_30 (q := 31) rfl (by decide) ?_
    refine g_goto C dX4_addChain_31 (tgt := 35) (by decide) ?_
    refine g_sub [1, 2, 3, 0] (lv' := [(0, g_r Y 24), (1, .int x1), (2, .int x2), (4, .int ((s0 + v1) + v2))]) rfl ?_
    exact t_X4_addChain_35 C E x1 x2 ((s0 + v1) + v2) 3 M h
theorem r_X4_addChain_9 {p : Int32 × g_M} (x1 : Int32) (x2 : Int32) (x3 : Int32) (s0 : Int32) (M : g_M) (h : f_X4_addChain_9 x1 x2 x3 s0 M = some p) : g_fr [25, 26, 27, 28, 29, 30, 31] [(24, 0), (24, 1)] M p.2 := by
  unfold f_X4_addChain_9 at h
  have hf := g_fr.rfl (S := [25, 26, 27, 28, 29, 30, 31]) (T := [(24, 0), (24, 1)]) (M := M)
  obtain ⟨v1, -, h⟩ := g_bind h
  obtain ⟨v2, -, h⟩ := g_bind h
  rcases g_ifs h with h | h
  · exact hf.trans (r_X4_addChain_35 x1 x2 ((s0 + v1) + v2) 2 M h)
  · exact hf.trans (r_X4_addChain_35 x1 x2 ((s0 + v1) + v2) 3 M h)
def f_X4_addChain (x1 : Int32) (x2 : Int32) (x3 : Int32) (M : g_M) : Option (Int32 × g_M) :=
  (if x3 = 0 then (f_X4_addChain_9 x1 x2 x3 1 M) else (f_X4_addChain_9 x1 x2 x3 2 M))
set_option maxRecDepth 100000 in
theorem m_X4_addChain {l : Launch} {Y : g_Y} {x1 : Int32} {x2 : Int32} {x3 : Int32} {M : g_M} {p : Int32 × g_M} (h : f_X4_addChain x1 x2 x3 M = some p) : g_R l Y (2) yX4_addChain cX4_addChain 5 (some .int) [g_r Y 24, .int x1, .int x2, .int x3] M (some (.int p.1)) p.2 := by
  unfold f_X4_addChain at h
  refine g_R_of kP_X4 rfl (Nat.le_of_ble_eq_true rfl) (fun X C E => ?_)
  show g_G 5 X Y 0 [(0, g_r Y 24), (1, .int x1), (2, .int x2), (3, .int x3)] [] M
  refine g_iload_n C 3 dX4_addChain_0 (q := 1) rfl rfl rfl ?_
  have hif := g_if h
  clear h
  refine g_if_eq C dX4_addChain_1 (q := 4) (tgt := 8) rfl (by decide) (fun c => ?_) (fun c => ?_)
  · have h := hif.1 c
    clear hif
    refine g_iconst C (v := 1) dX4_addChain_8 (q := 9) rfl (by decide) ?_
    refine g_sub [0, 1, 2, 3] (lv' := [(0, g_r Y 24), (1, .int x1), (2, .int x2), (3, .int x3)]) rfl ?_
    exact t_X4_addChain_9 C E x1 x2 x3 1 M h
  · have h := hif.2 c
    clear hif
    refine g_iconst C (v := 2) dX4_addChain_4 (q := 5) rfl (by decide) ?_
    refine g_goto C dX4_addChain_5 (tgt := 9) (by decide) ?_
    refine g_sub [0, 1, 2, 3] (lv' := [(0, g_r Y 24), (1, .int x1), (2, .int x2), (3, .int x3)]) rfl ?_
    exact t_X4_addChain_9 C E x1 x2 x3 2 M h
theorem r_X4_addChain {x1 : Int32} {x2 : Int32} {x3 : Int32} {M : g_M} {p : Int32 × g_M} (h : f_X4_addChain x1 x2 x3 M = some p) : g_fr [25, 26, 27, 28, 29, 30, 31] [(24, 0), (24, 1)] M p.2 := by
  unfold f_X4_addChain at h
  have hf := g_fr.rfl (S := [25, 26, 27, 28, 29, 30, 31]) (T := [(24, 0), (24, 1)]) (M := M)
  rcases g_ifs h with h | h
  · exact hf.trans (r_X4_addChain_9 x1 x2 x3 1 M h)
  · exact hf.trans (r_X4_addChain_9 x1 x2 x3 2 M h)
def f_X4_addBox (x1 : Int32) (x2 : Int32) (M : g_M) : Option (Int32 × g_M) :=
  (g_ld M 30 40 x1).bind fun v1 => (g_ld M 31 40 x1).bind fun v2 => (f_X4_add 4 x2 x1 0 (4 + v1) v2 M).bind fun p3 => some (p3.1, p3.2)
set_option maxRecDepth 100000 in
theorem m_X4_addBox {l : Launch} {Y : g_Y} {x1 : Int32} {x2 : Int32} {M : g_M} {p : Int32 × g_M} (h : f_X4_addBox x1 x2 M = some p) : g_R l Y (2) yX4_addBox cX4_addBox 3 (some .int) [g_r Y 24, .int x1, .int x2] M (some (.int p.1)) p.2 := by
  unfold f_X4_addBox at h
  refine g_R_of kP_X4 rfl (Nat.le_of_ble_eq_true rfl) (fun X C E => ?_)
  show g_G 3 X Y 0 [(0, g_r Y 24), (1, .int x1), (2, .int x2)] [] M
  refine g_aload_n C 0 dX4_addBox_0 (q := 1) rfl rfl rfl ?_
  refine g_iconst C (v := 4) dX4_addBox_1 (q := 2) rfl (by decide) ?_
  refine g_iload_n C 2 dX4_addBox_2 (q := 3) rfl rfl rfl ?_
  refine g_iload_n C 1 dX4_addBox_3 (q := 4) rfl rfl rfl ?_
  refine g_iconst C (v := 0) dX4_addBox_4 (q := 5) rfl (by decide) ?_
  refine g_iconst C (v := 4) dX4_addBox_5 (q := 6) rfl (by decide) ?_
  refine g_aload_n C 0 dX4_addBox_6 (q := 7) rfl rfl rfl ?_
  refine g_get C (k := 24) (i := 7) (by decide) (gc_24 Y _ _) rfl kU_X4 (by decide) kF_X4_27 rfl dX4_addBox_7 (q := 10) rfl ?_
  refine g_iload_n C 1 dX4_addBox_10 (q := 11) rfl rfl rfl ?_
  obtain ⟨v1, hv1, h⟩ := g_bind h
  refine g_iald C (k := 30) (n := 40) (by decide) (gc_30 Y _ _) hv1 dX4_addBox_11 (q := 12) rfl ?_
  refine g_iadd C dX4_addBox_12 (q := 13) rfl ?_
  refine g_aload_n C 0 dX4_addBox_13 (q := 14) rfl rfl rfl ?_
  refine g_get C (k := 24) (i := 8) (by decide) (gc_24 Y _ _) rfl kU_X4 (by decide) kF_X4_30 rfl dX4_addBox_14 (q := 17) rfl ?_
  refine g_iload_n C 1 dX4_addBox_17 (q := 18) rfl rfl rfl ?_
  obtain ⟨v2, hv2, h⟩ := g_bind h
  refine g_iald C (k := 31) (n := 40) (by decide) (gc_31 Y _ _) hv2 dX4_addBox_18 (q := 19) rfl ?_
  obtain ⟨p3, hp3, h⟩ := g_bind h
  refine g_callV C (k := 24) (as := [.int 4, .int x2, .int x1, .int 0, .int (4 + v1), .int v2]) (st := []) (m_X4_add hp3) (g_hR (by decide)) (by decide) (by decide) (gc_24 Y _ _) rfl kM_X4_37 kI_X4_add kS_X4_add kN_X4 kC_X4_add kD_X4_add rfl (Nat.le_of_ble_eq_true rfl) dX4_addBox_19 (q := 22) rfl ?_
  show g_G 3 X Y 22 [(0, g_r Y 24), (1, .int x1), (2, .int x2)] [.int p3.1] p3.2
  obtain rfl := Option.some.inj h
  exact g_iret C E dX4_addBox_22
theorem r_X4_addBox {x1 : Int32} {x2 : Int32} {M : g_M} {p : Int32 × g_M} (h : f_X4_addBox x1 x2 M = some p) : g_fr [25, 26, 27, 28, 29, 30, 31] [(24, 0), (24, 1)] M p.2 := by
  unfold f_X4_addBox at h
  have hf := g_fr.rfl (S := [25, 26, 27, 28, 29, 30, 31]) (T := [(24, 0), (24, 1)]) (M := M)
  obtain ⟨v1, -, h⟩ := g_bind h
  obtain ⟨v2, -, h⟩ := g_bind h
  obtain ⟨p3, hp3, h⟩ := g_bind h
  have hf := hf.trans ((r_X4_add hp3).mono (by decide) (by decide))
  obtain rfl := Option.some.inj h
  exact hf
def f_X4_isOf_26 (x2 : Int32) (x3 : Int32) (M : g_M) : Option (Int32) :=
  (if x3 = 3 then ((if x2 = 2 then (some 1) else (some 0))) else (some 0))
set_option maxRecDepth 100000 in
theorem t_X4_isOf_26 {l : Launch} {X : g_X} {Y : g_Y} {p : Int32} {M : g_M} (C : g_C l (g_rm (0)) RX4 cX4_isOf 4 X Y) (E : g_E (some .boolean) X Y (some (.int p)) M) (x2 : Int32) (x3 : Int32) (h : f_X4_isOf_26 x2 x3 M = some p) : g_G 4 X Y 26 [(2, .int x2), (3, .int x3)] [] M := by
  unfold f_X4_isOf_26 at h
  refine g_iload_n C 1 dX4_isOf_26 (q := 27) rfl rfl rfl ?_
  refine g_iconst C (v := 3) dX4_isOf_27 (q := 28) rfl (by decide) ?_
  have hif := g_if h
  clear h
  refine g_icmp_ne C dX4_isOf_28 (q := 31) (tgt := 40) rfl (by decide) (fun c => ?_) (fun c => ?_)
  · have h := hif.2 c
    clear hif
    refine g_iconst C (v := 0) dX4_isOf_40 (q := 41) rfl (by decide) ?_
    obtain rfl := Option.some.inj h
    exact g_zret C (g_bz_lit (by decide)) E dX4_isOf_41
  · have h := hif.1 c
    clear hif
    refine g_iload_n C 0 dX4_isOf_31 (q := 32) rfl rfl rfl ?_
    refine g_iconst C (v := 2) dX4_isOf_32 (q := 33) rfl (by decide) ?_
    have hif := g_if h
    clear h
    refine g_icmp_ne C dX4_isOf_33 (q := 36) (tgt := 40) rfl (by decide) (fun c => ?_) (fun c => ?_)
    · have h := hif.2 c
      clear hif
      refine g_iconst C (v := 0) dX4_isOf_40 (q := 41) rfl (by decide) ?_
      obtain rfl := Option.some.inj h
      exact g_zret C (g_bz_lit (by decide)) E dX4_isOf_41
    · have h := hif.1 c
      clear hif
      refine g_iconst C (v := 1) dX4_isOf_36 (q := 37) rfl (by decide) ?_
      refine g_goto C dX4_isOf_37 (tgt := 41) (by decide) ?_
      obtain rfl := Option.some.inj h
      exact g_zret C (g_bz_lit (by decide)) E dX4_isOf_41
def f_X4_isOf (x1 : Int32) (x2 : Int32) (M : g_M) : Option (Int32) :=
  (g_ld M 25 40 x1).bind fun v1 => (if x2 = 0 then (some 1) else ((if v1 = x2 then (some 1) else ((if v1 = 5 then ((if x2 = 1 then (some 1) else (f_X4_isOf_26 x2 v1 M))) else (f_X4_isOf_26 x2 v1 M))))))
set_option maxRecDepth 100000 in
theorem m_X4_isOf {l : Launch} {Y : g_Y} {x1 : Int32} {x2 : Int32} {M : g_M} {p : Int32} (h : f_X4_isOf x1 x2 M = some p) : g_R l Y (0) yX4_isOf cX4_isOf 4 (some .boolean) [g_r Y 24, .int x1, .int x2] M (some (.int p)) M := by
  unfold f_X4_isOf at h
  refine g_R_of kP_X4 rfl (Nat.le_of_ble_eq_true rfl) (fun X C E => ?_)
  show g_G 4 X Y 0 [(0, g_r Y 24), (1, .int x1), (2, .int x2)] [] M
  refine g_aload_n C 0 dX4_isOf_0 (q := 1) rfl rfl rfl ?_
  refine g_get C (k := 24) (i := 2) (by decide) (gc_24 Y _ _) rfl kU_X4 (by decide) kF_X4_9 rfl dX4_isOf_1 (q := 4) rfl ?_
  refine g_iload_n C 1 dX4_isOf_4 (q := 5) rfl rfl rfl ?_
  obtain ⟨v1, hv1, h⟩ := g_bind h
  refine g_iald C (k := 25) (n := 40) (by decide) (gc_25 Y _ _) hv1 dX4_isOf_5 (q := 6) rfl ?_
  refine g_istore_n C dX4_isOf_6 (q := 7) rfl rfl (by decide) (lv' := [(3, .int v1), (0, g_r Y 24), (1, .int x1), (2, .int x2)]) rfl ?_
  refine g_iload_n C 3 dX4_isOf_7 (q := 8) rfl rfl rfl ?_
  have hif := g_if h
  clear h
  refine g_if_eq C dX4_isOf_8 (q := 11) (tgt := 36) rfl (by decide) (fun c => ?_) (fun c => ?_)
  · have h := hif.1 c
    clear hif
    refine g_iconst C (v := 1) dX4_isOf_36 (q := 37) rfl (by decide) ?_
    refine g_goto C dX4_isOf_37 (tgt := 41) (by decide) ?_
    obtain rfl := Option.some.inj h
    exact g_zret C (g_bz_lit (by decide)) E dX4_isOf_41
  · have h := hif.2 c
    clear hif
    refine g_iload_n C 0 dX4_isOf_11 (q := 12) rfl rfl rfl ?_
    refine g_iload_n C 3 dX4_isOf_12 (q := 13) rfl rfl rfl ?_
    have hif := g_if h
    clear h
    refine g_icmp_eq C dX4_isOf_13 (q := 16) (tgt := 36) rfl (by decide) (fun c => ?_) (fun c => ?_)
    · have h := hif.1 c
      clear hif
      refine g_iconst C (v := 1) dX4_isOf_36 (q := 37) rfl (by decide) ?_
      refine g_goto C dX4_isOf_37 (tgt := 41) (by decide) ?_
      obtain rfl := Option.some.inj h
      exact g_zret C (g_bz_lit (by decide)) E dX4_isOf_41
    · have h := hif.2 c
      clear hif
      refine g_iload_n C 0 dX4_isOf_16 (q := 17) rfl rfl rfl ?_
      refine g_iconst C (v := 5) dX4_isOf_17 (q := 18) rfl (by decide) ?_
      have hif := g_if h
      clear h
      refine g_icmp_ne C dX4_isOf_18 (q := 21) (tgt := 26) rfl (by decide) (fun c => ?_) (fun c => ?_)
      · have h := hif.2 c
        clear hif
        refine g_sub [3, 0] (lv' := [(2, .int x2), (3, .int v1)]) rfl ?_
        exact t_X4_isOf_26 C E x2 v1 h
      · have h := hif.1 c
        clear hif
        refine g_iload_n C 3 dX4_isOf_21 (q := 22) rfl rfl rfl ?_
        refine g_iconst C (v := 1) dX4_isOf_22 (q := 23) rfl (by decide) ?_
        have hif := g_if h
        clear h
        refine g_icmp_eq C dX4_isOf_23 (q := 26) (tgt := 36) rfl (by decide) (fun c => ?_) (fun c => ?_)
        · have h := hif.1 c
          clear hif
          refine g_iconst C (v := 1) dX4_isOf_36 (q := 37) rfl (by decide) ?_
          refine g_goto C dX4_isOf_37 (tgt := 41) (by decide) ?_
          obtain rfl := Option.some.inj h
          exact g_zret C (g_bz_lit (by decide)) E dX4_isOf_41
        · have h := hif.2 c
          clear hif
          refine g_sub [3, 0] (lv' := [(2, .int x2), (3, .int v1)]) rfl ?_
          exact t_X4_isOf_26 C E x2 v1 h
def f_X0_setKey_34 (x1 : Int32) (x4 : Int32) (s0 : Int32) (s1 : Int32) (M : g_M) : Option (Int32 × g_M) :=
  (g_st M 5 10 s1 s0).bind fun M2 => (some (g_u M2 3 3 ((M2.1 3 3) + 1))).bind fun M3 => (g_ld M3 5 10 x1).bind fun v4 => (if v4 = x4 then (some (0, M3)) else (some (1, M3)))
set_option maxRecDepth 100000 in
theorem t_X0_setKey_34 {l : Launch} {X : g_X} {Y : g_Y} {p : Int32 × g_M} (C : g_C l (g_rm (0)) RX0 cX0_setKey 5 X Y) (E : g_E (some .boolean) X Y (some (.int p.1)) p.2) (x1 : Int32) (x4 : Int32) (s0 : Int32) (s1 : Int32) (M : g_M) (h : f_X0_setKey_34 x1 x4 s0 s1 M = some p) : g_G 5 X Y 34 [(0, g_r Y 3), (1, .int x1), (4, .int x4)] [.int s0, .int s1, g_r Y 5] M := by
  unfold f_X0_setKey_34 at h
  obtain ⟨M2, hM2, h⟩ := g_bind h
  refine g_iast C (k := 5) (n := 10) (by decide) (fun a => gc_5 Y a _) hM2 dX0_setKey_34 (q := 35) rfl ?_
  refine g_aload_n C 0 dX0_setKey_35 (q := 36) rfl rfl rfl ?_
  refine g_dup C dX0_setKey_36 (q := 37) rfl rfl ?_
  refine g_get C (k := 3) (i := 3) (by decide) (gc_3 Y _ _) rfl kU_X0 (by decide) kF_X0_31 rfl dX0_setKey_37 (q := 40) rfl ?_
  refine g_iconst C (v := 1) dX0_setKey_40 (q := 41) rfl (by decide) ?_
  refine g_iadd C dX0_setKey_41 (q := 42) rfl ?_
  obtain ⟨M3, hM3, h⟩ := g_bind h
  refine g_put C (k := 3) (i := 3) (ty := .int) (by decide) (gc_3 Y _ _) (gp_3_3 Y _ _ _) rfl kU_X0 tyX0_ok nmX0 (by decide) kF_X0_31 rfl rfl rfl rfl (Nat.le_of_ble_eq_true rfl) dX0_setKey_42 (q := 45) rfl ?_
  refine g_mem hM3 ?_
  refine g_aload_n C 0 dX0_setKey_45 (q := 46) rfl rfl rfl ?_
  refine g_get C (k := 3) (i := 5) (by decide) (gc_3 Y _ _) rfl kU_X0 (by decide) kF_X0_15 rfl dX0_setKey_46 (q := 49) rfl ?_
  refine g_iload_n C 1 dX0_setKey_49 (q := 50) rfl rfl rfl ?_
  obtain ⟨v4, hv4, h⟩ := g_bind h
  refine g_iald C (k := 5) (n := 10) (by decide) (gc_5 Y _ _) hv4 dX0_setKey_50 (q := 51) rfl ?_
  refine g_iload C 2 dX0_setKey_51 (q := 53) rfl rfl ?_
  have hif := g_if h
  clear h
  refine g_icmp_eq C dX0_setKey_53 (q := 56) (tgt := 60) rfl (by decide) (fun c => ?_) (fun c => ?_)
  · have h := hif.1 c
    clear hif
    refine g_iconst C (v := 0) dX0_setKey_60 (q := 61) rfl (by decide) ?_
    obtain rfl := Option.some.inj h
    exact g_zret C (g_bz_lit (by decide)) E dX0_setKey_61
  · have h := hif.2 c
    clear hif
    refine g_iconst C (v := 1) dX0_setKey_56 (q := 57) rfl (by decide) ?_
    refine g_goto C dX0_setKey_57 (tgt := 61) (by decide) ?_
    obtain rfl := Option.some.inj h
    exact g_zret C (g_bz_lit (by decide)) E dX0_setKey_61
theorem r_X0_setKey_34 {p : Int32 × g_M} (x1 : Int32) (x4 : Int32) (s0 : Int32) (s1 : Int32) (M : g_M) (h : f_X0_setKey_34 x1 x4 s0 s1 M = some p) : g_fr [5] [(3, 3)] M p.2 := by
  unfold f_X0_setKey_34 at h
  have hf := g_fr.rfl (S := [5]) (T := [(3, 3)]) (M := M)
  obtain ⟨M2, hM2, h⟩ := g_bind h
  have hf := hf.st hM2 (by decide)
  obtain ⟨M3, hM3, h⟩ := g_bind h
  have hf := hf.pu hM3 (by decide)
  obtain ⟨v4, -, h⟩ := g_bind h
  rcases g_ifs h with h | h
  · obtain rfl := Option.some.inj h
    exact hf
  · obtain rfl := Option.some.inj h
    exact hf
def f_X0_setKey (x1 : Int32) (x2 : Int32) (x3 : Int32) (M : g_M) : Option (Int32 × g_M) :=
  (g_ld M 5 10 x1).bind fun v1 => (if x3 = 0 then (f_X0_setKey_34 x1 v1 (v1 &&& (((1 : Int32) <<< (x2 &&& 31)) ^^^ (-1))) x1 M) else (f_X0_setKey_34 x1 v1 (v1 ||| ((1 : Int32) <<< (x2 &&& 31))) x1 M))
set_option maxRecDepth 100000 in
theorem m_X0_setKey {l : Launch} {Y : g_Y} {x1 : Int32} {x2 : Int32} {x3 : Int32} {M : g_M} {p : Int32 × g_M} (h : f_X0_setKey x1 x2 x3 M = some p) : g_R l Y (0) yX0_setKey cX0_setKey 5 (some .boolean) [g_r Y 3, .int x1, .int x2, .int x3] M (some (.int p.1)) p.2 := by
  unfold f_X0_setKey at h
  refine g_R_of kP_X0 rfl (Nat.le_of_ble_eq_true rfl) (fun X C E => ?_)
  show g_G 5 X Y 0 [(0, g_r Y 3), (1, .int x1), (2, .int x2), (3, .int x3)] [] M
  refine g_aload_n C 0 dX0_setKey_0 (q := 1) rfl rfl rfl ?_
  refine g_get C (k := 3) (i := 5) (by decide) (gc_3 Y _ _) rfl kU_X0 (by decide) kF_X0_15 rfl dX0_setKey_1 (q := 4) rfl ?_
  refine g_iload_n C 1 dX0_setKey_4 (q := 5) rfl rfl rfl ?_
  obtain ⟨v1, hv1, h⟩ := g_bind h
  refine g_iald C (k := 5) (n := 10) (by decide) (gc_5 Y _ _) hv1 dX0_setKey_5 (q := 6) rfl ?_
  refine g_istore C dX0_setKey_6 (q := 8) rfl (by decide) (lv' := [(4, .int v1), (0, g_r Y 3), (1, .int x1), (2, .int x2), (3, .int x3)]) rfl ?_
  refine g_aload_n C 1 dX0_setKey_8 (q := 9) rfl rfl rfl ?_
  refine g_get C (k := 3) (i := 5) (by decide) (gc_3 Y _ _) rfl kU_X0 (by decide) kF_X0_15 rfl dX0_setKey_9 (q := 12) rfl ?_
  refine g_iload_n C 2 dX0_setKey_12 (q := 13) rfl rfl rfl ?_
  refine g_iload_n C 4 dX0_setKey_13 (q := 14) rfl rfl rfl ?_
  have hif := g_if h
  clear h
  refine g_if_eq C dX0_setKey_14 (q := 17) (tgt := 26) rfl (by decide) (fun c => ?_) (fun c => ?_)
  · have h := hif.1 c
    clear hif
    refine g_iload C 0 dX0_setKey_26 (q := 28) rfl rfl ?_
    refine g_iconst C (v := 1) dX0_setKey_28 (q := 29) rfl (by decide) ?_
    refine g_iload_n C 3 dX0_setKey_29 (q := 30) rfl rfl rfl ?_
    refine g_ishl C dX0_setKey_30 (q := 31) rfl ?_
    refine g_iconst C (v := (-1)) dX0_setKey_31 (q := 32) rfl (by decide) ?_
    refine g_ixor C dX0_setKey_32 (q := 33) rfl ?_
    refine g_iand C dX0_setKey_33 (q := 34) rfl ?_
    refine g_sub [1, 2, 0] (lv' := [(0, g_r Y 3), (1, .int x1), (4, .int v1)]) rfl ?_
    exact t_X0_setKey_34 C E x1 v1 (v1 &&& (((1 : Int32) <<< (x2 &&& 31)) ^^^ (-1))) x1 M h
  · have h := hif.2 c
    clear hif
    refine g_iload C 0 dX0_setKey_17 (q := 19) rfl rfl ?_
    refine g_iconst C (v := 1) dX0_setKey_19 (q := 20) rfl (by decide) ?_
    refine g_iload_n C 3 dX0_setKey_20 (q := 21) rfl rfl rfl ?_
    refine g_ishl C dX0_setKey_21 (q := 22) rfl ?_
    refine g_ior C dX0_setKey_22 (q := 23) rfl ?_
    refine g_goto C dX0_setKey_23 (tgt := 34) (by decide) ?_
    refine g_sub [1, 2, 0] (lv' := [(0, g_r Y 3), (1, .int x1), (4, .int v1)]) rfl ?_
    exact t_X0_setKey_34 C E x1 v1 (v1 ||| ((1 : Int32) <<< (x2 &&& 31))) x1 M h
theorem r_X0_setKey {x1 : Int32} {x2 : Int32} {x3 : Int32} {M : g_M} {p : Int32 × g_M} (h : f_X0_setKey x1 x2 x3 M = some p) : g_fr [5] [(3, 3)] M p.2 := by
  unfold f_X0_setKey at h
  have hf := g_fr.rfl (S := [5]) (T := [(3, 3)]) (M := M)
  obtain ⟨v1, -, h⟩ := g_bind h
  rcases g_ifs h with h | h
  · exact hf.trans (r_X0_setKey_34 x1 v1 (v1 &&& (((1 : Int32) <<< (x2 &&& 31)) ^^^ (-1))) x1 M h)
  · exact hf.trans (r_X0_setKey_34 x1 v1 (v1 ||| ((1 : Int32) <<< (x2 &&& 31))) x1 M h)
def f_X0_hasKey (x1 : Int32) (x2 : Int32) (M : g_M) : Option (Int32) :=
  (g_ld M 5 10 x1).bind fun v1 => (if ((v1 >>> (x2 &&& 31)) &&& 1) = 0 then (some 0) else (some 1))
set_option maxRecDepth 100000 in
theorem m_X0_hasKey {l : Launch} {Y : g_Y} {x1 : Int32} {x2 : Int32} {M : g_M} {p : Int32} (h : f_X0_hasKey x1 x2 M = some p) : g_R l Y (0) yX0_hasKey cX0_hasKey 3 (some .boolean) [g_r Y 3, .int x1, .int x2] M (some (.int p)) M := by
  unfold f_X0_hasKey at h
  refine g_R_of kP_X0 rfl (Nat.le_of_ble_eq_true rfl) (fun X C E => ?_)
  show g_G 3 X Y 0 [(0, g_r Y 3), (1, .int x1), (2, .int x2)] [] M
  refine g_aload_n C 0 dX0_hasKey_0 (q := 1) rfl rfl rfl ?_
  refine g_get C (k := 3) (i := 5) (by decide) (gc_3 Y _ _) rfl kU_X0 (by decide) kF_X0_15 rfl dX0_hasKey_1 (q := 4) rfl ?_
  refine g_iload_n C 1 dX0_hasKey_4 (q := 5) rfl rfl rfl ?_
  obtain ⟨v1, hv1, h⟩ := g_bind h
  refine g_iald C (k := 5) (n := 10) (by decide) (gc_5 Y _ _) hv1 dX0_hasKey_5 (q := 6) rfl ?_
  refine g_iload_n C 2 dX0_hasKey_6 (q := 7) rfl rfl rfl ?_
  refine g_ishr C dX0_hasKey_7 (q := 8) rfl ?_
  refine g_iconst C (v := 1) dX0_hasKey_8 (q := 9) rfl (by decide) ?_
  refine g_iand C dX0_hasKey_9 (q := 10) rfl ?_
  have hif := g_if h
  clear h
  refine g_if_eq C dX0_hasKey_10 (q := 13) (tgt := 17) rfl (by decide) (fun c => ?_) (fun c => ?_)
  · have h := hif.1 c
    clear hif
    refine g_iconst C (v := 0) dX0_hasKey_17 (q := 18) rfl (by decide) ?_
    obtain rfl := Option.some.inj h
    exact g_zret C (g_bz_lit (by decide)) E dX0_hasKey_18
  · have h := hif.2 c
    clear hif
    refine g_iconst C (v := 1) dX0_hasKey_13 (q := 14) rfl (by decide) ?_
    refine g_goto C dX0_hasKey_14 (tgt := 18) (by decide) ?_
    obtain rfl := Option.some.inj h
    exact g_zret C (g_bz_lit (by decide)) E dX0_hasKey_18
def f_X0_addLend (x1 : Int32) (x2 : Int32) (M : g_M) : Option (Int32 × g_M) :=
  (g_ld M 6 10 x1).bind fun v1 => (g_st M 6 10 x1 (v1 + 1)).bind fun M2 => (g_ld M2 7 10 x1).bind fun v3 => (g_st M2 7 10 x1 (v3 ||| ((1 : Int32) <<< (x2 &&& 31)))).bind fun M4 => (some (g_u M4 3 2 ((M4.1 3 2) + 1))).bind fun M5 => some (M5.1 3 2, M5)
set_option maxRecDepth 100000 in
theorem m_X0_addLend {l : Launch} {Y : g_Y} {x1 : Int32} {x2 : Int32} {M : g_M} {p : Int32 × g_M} (h : f_X0_addLend x1 x2 M = some p) : g_R l Y (0) yX0_addLend cX0_addLend 3 (some .int) [g_r Y 3, .int x1, .int x2] M (some (.int p.1)) p.2 := by
  unfold f_X0_addLend at h
  refine g_R_of kP_X0 rfl (Nat.le_of_ble_eq_true rfl) (fun X C E => ?_)
  show g_G 3 X Y 0 [(0, g_r Y 3), (1, .int x1), (2, .int x2)] [] M
  refine g_aload_n C 0 dX0_addLend_0 (q := 1) rfl rfl rfl ?_
  refine g_get C (k := 3) (i := 6) (by decide) (gc_3 Y _ _) rfl kU_X0 (by decide) kF_X0_18 rfl dX0_addLend_1 (q := 4) rfl ?_
  refine g_iload_n C 1 dX0_addLend_4 (q := 5) rfl rfl rfl ?_
  refine g_dup2 C dX0_addLend_5 (q := 6) rfl rfl rfl ?_
  obtain ⟨v1, hv1, h⟩ := g_bind h
  refine g_iald C (k := 6) (n := 10) (by decide) (gc_6 Y _ _) hv1 dX0_addLend_6 (q := 7) rfl ?_
  refine g_iconst C (v := 1) dX0_addLend_7 (q := 8) rfl (by decide) ?_
  refine g_iadd C dX0_addLend_8 (q := 9) rfl ?_
  obtain ⟨M2, hM2, h⟩ := g_bind h
  refine g_iast C (k := 6) (n := 10) (by decide) (fun a => gc_6 Y a _) hM2 dX0_addLend_9 (q := 10) rfl ?_
  refine g_aload_n C 0 dX0_addLend_10 (q := 11) rfl rfl rfl ?_
  refine g_get C (k := 3) (i := 7) (by decide) (gc_3 Y _ _) rfl kU_X0 (by decide) kF_X0_21 rfl dX0_addLend_11 (q := 14) rfl ?_
  refine g_iload_n C 1 dX0_addLend_14 (q := 15) rfl rfl rfl ?_
  refine g_dup2 C dX0_addLend_15 (q := 16) rfl rfl rfl ?_
  obtain ⟨v3, hv3, h⟩ := g_bind h
  refine g_iald C (k := 7) (n := 10) (by decide) (gc_7 Y _ _) hv3 dX0_addLend_16 (q := 17) rfl ?_
  refine g_iconst C (v := 1) dX0_addLend_17 (q := 18) rfl (by decide) ?_
  refine g_iload_n C 2 dX0_addLend_18 (q := 19) rfl rfl rfl ?_
  refine g_ishl C dX0_addLend_19 (q := 20) rfl ?_
  refine g_ior C dX0_addLend_20 (q := 21) rfl ?_
  obtain ⟨M4, hM4, h⟩ := g_bind h
  refine g_iast C (k := 7) (n := 10) (by decide) (fun a => gc_7 Y a _) hM4 dX0_addLend_21 (q := 22) rfl ?_
  refine g_aload_n C 0 dX0_addLend_22 (q := 23) rfl rfl rfl ?_
  refine g_dup C dX0_addLend_23 (q := 24) rfl rfl ?_
  refine g_get C (k := 3) (i := 2) (by decide) (gc_3 Y _ _) rfl kU_X0 (by decide) kF_X0_44 rfl dX0_addLend_24 (q := 27) rfl ?_
  refine g_iconst C (v := 1) dX0_addLend_27 (q := 28) rfl (by decide) ?_
  refine g_iadd C dX0_addLend_28 (q := 29) rfl ?_
  obtain ⟨M5, hM5, h⟩ := g_bind h
  refine g_put C (k := 3) (i := 2) (ty := .int) (by decide) (gc_3 Y _ _) (gp_3_2 Y _ _ _) rfl kU_X0 tyX0_ok nmX0 (by decide) kF_X0_44 rfl rfl rfl rfl (Nat.le_of_ble_eq_true rfl) dX0_addLend_29 (q := 32) rfl ?_
  refine g_mem hM5 ?_
  refine g_aload_n C 0 dX0_addLend_32 (q := 33) rfl rfl rfl ?_
  refine g_get C (k := 3) (i := 2) (by decide) (gc_3 Y _ _) rfl kU_X0 (by decide) kF_X0_44 rfl dX0_addLend_33 (q := 36) rfl ?_
  obtain rfl := Option.some.inj h
  exact g_iret C E dX0_addLend_36
theorem r_X0_addLend {x1 : Int32} {x2 : Int32} {M : g_M} {p : Int32 × g_M} (h : f_X0_addLend x1 x2 M = some p) : g_fr [6, 7] [(3, 2)] M p.2 := by
  unfold f_X0_addLend at h
  have hf := g_fr.rfl (S := [6, 7]) (T := [(3, 2)]) (M := M)
  obtain ⟨v1, -, h⟩ := g_bind h
  obtain ⟨M2, hM2, h⟩ := g_bind h
  have hf := hf.st hM2 (by decide)
  obtain ⟨v3, -, h⟩ := g_bind h
  obtain ⟨M4, hM4, h⟩ := g_bind h
  have hf := hf.st hM4 (by decide)
  obtain ⟨M5, hM5, h⟩ := g_bind h
  have hf := hf.pu hM5 (by decide)
  obtain rfl := Option.some.inj h
  exact hf
def F_X0_keysOf_4 (M : g_M) (k42 : Int32 → Option (Int32)) (k : Int32 → Int32 → Int32 → Option (Int32)) (x1 : Int32) (x2 : Int32) (x3 : Int32) : Option (Int32) :=
  (if (M.1 3 0) ≤ x3 then (k42 x2) else ((if ((x1 &&& ((M.1 3 1) ^^^ (-1))) &&& ((1 : Int32) <<< (x3 &&& 31))) = 0 then (k x1 x2 (x3 + 1)) else ((g_ld M 5 10 x3).bind fun v1 => k x1 (x2 ||| v1) (x3 + 1)))))
set_option maxRecDepth 100000 in
theorem t_X0_keysOf_4 {l : Launch} {X : g_X} {Y : g_Y} {p : Int32} {M : g_M} {k42 : Int32 → Option (Int32)} (C : g_C l (g_rm (0)) RX0 cX0_keysOf 4 X Y) (E : g_E (some .int) X Y (some (.int p)) M) (hk42 : ∀ (x2 : Int32), k42 x2 = some p → g_G 4 X Y 42 [(2, .int x2)] [] M) (n : Nat) : ∀ (x1 : Int32) (x2 : Int32) (x3 : Int32), g_lq3 (F_X0_keysOf_4 M k42) n x1 x2 x3 = some p → g_G 4 X Y 4 [(0, g_r Y 3), (1, .int x1), (2, .int x2), (3, .int x3)] [] M := by
  induction n with
  | zero => intro x1 x2 x3 h; exact (g_nn h).elim
  | succ n ih =>
    intro x1 x2 x3 h
    have h : F_X0_keysOf_4 M k42 (g_lq3 (F_X0_keysOf_4 M k42) n) x1 x2 x3 = some p := h
    generalize g_lq3 (F_X0_keysOf_4 M k42) n = k at h ih
    unfold F_X0_keysOf_4 at h
    refine g_iload_n C 3 dX0_keysOf_4 (q := 5) rfl rfl rfl ?_
    refine g_aload_n C 0 dX0_keysOf_5 (q := 6) rfl rfl rfl ?_
    refine g_get C (k := 3) (i := 0) (by decide) (gc_3 Y _ _) rfl kU_X0 (by decide) kF_X0_24 rfl dX0_keysOf_6 (q := 9) rfl ?_
    have hif := g_if h
    clear h
    refine g_icmp_ge C dX0_keysOf_9 (q := 12) (tgt := 42) rfl (by decide) (fun c => ?_) (fun c => ?_)
    · have h := hif.1 c
      clear hif
      refine g_sub [2] (lv' := [(2, .int x2)]) rfl ?_
      exact hk42 x2 h
    · have h := hif.2 c
      clear hif
      refine g_iload_n C 1 dX0_keysOf_12 (q := 13) rfl rfl rfl ?_
      refine g_aload_n C 0 dX0_keysOf_13 (q := 14) rfl rfl rfl ?_
      refine g_get C (k := 3) (i := 1) (by decide) (gc_3 Y _ _) rfl kU_X0 (by decide) kF_X0_28 rfl dX0_keysOf_14 (q := 17) rfl ?_
      refine g_iconst C (v := (-1)) dX0_keysOf_17 (q := 18) rfl (by decide) ?_
      refine g_ixor C dX0_keysOf_18 (q := 19) rfl ?_
      refine g_iand C dX0_keysOf_19 (q := 20) rfl ?_
      refine g_iconst C (v := 1) dX0_keysOf_20 (q := 21) rfl (by decide) ?_
      refine g_iload_n C 3 dX0_keysOf_21 (q := 22) rfl rfl rfl ?_
      refine g_ishl C dX0_keysOf_22 (q := 23) rfl ?_
      refine g_iand C dX0_keysOf_23 (q := 24) rfl ?_
      have hif := g_if h
      clear h
      refine g_if_eq C dX0_keysOf_24 (q := 27) (tgt := 36) rfl (by decide) (fun c => ?_) (fun c => ?_)
      · have h := hif.1 c
        clear hif
        refine g_iinc C (k := 3) (v := x3 + 1) dX0_keysOf_36 (q := 39) rfl rfl rfl (by decide) (lv' := [(3, .int (x3 + 1)), (0, g_r Y 3), (1, .int x1), (2, .int x2)]) rfl ?_
        refine g_goto C dX0_keysOf_39 (tgt := 4) (by decide) ?_
        refine g_sub [1, 2, 3, 0] (lv' := [(0, g_r Y 3), (1, .int x1), (2, .int x2), (3, .int (x3 + 1))]) rfl ?_
        exact ih x1 x2 (x3 + 1) h
      · have h := hif.2 c
        clear hif
        refine g_iload_n C 2 dX0_keysOf_27 (q := 28) rfl rfl rfl ?_
        refine g_aload_n C 0 dX0_keysOf_28 (q := 29) rfl rfl rfl ?_
        refine g_get C (k := 3) (i := 5) (by decide) (gc_3 Y _ _) rfl kU_X0 (by decide) kF_X0_15 rfl dX0_keysOf_29 (q := 32) rfl ?_
        refine g_iload_n C 3 dX0_keysOf_32 (q := 33) rfl rfl rfl ?_
        obtain ⟨v1, hv1, h⟩ := g_bind h
        refine g_iald C (k := 5) (n := 10) (by decide) (gc_5 Y _ _) hv1 dX0_keysOf_33 (q := 34) rfl ?_
        refine g_ior C dX0_keysOf_34 (q := 35) rfl ?_
        refine g_istore_n C dX0_keysOf_35 (q := 36) rfl rfl (by decide) (lv' := [(2, .int (x2 ||| v1)), (0, g_r Y 3), (1, .int x1), (3, .int x3)]) rfl ?_
        refine g_iinc C (k := 3) (v := x3 + 1) dX0_keysOf_36 (q := 39) rfl rfl rfl (by decide) (lv' := [(3, .int (x3 + 1)), (2, .int (x2 ||| v1)), (0, g_r Y 3), (1, .int x1)]) rfl ?_
        refine g_goto C dX0_keysOf_39 (tgt := 4) (by decide) ?_
        refine g_sub [2, 3, 1, 0] (lv' := [(0, g_r Y 3), (1, .int x1), (2, .int (x2 ||| v1)), (3, .int (x3 + 1))]) rfl ?_
        exact ih x1 (x2 ||| v1) (x3 + 1) h
def f_X0_keysOf (x1 : Int32) (M : g_M) : Option (Int32) :=
  g_lq3 (F_X0_keysOf_4 M (fun (x2 : Int32) => some x2)) 20000000 x1 0 0
set_option maxRecDepth 100000 in
theorem m_X0_keysOf {l : Launch} {Y : g_Y} {x1 : Int32} {M : g_M} {p : Int32} (h : f_X0_keysOf x1 M = some p) : g_R l Y (0) yX0_keysOf cX0_keysOf 4 (some .int) [g_r Y 3, .int x1] M (some (.int p)) M := by
  unfold f_X0_keysOf at h
  refine g_R_of kP_X0 rfl (Nat.le_of_ble_eq_true rfl) (fun X C E => ?_)
  show g_G 4 X Y 0 [(0, g_r Y 3), (1, .int x1)] [] M
  refine g_iconst C (v := 0) dX0_keysOf_0 (q := 1) rfl (by decide) ?_
  refine g_istore_n C dX0_keysOf_1 (q := 2) rfl rfl (by decide) (lv' := [(2, .int 0), (0, g_r Y 3), (1, .int x1)]) rfl ?_
  refine g_iconst C (v := 0) dX0_keysOf_2 (q := 3) rfl (by decide) ?_
  refine g_istore_n C dX0_keysOf_3 (q := 4) rfl rfl (by decide) (lv' := [(3, .int 0), (2, .int 0), (0, g_r Y 3), (1, .int x1)]) rfl ?_
  refine g_sub [2, 3, 1, 0] (lv' := [(0, g_r Y 3), (1, .int x1), (2, .int 0), (3, .int 0)]) rfl ?_
  refine t_X0_keysOf_4 C E ?_ 20000000 x1 0 0 h
  · intro x2 h
    try dsimp only at h
    refine g_iload_n C 0 dX0_keysOf_42 (q := 43) rfl rfl rfl ?_
    obtain rfl := Option.some.inj h
    exact g_iret C E dX0_keysOf_43
def f_X4_opensWith (x1 : Int32) (x2 : Int32) (x3 : Int64) (M : g_M) : Option (Int32) :=
  (g_ld M 28 40 x1).bind fun v1 => (some ((x3 >>> (Int32.toInt64 v1 &&& 63)) &&& 1)).bind fun y2 => (g_ld M 29 40 x1).bind fun v3 => (some ((x3 >>> (Int32.toInt64 v3 &&& 63)) &&& 1)).bind fun y4 => (g_ld M 25 40 x1).bind fun v5 => (if v5 = 2 then ((if (lg_cmp (y2 ||| y4) 0) = 0 then (some 0) else (some 1))) else (if v5 = 3 then ((if (lg_cmp (y2 &&& y4) 0) = 0 then (some 0) else (some 1))) else (if v5 = 4 then ((if (lg_cmp y2 0) = 0 then (some 0) else (some 1))) else (g_ld M 27 40 x1).bind fun v6 => (if (x2 &&& v6) = 0 then (some 0) else (some 1)))))
set_option maxRecDepth 100000 in
theorem m_X4_opensWith {l : Launch} {Y : g_Y} {x1 : Int32} {x2 : Int32} {x3 : Int64} {M : g_M} {p : Int32} (h : f_X4_opensWith x1 x2 x3 M = some p) : g_R l Y (0) yX4_opensWith cX4_opensWith 9 (some .boolean) [g_r Y 24, .int x1, .int x2, .long x3] M (some (.int p)) M := by
  unfold f_X4_opensWith at h
  refine g_R_of kP_X4 rfl (Nat.le_of_ble_eq_true rfl) (fun X C E => ?_)
  show g_G 9 X Y 0 [(0, g_r Y 24), (1, .int x1), (2, .int x2), (3, .long x3)] [] M
  refine g_lload_n C 3 dX4_opensWith_0 (q := 1) rfl rfl rfl ?_
  refine g_aload_n C 0 dX4_opensWith_1 (q := 2) rfl rfl rfl ?_
  refine g_get C (k := 24) (i := 5) (by decide) (gc_24 Y _ _) rfl kU_X4 (by decide) kF_X4_21 rfl dX4_opensWith_2 (q := 5) rfl ?_
  refine g_iload_n C 1 dX4_opensWith_5 (q := 6) rfl rfl rfl ?_
  obtain ⟨v1, hv1, h⟩ := g_bind h
  refine g_iald C (k := 28) (n := 40) (by decide) (gc_28 Y _ _) hv1 dX4_opensWith_6 (q := 7) rfl ?_
  refine g_lshr C dX4_opensWith_7 (q := 8) rfl ?_
  refine g_lconst C (v := 1) dX4_opensWith_8 (q := 9) rfl (by decide) ?_
  refine g_land C dX4_opensWith_9 (q := 10) rfl ?_
  obtain ⟨y2, hy2, h⟩ := g_bind h
  refine g_topl hy2 ?_
  refine g_lstore C dX4_opensWith_10 (q := 12) rfl (by decide) (lv' := [(5, .long y2), (0, g_r Y 24), (1, .int x1), (2, .int x2), (3, .long x3)]) rfl ?_
  refine g_lload_n C 4 dX4_opensWith_12 (q := 13) rfl rfl rfl ?_
  refine g_aload_n C 1 dX4_opensWith_13 (q := 14) rfl rfl rfl ?_
  refine g_get C (k := 24) (i := 6) (by decide) (gc_24 Y _ _) rfl kU_X4 (by decide) kF_X4_24 rfl dX4_opensWith_14 (q := 17) rfl ?_
  refine g_iload_n C 2 dX4_opensWith_17 (q := 18) rfl rfl rfl ?_
  obtain ⟨v3, hv3, h⟩ := g_bind h
  refine g_iald C (k := 29) (n := 40) (by decide) (gc_29 Y _ _) hv3 dX4_opensWith_18 (q := 19) rfl ?_
  refine g_lshr C dX4_opensWith_19 (q := 20) rfl ?_
  refine g_lconst C (v := 1) dX4_opensWith_20 (q := 21) rfl (by decide) ?_
  refine g_land C dX4_opensWith_21 (q := 22) rfl ?_
  obtain ⟨y4, hy4, h⟩ := g_bind h
  refine g_topl hy4 ?_
  refine g_lstore C dX4_opensWith_22 (q := 24) rfl (by decide) (lv' := [(7, .long y4), (5, .long y2), (0, g_r Y 24), (1, .int x1), (2, .int x2), (3, .long x3)]) rfl ?_
  refine g_aload_n C 2 dX4_opensWith_24 (q := 25) rfl rfl rfl ?_
  refine g_get C (k := 24) (i := 2) (by decide) (gc_24 Y _ _) rfl kU_X4 (by decide) kF_X4_9 rfl dX4_opensWith_25 (q := 28) rfl ?_
  refine g_iload_n C 3 dX4_opensWith_28 (q := 29) rfl rfl rfl ?_
  obtain ⟨v5, hv5, h⟩ := g_bind h
  refine g_iald C (k := 25) (n := 40) (by decide) (gc_25 Y _ _) hv5 dX4_opensWith_29 (q := 30) rfl ?_
  by_cases e : v5 = 2
  · rw [if_pos e] at h
    refine g_tabI C (off := 26) (tgt := 56) dX4_opensWith_30 (by rw [e]; decide) (by rw [e]; decide) (by rw [e]; decide) (by decide) ?_
    refine g_lload C 1 dX4_opensWith_56 (q := 58) rfl rfl ?_
    refine g_lload C 0 dX4_opensWith_58 (q := 60) rfl rfl ?_
    refine g_lor C dX4_opensWith_60 (q := 61) rfl ?_
    refine g_lconst C (v := 0) dX4_opensWith_61 (q := 62) rfl (by decide) ?_
    refine g_lcmp C dX4_opensWith_62 (q := 63) rfl ?_
    have hif := g_if h
    clear h
    refine g_if_eq C dX4_opensWith_63 (q := 66) (tgt := 70) rfl (by decide) (fun c => ?_) (fun c => ?_)
    · have h := hif.1 c
      clear hif
      refine g_iconst C (v := 0) dX4_opensWith_70 (q := 71) rfl (by decide) ?_
      obtain rfl := Option.some.inj h
      exact g_zret C (g_bz_lit (by decide)) E dX4_opensWith_71
    · have h := hif.2 c
      clear hif
      refine g_iconst C (v := 1) dX4_opensWith_66 (q := 67) rfl (by decide) ?_
      refine g_goto C dX4_opensWith_67 (tgt := 71) (by decide) ?_
      obtain rfl := Option.some.inj h
      exact g_zret C (g_bz_lit (by decide)) E dX4_opensWith_71
  rw [if_neg e] at h
  have n2 := g_toI (n := 2) (v := 2) (by decide) e
  by_cases e : v5 = 3
  · rw [if_pos e] at h
    refine g_tabI C (off := 42) (tgt := 72) dX4_opensWith_30 (by rw [e]; decide) (by rw [e]; decide) (by rw [e]; decide) (by decide) ?_
    refine g_lload C 1 dX4_opensWith_72 (q := 74) rfl rfl ?_
    refine g_lload C 0 dX4_opensWith_74 (q := 76) rfl rfl ?_
    refine g_land C dX4_opensWith_76 (q := 77) rfl ?_
    refine g_lconst C (v := 0) dX4_opensWith_77 (q := 78) rfl (by decide) ?_
    refine g_lcmp C dX4_opensWith_78 (q := 79) rfl ?_
    have hif := g_if h
    clear h
    refine g_if_eq C dX4_opensWith_79 (q := 82) (tgt := 86) rfl (by decide) (fun c => ?_) (fun c => ?_)
    · have h := hif.1 c
      clear hif
      refine g_iconst C (v := 0) dX4_opensWith_86 (q := 87) rfl (by decide) ?_
      obtain rfl := Option.some.inj h
      exact g_zret C (g_bz_lit (by decide)) E dX4_opensWith_87
    · have h := hif.2 c
      clear hif
      refine g_iconst C (v := 1) dX4_opensWith_82 (q := 83) rfl (by decide) ?_
      refine g_goto C dX4_opensWith_83 (tgt := 87) (by decide) ?_
      obtain rfl := Option.some.inj h
      exact g_zret C (g_bz_lit (by decide)) E dX4_opensWith_87
  rw [if_neg e] at h
  have n3 := g_toI (n := 3) (v := 3) (by decide) e
  by_cases e : v5 = 4
  · rw [if_pos e] at h
    refine g_tabI C (off := 58) (tgt := 88) dX4_opensWith_30 (by rw [e]; decide) (by rw [e]; decide) (by rw [e]; decide) (by decide) ?_
    refine g_lload C 1 dX4_opensWith_88 (q := 90) rfl rfl ?_
    refine g_lconst C (v := 0) dX4_opensWith_90 (q := 91) rfl (by decide) ?_
    refine g_lcmp C dX4_opensWith_91 (q := 92) rfl ?_
    have hif := g_if h
    clear h
    refine g_if_eq C dX4_opensWith_92 (q := 95) (tgt := 99) rfl (by decide) (fun c => ?_) (fun c => ?_)
    · have h := hif.1 c
      clear hif
      refine g_iconst C (v := 0) dX4_opensWith_99 (q := 100) rfl (by decide) ?_
      obtain rfl := Option.some.inj h
      exact g_zret C (g_bz_lit (by decide)) E dX4_opensWith_100
    · have h := hif.2 c
      clear hif
      refine g_iconst C (v := 1) dX4_opensWith_95 (q := 96) rfl (by decide) ?_
      refine g_goto C dX4_opensWith_96 (tgt := 100) (by decide) ?_
      obtain rfl := Option.some.inj h
      exact g_zret C (g_bz_lit (by decide)) E dX4_opensWith_100
  rw [if_neg e] at h
  have n4 := g_toI (n := 4) (v := 4) (by decide) e
  have hdef : g_G 9 X Y 101 [(7, .long y4), (5, .long y2), (0, g_r Y 24), (1, .int x1), (2, .int x2), (3, .long x3)] [] M := by
    refine g_iload_n C 4 dX4_opensWith_101 (q := 102) rfl rfl rfl ?_
    refine g_aload_n C 2 dX4_opensWith_102 (q := 103) rfl rfl rfl ?_
    refine g_get C (k := 24) (i := 4) (by decide) (gc_24 Y _ _) rfl kU_X4 (by decide) kF_X4_18 rfl dX4_opensWith_103 (q := 106) rfl ?_
    refine g_iload_n C 3 dX4_opensWith_106 (q := 107) rfl rfl rfl ?_
    obtain ⟨v6, hv6, h⟩ := g_bind h
    refine g_iald C (k := 27) (n := 40) (by decide) (gc_27 Y _ _) hv6 dX4_opensWith_107 (q := 108) rfl ?_
    refine g_iand C dX4_opensWith_108 (q := 109) rfl ?_
    have hif := g_if h
    clear h
    refine g_if_eq C dX4_opensWith_109 (q := 112) (tgt := 116) rfl (by decide) (fun c => ?_) (fun c => ?_)
    · have h := hif.1 c
      clear hif
      refine g_iconst C (v := 0) dX4_opensWith_116 (q := 117) rfl (by decide) ?_
      obtain rfl := Option.some.inj h
      exact g_zret C (g_bz_lit (by decide)) E dX4_opensWith_117
    · have h := hif.2 c
      clear hif
      refine g_iconst C (v := 1) dX4_opensWith_112 (q := 113) rfl (by decide) ?_
      refine g_goto C dX4_opensWith_113 (tgt := 117) (by decide) ?_
      obtain rfl := Option.some.inj h
      exact g_zret C (g_bz_lit (by decide)) E dX4_opensWith_117
  refine g_tabO C (tgt := 101) dX4_opensWith_30 (by omega) (by decide) hdef
def F_X4_openWith_5 (M : g_M) (k38 : Int64 → Option (Int64)) (k : Int32 → Int64 → Int32 → Option (Int64)) (x1 : Int32) (x2 : Int64) (x4 : Int32) : Option (Int64) :=
  (if (M.1 24 0) ≤ x4 then (k38 x2) else ((f_X4_opensWith x4 x1 x2 M).bind fun p1 => (if p1 = 0 then (k x1 x2 (x4 + 1)) else ((some (x2 ||| ((1 : Int64) <<< (Int32.toInt64 x4 &&& 63)))).bind fun y2 => k x1 y2 (x4 + 1)))))
set_option maxRecDepth 100000 in
theorem t_X4_openWith_5 {l : Launch} {X : g_X} {Y : g_Y} {p : Int64} {M : g_M} {k38 : Int64 → Option (Int64)} (C : g_C l (g_rm (1)) RX4 cX4_openWith 5 X Y) (E : g_E (some .long) X Y (some (.long p)) M) (hk38 : ∀ (x2 : Int64), k38 x2 = some p → g_G 5 X Y 38 [(2, .long x2)] [] M) (n : Nat) : ∀ (x1 : Int32) (x2 : Int64) (x4 : Int32), g_lq3 (F_X4_openWith_5 M k38) n x1 x2 x4 = some p → g_G 5 X Y 5 [(0, g_r Y 24), (1, .int x1), (2, .long x2), (4, .int x4)] [] M := by
  induction n with
  | zero => intro x1 x2 x4 h; exact (g_nn h).elim
  | succ n ih =>
    intro x1 x2 x4 h
    have h : F_X4_openWith_5 M k38 (g_lq3 (F_X4_openWith_5 M k38) n) x1 x2 x4 = some p := h
    generalize g_lq3 (F_X4_openWith_5 M k38) n = k at h ih
    unfold F_X4_openWith_5 at h
    refine g_iload C 3 dX4_openWith_5 (q := 7) rfl rfl ?_
    refine g_aload_n C 0 dX4_openWith_7 (q := 8) rfl rfl rfl ?_
    refine g_get C (k := 24) (i := 0) (by decide) (gc_24 Y _ _) rfl kU_X4 (by decide) kF_X4_33 rfl dX4_openWith_8 (q := 11) rfl ?_
    have hif := g_if h
    clear h
    refine g_icmp_ge C dX4_openWith_11 (q := 14) (tgt := 38) rfl (by decide) (fun c => ?_) (fun c => ?_)
    · have h := hif.1 c
      clear hif
      refine g_sub [2] (lv' := [(2, .long x2)]) rfl ?_
      exact hk38 x2 h
    · have h := hif.2 c
      clear hif
      refine g_aload_n C 0 dX4_openWith_14 (q := 15) rfl rfl rfl ?_
      refine g_iload C 3 dX4_openWith_15 (q := 17) rfl rfl ?_
      refine g_iload_n C 1 dX4_openWith_17 (q := 18) rfl rfl rfl ?_
      refine g_lload_n C 2 dX4_openWith_18 (q := 19) rfl rfl rfl ?_
      obtain ⟨p1, hp1, h⟩ := g_bind h
      refine g_callV C (k := 24) (as := [.int x4, .int x1, .long x2]) (st := []) (m_X4_opensWith hp1) (g_hR (by decide)) (by decide) (by decide) (gc_24 Y _ _) rfl kM_X4_48 kI_X4_opensWith kS_X4_opensWith kN_X4 kC_X4_opensWith kD_X4_opensWith rfl (Nat.le_of_ble_eq_true rfl) dX4_openWith_19 (q := 22) rfl ?_
      show g_G 5 X Y 22 [(0, g_r Y 24), (1, .int x1), (2, .long x2), (4, .int x4)] [.int p1] M
      have hif := g_if h
      clear h
      refine g_if_eq C dX4_openWith_22 (q := 25) (tgt := 32) rfl (by decide) (fun c => ?_) (fun c => ?_)
      · have h := hif.1 c
        clear hif
        refine g_iinc C (k := 3) (v := x4 + 1) dX4_openWith_32 (q := 35) rfl rfl rfl (by decide) (lv' := [(4, .int (x4 + 1)), (0, g_r Y 24), (1, .int x1), (2, .long x2)]) rfl ?_
        refine g_goto C dX4_openWith_35 (tgt := 5) (by decide) ?_
        refine g_sub [1, 2, 3, 0] (lv' := [(0, g_r Y 24), (1, .int x1), (2, .long x2), (4, .int (x4 + 1))]) rfl ?_
        exact ih x1 x2 (x4 + 1) h
      · have h := hif.2 c
        clear hif
        refine g_lload_n C 2 dX4_openWith_25 (q := 26) rfl rfl rfl ?_
        refine g_lconst C (v := 1) dX4_openWith_26 (q := 27) rfl (by decide) ?_
        refine g_iload C 3 dX4_openWith_27 (q := 29) rfl rfl ?_
        refine g_lshl C dX4_openWith_29 (q := 30) rfl ?_
        refine g_lor C dX4_openWith_30 (q := 31) rfl ?_
        obtain ⟨y2, hy2, h⟩ := g_bind h
        refine g_topl hy2 ?_
        refine g_lstore_n C dX4_openWith_31 (q := 32) rfl rfl (by decide) (lv' := [(2, .long y2), (0, g_r Y 24), (1, .int x1), (4, .int x4)]) rfl ?_
        refine g_iinc C (k := 3) (v := x4 + 1) dX4_openWith_32 (q := 35) rfl rfl rfl (by decide) (lv' := [(4, .int (x4 + 1)), (2, .long y2), (0, g_r Y 24), (1, .int x1)]) rfl ?_
        refine g_goto C dX4_openWith_35 (tgt := 5) (by decide) ?_
        refine g_sub [2, 3, 1, 0] (lv' := [(0, g_r Y 24), (1, .int x1), (2, .long y2), (4, .int (x4 + 1))]) rfl ?_
        exact ih x1 y2 (x4 + 1) h
def f_X4_openWith (x1 : Int32) (M : g_M) : Option (Int64) :=
  g_lq3 (F_X4_openWith_5 M (fun (x2 : Int64) => some x2)) 20000000 x1 0 0
set_option maxRecDepth 100000 in
theorem m_X4_openWith {l : Launch} {Y : g_Y} {x1 : Int32} {M : g_M} {p : Int64} (h : f_X4_openWith x1 M = some p) : g_R l Y (1) yX4_openWith cX4_openWith 5 (some .long) [g_r Y 24, .int x1] M (some (.long p)) M := by
  unfold f_X4_openWith at h
  refine g_R_of kP_X4 rfl (Nat.le_of_ble_eq_true rfl) (fun X C E => ?_)
  show g_G 5 X Y 0 [(0, g_r Y 24), (1, .int x1)] [] M
  refine g_lconst C (v := 0) dX4_openWith_0 (q := 1) rfl (by decide) ?_
  refine g_lstore_n C dX4_openWith_1 (q := 2) rfl rfl (by decide) (lv' := [(2, .long 0), (0, g_r Y 24), (1, .int x1)]) rfl ?_
  refine g_iconst C (v := 0) dX4_openWith_2 (q := 3) rfl (by decide) ?_
  refine g_istore C dX4_openWith_3 (q := 5) rfl (by decide) (lv' := [(4, .int 0), (2, .long 0), (0, g_r Y 24), (1, .int x1)]) rfl ?_
  refine g_sub [2, 3, 1, 0] (lv' := [(0, g_r Y 24), (1, .int x1), (2, .long 0), (4, .int 0)]) rfl ?_
  refine t_X4_openWith_5 C E ?_ 20000000 x1 0 0 h
  · intro x2 h
    try dsimp only at h
    refine g_lload_n C 0 dX4_openWith_38 (q := 39) rfl rfl rfl ?_
    obtain rfl := Option.some.inj h
    exact g_lret C E dX4_openWith_39
def F_X4_keysInBoxes_5 (M : g_M) (k54 : Int32 → Option (Int32)) (k : Int64 → Int32 → Int32 → Option (Int32)) (x1 : Int64) (x3 : Int32) (x4 : Int32) : Option (Int32) :=
  (if (M.1 24 0) ≤ x4 then (k54 x3) else ((g_ld M 25 40 x4).bind fun v1 => (if v1 = 4 then ((if (lg_cmp ((x1 >>> (Int32.toInt64 x4 &&& 63)) &&& 1) 0) = 0 then (k x1 x3 (x4 + 1)) else ((g_ld M 26 40 x4).bind fun v2 => (some (x3 ||| ((1 : Int32) <<< (v2 &&& 31)))).bind fun y3 => k x1 y3 (x4 + 1)))) else (k x1 x3 (x4 + 1)))))
set_option maxRecDepth 100000 in
theorem t_X4_keysInBoxes_5 {l : Launch} {X : g_X} {Y : g_Y} {p : Int32} {M : g_M} {k54 : Int32 → Option (Int32)} (C : g_C l (g_rm (0)) RX4 cX4_keysInBoxes 5 X Y) (E : g_E (some .int) X Y (some (.int p)) M) (hk54 : ∀ (x3 : Int32), k54 x3 = some p → g_G 5 X Y 54 [(3, .int x3)] [] M) (n : Nat) : ∀ (x1 : Int64) (x3 : Int32) (x4 : Int32), g_lq3 (F_X4_keysInBoxes_5 M k54) n x1 x3 x4 = some p → g_G 5 X Y 5 [(0, g_r Y 24), (1, .long x1), (3, .int x3), (4, .int x4)] [] M := by
  induction n with
  | zero => intro x1 x3 x4 h; exact (g_nn h).elim
  | succ n ih =>
    intro x1 x3 x4 h
    have h : F_X4_keysInBoxes_5 M k54 (g_lq3 (F_X4_keysInBoxes_5 M k54) n) x1 x3 x4 = some p := h
    generalize g_lq3 (F_X4_keysInBoxes_5 M k54) n = k at h ih
    unfold F_X4_keysInBoxes_5 at h
    refine g_iload C 3 dX4_keysInBoxes_5 (q := 7) rfl rfl ?_
    refine g_aload_n C 0 dX4_keysInBoxes_7 (q := 8) rfl rfl rfl ?_
    refine g_get C (k := 24) (i := 0) (by decide) (gc_24 Y _ _) rfl kU_X4 (by decide) kF_X4_33 rfl dX4_keysInBoxes_8 (q := 11) rfl ?_
    have hif := g_if h
    clear h
    refine g_icmp_ge C dX4_keysInBoxes_11 (q := 14) (tgt := 54) rfl (by decide) (fun c => ?_) (fun c => ?_)
    · have h := hif.1 c
      clear hif
      refine g_sub [2] (lv' := [(3, .int x3)]) rfl ?_
      exact hk54 x3 h
    · have h := hif.2 c
      clear hif
      refine g_aload_n C 0 dX4_keysInBoxes_14 (q := 15) rfl rfl rfl ?_
      refine g_get C (k := 24) (i := 2) (by decide) (gc_24 Y _ _) rfl kU_X4 (by decide) kF_X4_9 rfl dX4_keysInBoxes_15 (q := 18) rfl ?_
      refine g_iload C 3 dX4_keysInBoxes_18 (q := 20) rfl rfl ?_
      obtain ⟨v1, hv1, h⟩ := g_bind h
      refine g_iald C (k := 25) (n := 40) (by decide) (gc_25 Y _ _) hv1 dX4_keysInBoxes_20 (q := 21) rfl ?_
      refine g_iconst C (v := 4) dX4_keysInBoxes_21 (q := 22) rfl (by decide) ?_
      have hif := g_if h
      clear h
      refine g_icmp_ne C dX4_keysInBoxes_22 (q := 25) (tgt := 48) rfl (by decide) (fun c => ?_) (fun c => ?_)
      · have h := hif.2 c
        clear hif
        refine g_iinc C (k := 3) (v := x4 + 1) dX4_keysInBoxes_48 (q := 51) rfl rfl rfl (by decide) (lv' := [(4, .int (x4 + 1)), (0, g_r Y 24), (1, .long x1), (3, .int x3)]) rfl ?_
        refine g_goto C dX4_keysInBoxes_51 (tgt := 5) (by decide) ?_
        refine g_sub [1, 2, 3, 0] (lv' := [(0, g_r Y 24), (1, .long x1), (3, .int x3), (4, .int (x4 + 1))]) rfl ?_
        exact ih x1 x3 (x4 + 1) h
      · have h := hif.1 c
        clear hif
        refine g_lload_n C 1 dX4_keysInBoxes_25 (q := 26) rfl rfl rfl ?_
        refine g_iload C 3 dX4_keysInBoxes_26 (q := 28) rfl rfl ?_
        refine g_lshr C dX4_keysInBoxes_28 (q := 29) rfl ?_
        refine g_lconst C (v := 1) dX4_keysInBoxes_29 (q := 30) rfl (by decide) ?_
        refine g_land C dX4_keysInBoxes_30 (q := 31) rfl ?_
        refine g_lconst C (v := 0) dX4_keysInBoxes_31 (q := 32) rfl (by decide) ?_
        refine g_lcmp C dX4_keysInBoxes_32 (q := 33) rfl ?_
        have hif := g_if h
        clear h
        refine g_if_eq C dX4_keysInBoxes_33 (q := 36) (tgt := 48) rfl (by decide) (fun c => ?_) (fun c => ?_)
        · have h := hif.1 c
          clear hif
          refine g_iinc C (k := 3) (v := x4 + 1) dX4_keysInBoxes_48 (q := 51) rfl rfl rfl (by decide) (lv' := [(4, .int (x4 + 1)), (0, g_r Y 24), (1, .long x1), (3, .int x3)]) rfl ?_
          refine g_goto C dX4_keysInBoxes_51 (tgt := 5) (by decide) ?_
          refine g_sub [1, 2, 3, 0] (lv' := [(0, g_r Y 24), (1, .long x1), (3, .int x3), (4, .int (x4 + 1))]) rfl ?_
          exact ih x1 x3 (x4 + 1) h
        · have h := hif.2 c
          clear hif
          refine g_iload_n C 2 dX4_keysInBoxes_36 (q := 37) rfl rfl rfl ?_
          refine g_iconst C (v := 1) dX4_keysInBoxes_37 (q := 38) rfl (by decide) ?_
          refine g_aload_n C 0 dX4_keysInBoxes_38 (q := 39) rfl rfl rfl ?_
          refine g_get C (k := 24) (i := 3) (by decide) (gc_24 Y _ _) rfl kU_X4 (by decide) kF_X4_15 rfl dX4_keysInBoxes_39 (q := 42) rfl ?_
          refine g_iload C 3 dX4_keysInBoxes_42 (q := 44) rfl rfl ?_
          obtain ⟨v2, hv2, h⟩ := g_bind h
          refine g_iald C (k := 26) (n := 40) (by decide) (gc_26 Y _ _) hv2 dX4_keysInBoxes_44 (q := 45) rfl ?_
          refine g_ishl C dX4_keysInBoxes_45 (q := 46) rfl ?_
          refine g_ior C dX4_keysInBoxes_46 (q := 47) rfl ?_
          obtain ⟨y3, hy3, h⟩ := g_bind h
          refine g_top hy3 ?_
          refine g_istore_n C dX4_keysInBoxes_47 (q := 48) rfl rfl (by decide) (lv' := [(3, .int y3), (0, g_r Y 24), (1, .long x1), (4, .int x4)]) rfl ?_
          refine g_iinc C (k := 3) (v := x4 + 1) dX4_keysInBoxes_48 (q := 51) rfl rfl rfl (by decide) (lv' := [(4, .int (x4 + 1)), (3, .int y3), (0, g_r Y 24), (1, .long x1)]) rfl ?_
          refine g_goto C dX4_keysInBoxes_51 (tgt := 5) (by decide) ?_
          refine g_sub [2, 3, 1, 0] (lv' := [(0, g_r Y 24), (1, .long x1), (3, .int y3), (4, .int (x4 + 1))]) rfl ?_
          exact ih x1 y3 (x4 + 1) h
def f_X4_keysInBoxes (x1 : Int64) (M : g_M) : Option (Int32) :=
  g_lq3 (F_X4_keysInBoxes_5 M (fun (x3 : Int32) => some x3)) 20000000 x1 0 0
set_option maxRecDepth 100000 in
theorem m_X4_keysInBoxes {l : Launch} {Y : g_Y} {x1 : Int64} {M : g_M} {p : Int32} (h : f_X4_keysInBoxes x1 M = some p) : g_R l Y (0) yX4_keysInBoxes cX4_keysInBoxes 5 (some .int) [g_r Y 24, .long x1] M (some (.int p)) M := by
  unfold f_X4_keysInBoxes at h
  refine g_R_of kP_X4 rfl (Nat.le_of_ble_eq_true rfl) (fun X C E => ?_)
  show g_G 5 X Y 0 [(0, g_r Y 24), (1, .long x1)] [] M
  refine g_iconst C (v := 0) dX4_keysInBoxes_0 (q := 1) rfl (by decide) ?_
  refine g_istore_n C dX4_keysInBoxes_1 (q := 2) rfl rfl (by decide) (lv' := [(3, .int 0), (0, g_r Y 24), (1, .long x1)]) rfl ?_
  refine g_iconst C (v := 0) dX4_keysInBoxes_2 (q := 3) rfl (by decide) ?_
  refine g_istore C dX4_keysInBoxes_3 (q := 5) rfl (by decide) (lv' := [(4, .int 0), (3, .int 0), (0, g_r Y 24), (1, .long x1)]) rfl ?_
  refine g_sub [2, 3, 1, 0] (lv' := [(0, g_r Y 24), (1, .long x1), (3, .int 0), (4, .int 0)]) rfl ?_
  refine t_X4_keysInBoxes_5 C E ?_ 20000000 x1 0 0 h
  · intro x3 h
    try dsimp only at h
    refine g_iload_n C 0 dX4_keysInBoxes_54 (q := 55) rfl rfl rfl ?_
    obtain rfl := Option.some.inj h
    exact g_iret C E dX4_keysInBoxes_55
def F_X4_openInTheEnd_11 (M : g_M) (k33 : Int64 → Option (Int64)) (k51 : Int64 → Option (Int64)) (k : Int32 → Int64 → Int32 → Option (Int64)) (x2 : Int32) (x3 : Int64) (x5 : Int32) : Option (Int64) :=
  (if 40 < x5 then (k51 x3) else ((f_X4_keysInBoxes x3 M).bind fun p2 => (if (x2 ||| p2) = x2 then (k33 x3) else ((f_X4_openWith (x2 ||| p2) M).bind fun p3 => k (x2 ||| p2) p3 (x5 + 1)))))
set_option maxRecDepth 100000 in
theorem t_X4_openInTheEnd_11 {l : Launch} {X : g_X} {Y : g_Y} {p : Int64} {M : g_M} {k33 : Int64 → Option (Int64)} {k51 : Int64 → Option (Int64)} (C : g_C l (g_rm (2)) RX4 cX4_openInTheEnd 7 X Y) (E : g_E (some .long) X Y (some (.long p)) M) (hk33 : ∀ (x3 : Int64), k33 x3 = some p → g_G 7 X Y 33 [(3, .long x3)] [] M) (hk51 : ∀ (x3 : Int64), k51 x3 = some p → g_G 7 X Y 51 [(3, .long x3)] [] M) (n : Nat) : ∀ (x2 : Int32) (x3 : Int64) (x5 : Int32), g_lq3 (F_X4_openInTheEnd_11 M k33 k51) n x2 x3 x5 = some p → g_G 7 X Y 11 [(0, g_r Y 24), (2, .int x2), (3, .long x3), (5, .int x5)] [] M := by
  induction n with
  | zero => intro x2 x3 x5 h; exact (g_nn h).elim
  | succ n ih =>
    intro x2 x3 x5 h
    have h : F_X4_openInTheEnd_11 M k33 k51 (g_lq3 (F_X4_openInTheEnd_11 M k33 k51) n) x2 x3 x5 = some p := h
    generalize g_lq3 (F_X4_openInTheEnd_11 M k33 k51) n = k at h ih
    unfold F_X4_openInTheEnd_11 at h
    refine g_iload C 3 dX4_openInTheEnd_11 (q := 13) rfl rfl ?_
    refine g_bipush C (v := 40) dX4_openInTheEnd_13 (q := 15) rfl (by decide) ?_
    have hif := g_if h
    clear h
    refine g_icmp_gt C dX4_openInTheEnd_15 (q := 18) (tgt := 51) rfl (by decide) (fun c => ?_) (fun c => ?_)
    · have h := hif.1 c
      clear hif
      refine g_sub [2] (lv' := [(3, .long x3)]) rfl ?_
      exact hk51 x3 h
    · have h := hif.2 c
      clear hif
      refine g_iload_n C 1 dX4_openInTheEnd_18 (q := 19) rfl rfl rfl ?_
      refine g_aload_n C 0 dX4_openInTheEnd_19 (q := 20) rfl rfl rfl ?_
      refine g_lload_n C 2 dX4_openInTheEnd_20 (q := 21) rfl rfl rfl ?_
      obtain ⟨p2, hp2, h⟩ := g_bind h
      refine g_callV C (k := 24) (as := [.long x3]) (st := [.int x2]) (m_X4_keysInBoxes hp2) (g_hR (by decide)) (by decide) (by decide) (gc_24 Y _ _) rfl kM_X4_56 kI_X4_keysInBoxes kS_X4_keysInBoxes kN_X4 kC_X4_keysInBoxes kD_X4_keysInBoxes rfl (Nat.le_of_ble_eq_true rfl) dX4_openInTheEnd_21 (q := 24) rfl ?_
      show g_G 7 X Y 24 [(0, g_r Y 24), (2, .int x2), (3, .long x3), (5, .int x5)] [.int p2, .int x2] M
      refine g_ior C dX4_openInTheEnd_24 (q := 25) rfl ?_
      refine g_istore C dX4_openInTheEnd_25 (q := 27) rfl (by decide) (lv' := [(6, .int (x2 ||| p2)), (0, g_r Y 24), (2, .int x2), (3, .long x3), (5, .int x5)]) rfl ?_
      refine g_iload C 0 dX4_openInTheEnd_27 (q := 29) rfl rfl ?_
      refine g_iload_n C 2 dX4_openInTheEnd_29 (q := 30) rfl rfl rfl ?_
      have hif := g_if h
      clear h
      refine g_icmp_ne C dX4_openInTheEnd_30 (q := 33) (tgt := 36) rfl (by decide) (fun c => ?_) (fun c => ?_)
      · have h := hif.2 c
        clear hif
        refine g_iload C 0 dX4_openInTheEnd_36 (q := 38) rfl rfl ?_
        refine g_istore_n C dX4_openInTheEnd_38 (q := 39) rfl rfl (by decide) (lv' := [(2, .int (x2 ||| p2)), (6, .int (x2 ||| p2)), (0, g_r Y 24), (3, .long x3), (5, .int x5)]) rfl ?_
        refine g_aload_n C 2 dX4_openInTheEnd_39 (q := 40) rfl rfl rfl ?_
        refine g_iload_n C 0 dX4_openInTheEnd_40 (q := 41) rfl rfl rfl ?_
        obtain ⟨p3, hp3, h⟩ := g_bind h
        refine g_callV C (k := 24) (as := [.int (x2 ||| p2)]) (st := []) (m_X4_openWith hp3) (g_hR (by decide)) (by decide) (by decide) (gc_24 Y _ _) rfl kM_X4_52 kI_X4_openWith kS_X4_openWith kN_X4 kC_X4_openWith kD_X4_openWith rfl (Nat.le_of_ble_eq_true rfl) dX4_openInTheEnd_41 (q := 44) rfl ?_
        show g_G 7 X Y 44 [(2, .int (x2 ||| p2)), (6, .int (x2 ||| p2)), (0, g_r Y 24), (3, .long x3), (5, .int x5)] [.long p3] M
        refine g_lstore_n C dX4_openInTheEnd_44 (q := 45) rfl rfl (by decide) (lv' := [(3, .long p3), (2, .int (x2 ||| p2)), (6, .int (x2 ||| p2)), (0, g_r Y 24), (5, .int x5)]) rfl ?_
        refine g_iinc C (k := 4) (v := x5 + 1) dX4_openInTheEnd_45 (q := 48) rfl rfl rfl (by decide) (lv' := [(5, .int (x5 + 1)), (3, .long p3), (2, .int (x2 ||| p2)), (6, .int (x2 ||| p2)), (0, g_r Y 24)]) rfl ?_
        refine g_goto C dX4_openInTheEnd_48 (tgt := 11) (by decide) ?_
        refine g_sub [4, 2, 1, 0] (lv' := [(0, g_r Y 24), (2, .int (x2 ||| p2)), (3, .long p3), (5, .int (x5 + 1))]) rfl ?_
        exact ih (x2 ||| p2) p3 (x5 + 1) h
      · have h := hif.1 c
        clear hif
        refine g_sub [3] (lv' := [(3, .long x3)]) rfl ?_
        exact hk33 x3 h
def f_X4_openInTheEnd (x1 : Int32) (M : g_M) : Option (Int64) :=
  (f_X4_openWith x1 M).bind fun p1 => g_lq3 (F_X4_openInTheEnd_11 M (fun (x3 : Int64) => some x3) (fun (x3 : Int64) => some x3)) 20000000 x1 p1 1
set_option maxRecDepth 100000 in
theorem m_X4_openInTheEnd {l : Launch} {Y : g_Y} {x1 : Int32} {M : g_M} {p : Int64} (h : f_X4_openInTheEnd x1 M = some p) : g_R l Y (2) yX4_openInTheEnd cX4_openInTheEnd 7 (some .long) [g_r Y 24, .int x1] M (some (.long p)) M := by
  unfold f_X4_openInTheEnd at h
  refine g_R_of kP_X4 rfl (Nat.le_of_ble_eq_true rfl) (fun X C E => ?_)
  show g_G 7 X Y 0 [(0, g_r Y 24), (1, .int x1)] [] M
  refine g_iload_n C 1 dX4_openInTheEnd_0 (q := 1) rfl rfl rfl ?_
  refine g_istore_n C dX4_openInTheEnd_1 (q := 2) rfl rfl (by decide) (lv' := [(2, .int x1), (0, g_r Y 24), (1, .int x1)]) rfl ?_
  refine g_aload_n C 1 dX4_openInTheEnd_2 (q := 3) rfl rfl rfl ?_
  refine g_iload_n C 0 dX4_openInTheEnd_3 (q := 4) rfl rfl rfl ?_
  obtain ⟨p1, hp1, h⟩ := g_bind h
  refine g_callV C (k := 24) (as := [.int x1]) (st := []) (m_X4_openWith hp1) (g_hR (by decide)) (by decide) (by decide) (gc_24 Y _ _) rfl kM_X4_52 kI_X4_openWith kS_X4_openWith kN_X4 kC_X4_openWith kD_X4_openWith rfl (Nat.le_of_ble_eq_true rfl) dX4_openInTheEnd_4 (q := 7) rfl ?_
  show g_G 7 X Y 7 [(2, .int x1), (0, g_r Y 24), (1, .int x1)] [.long p1] M
  refine g_lstore_n C dX4_openInTheEnd_7 (q := 8) rfl rfl (by decide) (lv' := [(3, .long p1), (2, .int x1), (0, g_r Y 24), (1, .int x1)]) rfl ?_
  refine g_iconst C (v := 1) dX4_openInTheEnd_8 (q := 9) rfl (by decide) ?_
  refine g_istore C dX4_openInTheEnd_9 (q := 11) rfl (by decide) (lv' := [(5, .int 1), (3, .long p1), (2, .int x1), (0, g_r Y 24), (1, .int x1)]) rfl ?_
  refine g_sub [3, 2, 1, 0] (lv' := [(0, g_r Y 24), (2, .int x1), (3, .long p1), (5, .int 1)]) rfl ?_
  refine t_X4_openInTheEnd_11 C E ?_ ?_ 20000000 x1 p1 1 h
  · intro x3 h
    try dsimp only at h
    refine g_goto C dX4_openInTheEnd_33 (tgt := 51) (by decide) ?_
    refine g_lload_n C 0 dX4_openInTheEnd_51 (q := 52) rfl rfl rfl ?_
    obtain rfl := Option.some.inj h
    exact g_lret C E dX4_openInTheEnd_52
  · intro x3 h
    try dsimp only at h
    refine g_lload_n C 0 dX4_openInTheEnd_51 (q := 52) rfl rfl rfl ?_
    obtain rfl := Option.some.inj h
    exact g_lret C E dX4_openInTheEnd_52
def f_X4_isOpenInTheEnd (x1 : Int32) (x2 : Int32) (M : g_M) : Option (Int32) :=
  (f_X4_openInTheEnd x2 M).bind fun p1 => (if (lg_cmp ((p1 >>> (Int32.toInt64 x1 &&& 63)) &&& 1) 0) = 0 then (some 0) else (some 1))
set_option maxRecDepth 100000 in
theorem m_X4_isOpenInTheEnd {l : Launch} {Y : g_Y} {x1 : Int32} {x2 : Int32} {M : g_M} {p : Int32} (h : f_X4_isOpenInTheEnd x1 x2 M = some p) : g_R l Y (3) yX4_isOpenInTheEnd cX4_isOpenInTheEnd 3 (some .boolean) [g_r Y 24, .int x1, .int x2] M (some (.int p)) M := by
  unfold f_X4_isOpenInTheEnd at h
  refine g_R_of kP_X4 rfl (Nat.le_of_ble_eq_true rfl) (fun X C E => ?_)
  show g_G 3 X Y 0 [(0, g_r Y 24), (1, .int x1), (2, .int x2)] [] M
  refine g_aload_n C 0 dX4_isOpenInTheEnd_0 (q := 1) rfl rfl rfl ?_
  refine g_iload_n C 2 dX4_isOpenInTheEnd_1 (q := 2) rfl rfl rfl ?_
  obtain ⟨p1, hp1, h⟩ := g_bind h
  refine g_callV C (k := 24) (as := [.int x2]) (st := []) (m_X4_openInTheEnd hp1) (g_hR (by decide)) (by decide) (by decide) (gc_24 Y _ _) rfl kM_X4_60 kI_X4_openInTheEnd kS_X4_openInTheEnd kN_X4 kC_X4_openInTheEnd kD_X4_openInTheEnd rfl (Nat.le_of_ble_eq_true rfl) dX4_isOpenInTheEnd_2 (q := 5) rfl ?_
  show g_G 3 X Y 5 [(0, g_r Y 24), (1, .int x1), (2, .int x2)] [.long p1] M
  refine g_iload_n C 1 dX4_isOpenInTheEnd_5 (q := 6) rfl rfl rfl ?_
  refine g_lshr C dX4_isOpenInTheEnd_6 (q := 7) rfl ?_
  refine g_lconst C (v := 1) dX4_isOpenInTheEnd_7 (q := 8) rfl (by decide) ?_
  refine g_land C dX4_isOpenInTheEnd_8 (q := 9) rfl ?_
  refine g_lconst C (v := 0) dX4_isOpenInTheEnd_9 (q := 10) rfl (by decide) ?_
  refine g_lcmp C dX4_isOpenInTheEnd_10 (q := 11) rfl ?_
  have hif := g_if h
  clear h
  refine g_if_eq C dX4_isOpenInTheEnd_11 (q := 14) (tgt := 18) rfl (by decide) (fun c => ?_) (fun c => ?_)
  · have h := hif.1 c
    clear hif
    refine g_iconst C (v := 0) dX4_isOpenInTheEnd_18 (q := 19) rfl (by decide) ?_
    obtain rfl := Option.some.inj h
    exact g_zret C (g_bz_lit (by decide)) E dX4_isOpenInTheEnd_19
  · have h := hif.2 c
    clear hif
    refine g_iconst C (v := 1) dX4_isOpenInTheEnd_14 (q := 15) rfl (by decide) ?_
    refine g_goto C dX4_isOpenInTheEnd_15 (tgt := 19) (by decide) ?_
    obtain rfl := Option.some.inj h
    exact g_zret C (g_bz_lit (by decide)) E dX4_isOpenInTheEnd_19
def f_X4_keysInTheEnd (x1 : Int32) (M : g_M) : Option (Int32) :=
  (f_X4_openInTheEnd x1 M).bind fun p1 => (f_X4_keysInBoxes p1 M).bind fun p2 => some (x1 ||| p2)
set_option maxRecDepth 100000 in
theorem m_X4_keysInTheEnd {l : Launch} {Y : g_Y} {x1 : Int32} {M : g_M} {p : Int32} (h : f_X4_keysInTheEnd x1 M = some p) : g_R l Y (3) yX4_keysInTheEnd cX4_keysInTheEnd 2 (some .int) [g_r Y 24, .int x1] M (some (.int p)) M := by
  unfold f_X4_keysInTheEnd at h
  refine g_R_of kP_X4 rfl (Nat.le_of_ble_eq_true rfl) (fun X C E => ?_)
  show g_G 2 X Y 0 [(0, g_r Y 24), (1, .int x1)] [] M
  refine g_iload_n C 1 dX4_keysInTheEnd_0 (q := 1) rfl rfl rfl ?_
  refine g_aload_n C 0 dX4_keysInTheEnd_1 (q := 2) rfl rfl rfl ?_
  refine g_aload_n C 0 dX4_keysInTheEnd_2 (q := 3) rfl rfl rfl ?_
  refine g_iload_n C 1 dX4_keysInTheEnd_3 (q := 4) rfl rfl rfl ?_
  obtain ⟨p1, hp1, h⟩ := g_bind h
  refine g_callV C (k := 24) (as := [.int x1]) (st := [g_r Y 24, .int x1]) (m_X4_openInTheEnd hp1) (g_hR (by decide)) (by decide) (by decide) (gc_24 Y _ _) rfl kM_X4_60 kI_X4_openInTheEnd kS_X4_openInTheEnd kN_X4 kC_X4_openInTheEnd kD_X4_openInTheEnd rfl (Nat.le_of_ble_eq_true rfl) dX4_keysInTheEnd_4 (q := 7) rfl ?_
  show g_G 2 X Y 7 [(0, g_r Y 24), (1, .int x1)] [.long p1, g_r Y 24, .int x1] M
  obtain ⟨p2, hp2, h⟩ := g_bind h
  refine g_callV C (k := 24) (as := [.long p1]) (st := [.int x1]) (m_X4_keysInBoxes hp2) (g_hR (by decide)) (by decide) (by decide) (gc_24 Y _ _) rfl kM_X4_56 kI_X4_keysInBoxes kS_X4_keysInBoxes kN_X4 kC_X4_keysInBoxes kD_X4_keysInBoxes rfl (Nat.le_of_ble_eq_true rfl) dX4_keysInTheEnd_7 (q := 10) rfl ?_
  show g_G 2 X Y 10 [(0, g_r Y 24), (1, .int x1)] [.int p2, .int x1] M
  refine g_ior C dX4_keysInTheEnd_10 (q := 11) rfl ?_
  obtain rfl := Option.some.inj h
  exact g_iret C E dX4_keysInTheEnd_11
def F_X4_roundOf_5 (M : g_M) (k30 : Int32 → Option (Int32)) (k49 : Option (Int32)) (k60 : Option (Int32)) (k : Int32 → Int32 → Int32 → Option (Int32)) (x1 : Int32) (x3 : Int32) (x4 : Int32) : Option (Int32) :=
  (if 40 < x4 then (k60) else ((f_X4_openWith x3 M).bind fun p1 => (if (lg_cmp ((p1 >>> (Int32.toInt64 x1 &&& 63)) &&& 1) 0) = 0 then ((f_X4_keysInBoxes p1 M).bind fun p2 => (if (x3 ||| p2) = x3 then (k49) else (k x1 (x3 ||| p2) (x4 + 1)))) else (k30 x4))))
set_option maxRecDepth 100000 in
theorem t_X4_roundOf_5 {l : Launch} {X : g_X} {Y : g_Y} {p : Int32} {M : g_M} {k30 : Int32 → Option (Int32)} {k49 : Option (Int32)} {k60 : Option (Int32)} (C : g_C l (g_rm (2)) RX4 cX4_roundOf 8 X Y) (E : g_E (some .int) X Y (some (.int p)) M) (hk30 : ∀ (x4 : Int32), k30 x4 = some p → g_G 8 X Y 30 [(4, .int x4)] [] M) (hk49 : k49 = some p → g_G 8 X Y 49 [] [] M) (hk60 : k60 = some p → g_G 8 X Y 60 [] [] M) (n : Nat) : ∀ (x1 : Int32) (x3 : Int32) (x4 : Int32), g_lq3 (F_X4_roundOf_5 M k30 k49 k60) n x1 x3 x4 = some p → g_G 8 X Y 5 [(0, g_r Y 24), (1, .int x1), (3, .int x3), (4, .int x4)] [] M := by
  induction n with
  | zero => intro x1 x3 x4 h; exact (g_nn h).elim
  | succ n ih =>
    intro x1 x3 x4 h
    have h : F_X4_roundOf_5 M k30 k49 k60 (g_lq3 (F_X4_roundOf_5 M k30 k49 k60) n) x1 x3 x4 = some p := h
    generalize g_lq3 (F_X4_roundOf_5 M k30 k49 k60) n = k at h ih
    unfold F_X4_roundOf_5 at h
    refine g_iload C 3 dX4_roundOf_5 (q := 7) rfl rfl ?_
    refine g_bipush C (v := 40) dX4_roundOf_7 (q := 9) rfl (by decide) ?_
    have hif := g_if h
    clear h
    refine g_icmp_gt C dX4_roundOf_9 (q := 12) (tgt := 60) rfl (by decide) (fun c => ?_) (fun c => ?_)
    · have h := hif.1 c
      clear hif
      refine g_sub [] (lv' := []) rfl ?_
      exact hk60 h
    · have h := hif.2 c
      clear hif
      refine g_aload_n C 0 dX4_roundOf_12 (q := 13) rfl rfl rfl ?_
      refine g_iload_n C 2 dX4_roundOf_13 (q := 14) rfl rfl rfl ?_
      obtain ⟨p1, hp1, h⟩ := g_bind h
      refine g_callV C (k := 24) (as := [.int x3]) (st := []) (m_X4_openWith hp1) (g_hR (by decide)) (by decide) (by decide) (gc_24 Y _ _) rfl kM_X4_52 kI_X4_openWith kS_X4_openWith kN_X4 kC_X4_openWith kD_X4_openWith rfl (Nat.le_of_ble_eq_true rfl) dX4_roundOf_14 (q := 17) rfl ?_
      show g_G 8 X Y 17 [(0, g_r Y 24), (1, .int x1), (3, .int x3), (4, .int x4)] [.long p1] M
      refine g_lstore C dX4_roundOf_17 (q := 19) rfl (by decide) (lv' := [(5, .long p1), (0, g_r Y 24), (1, .int x1), (3, .int x3), (4, .int x4)]) rfl ?_
      refine g_lload C 0 dX4_roundOf_19 (q := 21) rfl rfl ?_
      refine g_iload_n C 2 dX4_roundOf_21 (q := 22) rfl rfl rfl ?_
      refine g_lshr C dX4_roundOf_22 (q := 23) rfl ?_
      refine g_lconst C (v := 1) dX4_roundOf_23 (q := 24) rfl (by decide) ?_
      refine g_land C dX4_roundOf_24 (q := 25) rfl ?_
      refine g_lconst C (v := 0) dX4_roundOf_25 (q := 26) rfl (by decide) ?_
      refine g_lcmp C dX4_roundOf_26 (q := 27) rfl ?_
      have hif := g_if h
      clear h
      refine g_if_eq C dX4_roundOf_27 (q := 30) (tgt := 33) rfl (by decide) (fun c => ?_) (fun c => ?_)
      · have h := hif.1 c
        clear hif
        refine g_iload_n C 3 dX4_roundOf_33 (q := 34) rfl rfl rfl ?_
        refine g_aload_n C 1 dX4_roundOf_34 (q := 35) rfl rfl rfl ?_
        refine g_lload C 0 dX4_roundOf_35 (q := 37) rfl rfl ?_
        obtain ⟨p2, hp2, h⟩ := g_bind h
        refine g_callV C (k := 24) (as := [.long p1]) (st := [.int x3]) (m_X4_keysInBoxes hp2) (g_hR (by decide)) (by decide) (by decide) (gc_24 Y _ _) rfl kM_X4_56 kI_X4_keysInBoxes kS_X4_keysInBoxes kN_X4 kC_X4_keysInBoxes kD_X4_keysInBoxes rfl (Nat.le_of_ble_eq_true rfl) dX4_roundOf_37 (q := 40) rfl ?_
        show g_G 8 X Y 40 [(5, .long p1), (0, g_r Y 24), (1, .int x1), (3, .int x3), (4, .int x4)] [.int p2, .int x3] M
        refine g_ior C dX4_roundOf_40 (q := 41) rfl ?_
        refine g_istore C dX4_roundOf_41 (q := 43) rfl (by decide) (lv' := [(7, .int (x3 ||| p2)), (5, .long p1), (0, g_r Y 24), (1, .int x1), (3, .int x3), (4, .int x4)]) rfl ?_
        refine g_iload C 0 dX4_roundOf_43 (q := 45) rfl rfl ?_
        refine g_iload_n C 4 dX4_roundOf_45 (q := 46) rfl rfl rfl ?_
        have hif := g_if h
        clear h
        refine g_icmp_ne C dX4_roundOf_46 (q := 49) (tgt := 51) rfl (by decide) (fun c => ?_) (fun c => ?_)
        · have h := hif.2 c
          clear hif
          refine g_iload C 0 dX4_roundOf_51 (q := 53) rfl rfl ?_
          refine g_istore_n C dX4_roundOf_53 (q := 54) rfl rfl (by decide) (lv' := [(3, .int (x3 ||| p2)), (7, .int (x3 ||| p2)), (5, .long p1), (0, g_r Y 24), (1, .int x1), (4, .int x4)]) rfl ?_
          refine g_iinc C (k := 5) (v := x4 + 1) dX4_roundOf_54 (q := 57) rfl rfl rfl (by decide) (lv' := [(4, .int (x4 + 1)), (3, .int (x3 ||| p2)), (7, .int (x3 ||| p2)), (5, .long p1), (0, g_r Y 24), (1, .int x1)]) rfl ?_
          refine g_goto C dX4_roundOf_57 (tgt := 5) (by decide) ?_
          refine g_sub [4, 5, 1, 0] (lv' := [(0, g_r Y 24), (1, .int x1), (3, .int (x3 ||| p2)), (4, .int (x4 + 1))]) rfl ?_
          exact ih x1 (x3 ||| p2) (x4 + 1) h
        · have h := hif.1 c
          clear hif
          refine g_sub [] (lv' := []) rfl ?_
          exact hk49 h
      · have h := hif.2 c
        clear hif
        refine g_sub [4] (lv' := [(4, .int x4)]) rfl ?_
        exact hk30 x4 h
def f_X4_roundOf (x1 : Int32) (x2 : Int32) (M : g_M) : Option (Int32) :=
  g_lq3 (F_X4_roundOf_5 M (fun (x4 : Int32) => some x4) (some 0) (some 0)) 20000000 x1 x2 1
set_option maxRecDepth 100000 in
theorem m_X4_roundOf {l : Launch} {Y : g_Y} {x1 : Int32} {x2 : Int32} {M : g_M} {p : Int32} (h : f_X4_roundOf x1 x2 M = some p) : g_R l Y (2) yX4_roundOf cX4_roundOf 8 (some .int) [g_r Y 24, .int x1, .int x2] M (some (.int p)) M := by
  unfold f_X4_roundOf at h
  refine g_R_of kP_X4 rfl (Nat.le_of_ble_eq_true rfl) (fun X C E => ?_)
  show g_G 8 X Y 0 [(0, g_r Y 24), (1, .int x1), (2, .int x2)] [] M
  refine g_iload_n C 2 dX4_roundOf_0 (q := 1) rfl rfl rfl ?_
  refine g_istore_n C dX4_roundOf_1 (q := 2) rfl rfl (by decide) (lv' := [(3, .int x2), (0, g_r Y 24), (1, .int x1), (2, .int x2)]) rfl ?_
  refine g_iconst C (v := 1) dX4_roundOf_2 (q := 3) rfl (by decide) ?_
  refine g_istore C dX4_roundOf_3 (q := 5) rfl (by decide) (lv' := [(4, .int 1), (3, .int x2), (0, g_r Y 24), (1, .int x1), (2, .int x2)]) rfl ?_
  refine g_sub [2, 3, 1, 0] (lv' := [(0, g_r Y 24), (1, .int x1), (3, .int x2), (4, .int 1)]) rfl ?_
  refine t_X4_roundOf_5 C E ?_ ?_ ?_ 20000000 x1 x2 1 h
  · intro x4 h
    try dsimp only at h
    refine g_iload C 0 dX4_roundOf_30 (q := 32) rfl rfl ?_
    obtain rfl := Option.some.inj h
    exact g_iret C E dX4_roundOf_32
  · intro  h
    try dsimp only at h
    refine g_iconst C (v := 0) dX4_roundOf_49 (q := 50) rfl (by decide) ?_
    obtain rfl := Option.some.inj h
    exact g_iret C E dX4_roundOf_50
  · intro  h
    try dsimp only at h
    refine g_iconst C (v := 0) dX4_roundOf_60 (q := 61) rfl (by decide) ?_
    obtain rfl := Option.some.inj h
    exact g_iret C E dX4_roundOf_61
def f_X5_fill_36_24 (x1 : Int32) (x2 : Int32) (M : g_M) : Option (g_M) :=
  (g_ld M 37 1024 (x1 &&& (x1 - 1))).bind fun v1 => (g_ld M 37 1024 (x1 &&& (x1 - 1))).bind fun v2 => (if (v1 ||| x2) = v2 then ((g_st M 37 1024 x1 (v1 ||| x2)).bind fun M8 => (g_ldl M8 38 1024 (x1 &&& (x1 - 1))).bind fun v9 => (g_stl M8 38 1024 x1 v9).bind fun M10 => some M10) else ((f_X4_openInTheEnd (v1 ||| x2) M).bind fun p3 => (g_stl M 38 1024 x1 p3).bind fun M4 => (g_ldl M4 38 1024 x1).bind fun v5 => (f_X4_keysInBoxes v5 M4).bind fun p6 => (g_st M4 37 1024 x1 ((v1 ||| x2) ||| p6)).bind fun M7 => some M7))
set_option maxRecDepth 100000 in
theorem m_X5_fill_36_24 {l : Launch} {Y : g_Y} {x1 : Int32} {x2 : Int32} {M : g_M} {p : g_M} (h : f_X5_fill_36_24 x1 x2 M = some p) : g_R l Y (3) yX5_fill cX5_fill 6 none [g_r Y 36, .int x1, .int x2, g_r Y 24] M none p := by
  unfold f_X5_fill_36_24 at h
  refine g_R_of kP_X5 rfl (Nat.le_of_ble_eq_true rfl) (fun X C E => ?_)
  show g_G 6 X Y 0 [(0, g_r Y 36), (1, .int x1), (2, .int x2), (3, g_r Y 24)] [] M
  refine g_iload_n C 1 dX5_fill_0 (q := 1) rfl rfl rfl ?_
  refine g_iload_n C 1 dX5_fill_1 (q := 2) rfl rfl rfl ?_
  refine g_iconst C (v := 1) dX5_fill_2 (q := 3) rfl (by decide) ?_
  refine g_isub C dX5_fill_3 (q := 4) rfl ?_
  refine g_iand C dX5_fill_4 (q := 5) rfl ?_
  refine g_istore C dX5_fill_5 (q := 7) rfl (by decide) (lv' := [(4, .int (x1 &&& (x1 - 1))), (0, g_r Y 36), (1, .int x1), (2, .int x2), (3, g_r Y 24)]) rfl ?_
  refine g_aload_n C 1 dX5_fill_7 (q := 8) rfl rfl rfl ?_
  refine g_get C (k := 36) (i := 0) (by decide) (gc_36 Y _ _) rfl kU_X5 (by decide) kF_X5_9 rfl dX5_fill_8 (q := 11) rfl ?_
  refine g_iload C 0 dX5_fill_11 (q := 13) rfl rfl ?_
  obtain ⟨v1, hv1, h⟩ := g_bind h
  refine g_iald C (k := 37) (n := 1024) (by decide) (gc_37 Y _ _) hv1 dX5_fill_13 (q := 14) rfl ?_
  refine g_iload_n C 3 dX5_fill_14 (q := 15) rfl rfl rfl ?_
  refine g_ior C dX5_fill_15 (q := 16) rfl ?_
  refine g_istore C dX5_fill_16 (q := 18) rfl (by decide) (lv' := [(5, .int (v1 ||| x2)), (4, .int (x1 &&& (x1 - 1))), (0, g_r Y 36), (1, .int x1), (2, .int x2), (3, g_r Y 24)]) rfl ?_
  refine g_iload C 0 dX5_fill_18 (q := 20) rfl rfl ?_
  refine g_aload_n C 2 dX5_fill_20 (q := 21) rfl rfl rfl ?_
  refine g_get C (k := 36) (i := 0) (by decide) (gc_36 Y _ _) rfl kU_X5 (by decide) kF_X5_9 rfl dX5_fill_21 (q := 24) rfl ?_
  refine g_iload C 1 dX5_fill_24 (q := 26) rfl rfl ?_
  obtain ⟨v2, hv2, h⟩ := g_bind h
  refine g_iald C (k := 37) (n := 1024) (by decide) (gc_37 Y _ _) hv2 dX5_fill_26 (q := 27) rfl ?_
  have hif := g_if h
  clear h
  refine g_icmp_ne C dX5_fill_27 (q := 30) (tgt := 54) rfl (by decide) (fun c => ?_) (fun c => ?_)
  · have h := hif.2 c
    clear hif
    refine g_aload_n C 2 dX5_fill_54 (q := 55) rfl rfl rfl ?_
    refine g_get C (k := 36) (i := 1) (by decide) (gc_36 Y _ _) rfl kU_X5 (by decide) kF_X5_15 rfl dX5_fill_55 (q := 58) rfl ?_
    refine g_iload_n C 3 dX5_fill_58 (q := 59) rfl rfl rfl ?_
    refine g_aload_n C 5 dX5_fill_59 (q := 60) rfl rfl rfl ?_
    refine g_iload C 0 dX5_fill_60 (q := 62) rfl rfl ?_
    obtain ⟨p3, hp3, h⟩ := g_bind h
    refine g_callV C (k := 24) (as := [.int (v1 ||| x2)]) (st := [.int x1, g_r Y 38]) (m_X4_openInTheEnd hp3) (g_hR (by decide)) (by decide) (by decide) (gc_24 Y _ _) rfl kM_X5_48 kI_X4_openInTheEnd kS_X4_openInTheEnd kN_X4 kC_X4_openInTheEnd kD_X4_openInTheEnd rfl (Nat.le_of_ble_eq_true rfl) dX5_fill_62 (q := 65) rfl ?_
    show g_G 6 X Y 65 [(5, .int (v1 ||| x2)), (4, .int (x1 &&& (x1 - 1))), (0, g_r Y 36), (1, .int x1), (2, .int x2), (3, g_r Y 24)] [.long p3, .int x1, g_r Y 38] M
    obtain ⟨M4, hM4, h⟩ := g_bind h
    refine g_last C (k := 38) (n := 1024) (by decide) (fun b => gc_38 Y _ b) hM4 dX5_fill_65 (q := 66) rfl ?_
    refine g_aload_n C 2 dX5_fill_66 (q := 67) rfl rfl rfl ?_
    refine g_get C (k := 36) (i := 0) (by decide) (gc_36 Y _ _) rfl kU_X5 (by decide) kF_X5_9 rfl dX5_fill_67 (q := 70) rfl ?_
    refine g_iload_n C 3 dX5_fill_70 (q := 71) rfl rfl rfl ?_
    refine g_iload C 0 dX5_fill_71 (q := 73) rfl rfl ?_
    refine g_aload_n C 5 dX5_fill_73 (q := 74) rfl rfl rfl ?_
    refine g_aload_n C 2 dX5_fill_74 (q := 75) rfl rfl rfl ?_
    refine g_get C (k := 36) (i := 1) (by decide) (gc_36 Y _ _) rfl kU_X5 (by decide) kF_X5_15 rfl dX5_fill_75 (q := 78) rfl ?_
    refine g_iload_n C 3 dX5_fill_78 (q := 79) rfl rfl rfl ?_
    obtain ⟨v5, hv5, h⟩ := g_bind h
    refine g_lald C (k := 38) (n := 1024) (by decide) (gc_38 Y _ _) hv5 dX5_fill_79 (q := 80) rfl ?_
    obtain ⟨p6, hp6, h⟩ := g_bind h
    refine g_callV C (k := 24) (as := [.long v5]) (st := [.int (v1 ||| x2), .int x1, g_r Y 37]) (m_X4_keysInBoxes hp6) (g_hR (by decide)) (by decide) (by decide) (gc_24 Y _ _) rfl kM_X5_52 kI_X4_keysInBoxes kS_X4_keysInBoxes kN_X4 kC_X4_keysInBoxes kD_X4_keysInBoxes rfl (Nat.le_of_ble_eq_true rfl) dX5_fill_80 (q := 83) rfl ?_
    show g_G 6 X Y 83 [(5, .int (v1 ||| x2)), (4, .int (x1 &&& (x1 - 1))), (0, g_r Y 36), (1, .int x1), (2, .int x2), (3, g_r Y 24)] [.int p6, .int (v1 ||| x2), .int x1, g_r Y 37] M4
    refine g_ior C dX5_fill_83 (q := 84) rfl ?_
    obtain ⟨M7, hM7, h⟩ := g_bind h
    refine g_iast C (k := 37) (n := 1024) (by decide) (fun a => gc_37 Y a _) hM7 dX5_fill_84 (q := 85) rfl ?_
    obtain rfl := Option.some.inj h
    exact g_vret C E dX5_fill_85
  · have h := hif.1 c
    clear hif
    refine g_aload_n C 2 dX5_fill_30 (q := 31) rfl rfl rfl ?_
    refine g_get C (k := 36) (i := 0) (by decide) (gc_36 Y _ _) rfl kU_X5 (by decide) kF_X5_9 rfl dX5_fill_31 (q := 34) rfl ?_
    refine g_iload_n C 3 dX5_fill_34 (q := 35) rfl rfl rfl ?_
    refine g_iload C 0 dX5_fill_35 (q := 37) rfl rfl ?_
    obtain ⟨M8, hM8, h⟩ := g_bind h
    refine g_iast C (k := 37) (n := 1024) (by decide) (fun a => gc_37 Y a _) hM8 dX5_fill_37 (q := 38) rfl ?_
    refine g_aload_n C 2 dX5_fill_38 (q := 39) rfl rfl rfl ?_
    refine g_get C (k := 36) (i := 1) (by decide) (gc_36 Y _ _) rfl kU_X5 (by decide) kF_X5_15 rfl dX5_fill_39 (q := 42) rfl ?_
    refine g_iload_n C 3 dX5_fill_42 (q := 43) rfl rfl rfl ?_
    refine g_aload_n C 2 dX5_fill_43 (q := 44) rfl rfl rfl ?_
    refine g_get C (k := 36) (i := 1) (by decide) (gc_36 Y _ _) rfl kU_X5 (by decide) kF_X5_15 rfl dX5_fill_44 (q := 47) rfl ?_
    refine g_iload C 1 dX5_fill_47 (q := 49) rfl rfl ?_
    obtain ⟨v9, hv9, h⟩ := g_bind h
    refine g_lald C (k := 38) (n := 1024) (by decide) (gc_38 Y _ _) hv9 dX5_fill_49 (q := 50) rfl ?_
    obtain ⟨M10, hM10, h⟩ := g_bind h
    refine g_last C (k := 38) (n := 1024) (by decide) (fun b => gc_38 Y _ b) hM10 dX5_fill_50 (q := 51) rfl ?_
    refine g_goto C dX5_fill_51 (tgt := 85) (by decide) ?_
    obtain rfl := Option.some.inj h
    exact g_vret C E dX5_fill_85
theorem r_X5_fill_36_24 {x1 : Int32} {x2 : Int32} {M : g_M} {p : g_M} (h : f_X5_fill_36_24 x1 x2 M = some p) : g_fr [37, 38] [] M p := by
  unfold f_X5_fill_36_24 at h
  have hf := g_fr.rfl (S := [37, 38]) (T := []) (M := M)
  obtain ⟨v1, -, h⟩ := g_bind h
  obtain ⟨v2, -, h⟩ := g_bind h
  rcases g_ifs h with h | h
  · obtain ⟨M8, hM8, h⟩ := g_bind h
    have hf := hf.st hM8 (by decide)
    obtain ⟨v9, -, h⟩ := g_bind h
    obtain ⟨M10, hM10, h⟩ := g_bind h
    have hf := hf.stl hM10 (by decide)
    obtain rfl := Option.some.inj h
    exact hf
  · obtain ⟨p3, -, h⟩ := g_bind h
    obtain ⟨M4, hM4, h⟩ := g_bind h
    have hf := hf.stl hM4 (by decide)
    obtain ⟨v5, -, h⟩ := g_bind h
    obtain ⟨p6, -, h⟩ := g_bind h
    obtain ⟨M7, hM7, h⟩ := g_bind h
    have hf := hf.st hM7 (by decide)
    obtain rfl := Option.some.inj h
    exact hf
def F_X5_refresh_36_3_24_33 (k73 : g_M → Option (g_M)) (k : Int32 → Int32 → g_M → Option (g_M)) (x4 : Int32) (x5 : Int32) (M : g_M) : Option (g_M) :=
  (if x4 < x5 then (k73 M) else ((if (x5 &&& (x4 ^^^ (-1))) = 0 then ((f_J6_numberOfTrailingZeros_0f7a4 x5 M).bind fun p3 => (g_ld M 5 10 p3).bind fun v4 => (f_X5_fill_36_24 x5 v4 M).bind fun p5 => k x4 (x5 + 1) p5) else (k x4 (x5 + 1) M))))
set_option maxRecDepth 100000 in
theorem t_X5_refresh_36_3_24_33 {l : Launch} {X : g_X} {Y : g_Y} {p : g_M} {k73 : g_M → Option (g_M)} (C : g_C l (g_rm (4)) RX5 cX5_refresh 6 X Y) (E : g_E none X Y none p) (hk73 : ∀ (M : g_M), k73 M = some p → g_G 6 X Y 73 [] [] M) (n : Nat) : ∀ (x4 : Int32) (x5 : Int32) (M : g_M), g_lp2 (F_X5_refresh_36_3_24_33 k73) n x4 x5 M = some p → g_G 6 X Y 33 [(0, g_r Y 36), (1, g_r Y 3), (2, g_r Y 24), (4, .int x4), (5, .int x5)] [] M := by
  induction n with
  | zero => intro x4 x5 M h; exact (g_nn h).elim
  | succ n ih =>
    intro x4 x5 M h
    have h : F_X5_refresh_36_3_24_33 k73 (g_lp2 (F_X5_refresh_36_3_24_33 k73) n) x4 x5 M = some p := h
    generalize g_lp2 (F_X5_refresh_36_3_24_33 k73) n = k at h ih
    unfold F_X5_refresh_36_3_24_33 at h
    refine g_iload C 4 dX5_refresh_33 (q := 35) rfl rfl ?_
    refine g_iload C 3 dX5_refresh_35 (q := 37) rfl rfl ?_
    have hif := g_if h
    clear h
    refine g_icmp_gt C dX5_refresh_37 (q := 40) (tgt := 73) rfl (by decide) (fun c => ?_) (fun c => ?_)
    · have h := hif.1 c
      clear hif
      refine g_sub [] (lv' := []) rfl ?_
      exact hk73 M h
    · have h := hif.2 c
      clear hif
      refine g_iload C 4 dX5_refresh_40 (q := 42) rfl rfl ?_
      refine g_iload C 3 dX5_refresh_42 (q := 44) rfl rfl ?_
      refine g_iconst C (v := (-1)) dX5_refresh_44 (q := 45) rfl (by decide) ?_
      refine g_ixor C dX5_refresh_45 (q := 46) rfl ?_
      refine g_iand C dX5_refresh_46 (q := 47) rfl ?_
      have hif := g_if h
      clear h
      refine g_if_ne C dX5_refresh_47 (q := 50) (tgt := 67) rfl (by decide) (fun c => ?_) (fun c => ?_)
      · have h := hif.2 c
        clear hif
        refine g_iinc C (k := 4) (v := x5 + 1) dX5_refresh_67 (q := 70) rfl rfl rfl (by decide) (lv' := [(5, .int (x5 + 1)), (0, g_r Y 36), (1, g_r Y 3), (2, g_r Y 24), (4, .int x4)]) rfl ?_
        refine g_goto C dX5_refresh_70 (tgt := 33) (by decide) ?_
        refine g_sub [1, 2, 3, 4, 0] (lv' := [(0, g_r Y 36), (1, g_r Y 3), (2, g_r Y 24), (4, .int x4), (5, .int (x5 + 1))]) rfl ?_
        exact ih x4 (x5 + 1) M h
      · have h := hif.1 c
        clear hif
        refine g_aload_n C 0 dX5_refresh_50 (q := 51) rfl rfl rfl ?_
        refine g_iload C 4 dX5_refresh_51 (q := 53) rfl rfl ?_
        refine g_aload_n C 1 dX5_refresh_53 (q := 54) rfl rfl rfl ?_
        refine g_get C (k := 3) (i := 5) (by decide) (gc_3 Y _ _) rfl kU_X0 (by decide) kF_X5_35 rfl dX5_refresh_54 (q := 57) rfl ?_
        refine g_iload C 4 dX5_refresh_57 (q := 59) rfl rfl ?_
        obtain ⟨p3, hp3, h⟩ := g_bind h
        refine g_callS C (as := [.int x5]) (st := [g_r Y 5, .int x5, g_r Y 36]) (m_J6_numberOfTrailingZeros_0f7a4 hp3) (g_hR (by decide)) (by decide) kM_X5_38 kT_J6_numberOfTrailingZeros_0f7a4 kN_J6 kC_J6_numberOfTrailingZeros_0f7a4 kD_J6_numberOfTrailingZeros_0f7a4 rfl (Nat.le_of_ble_eq_true rfl) dX5_refresh_59 (q := 62) rfl ?_
        show g_G 6 X Y 62 [(0, g_r Y 36), (1, g_r Y 3), (2, g_r Y 24), (4, .int x4), (5, .int x5)] [.int p3, g_r Y 5, .int x5, g_r Y 36] M
        obtain ⟨v4, hv4, h⟩ := g_bind h
        refine g_iald C (k := 5) (n := 10) (by decide) (gc_5 Y _ _) hv4 dX5_refresh_62 (q := 63) rfl ?_
        refine g_aload_n C 2 dX5_refresh_63 (q := 64) rfl rfl rfl ?_
        obtain ⟨p5, hp5, h⟩ := g_bind h
        refine g_callV C (k := 36) (as := [.int x5, .int v4, g_r Y 24]) (st := []) (m_X5_fill_36_24 hp5) (g_hR (by decide)) (by decide) (by decide) (gc_36 Y _ _) rfl kM_X5_44 kI_X5_fill kS_X5_fill kN_X5 kC_X5_fill kD_X5_fill rfl (Nat.le_of_ble_eq_true rfl) dX5_refresh_64 (q := 67) rfl ?_
        show g_G 6 X Y 67 [(0, g_r Y 36), (1, g_r Y 3), (2, g_r Y 24), (4, .int x4), (5, .int x5)] [] p5
        refine g_iinc C (k := 4) (v := x5 + 1) dX5_refresh_67 (q := 70) rfl rfl rfl (by decide) (lv' := [(5, .int (x5 + 1)), (0, g_r Y 36), (1, g_r Y 3), (2, g_r Y 24), (4, .int x4)]) rfl ?_
        refine g_goto C dX5_refresh_70 (tgt := 33) (by decide) ?_
        refine g_sub [1, 2, 3, 4, 0] (lv' := [(0, g_r Y 36), (1, g_r Y 3), (2, g_r Y 24), (4, .int x4), (5, .int (x5 + 1))]) rfl ?_
        exact ih x4 (x5 + 1) p5 h
theorem r_X5_refresh_36_3_24_33 {p : g_M} {k73 : g_M → Option (g_M)} (hk73 : ∀ (M : g_M), k73 M = some p → g_fr [37, 38] [(36, 2)] M p) (n : Nat) : ∀ (x4 : Int32) (x5 : Int32) (M : g_M), g_lp2 (F_X5_refresh_36_3_24_33 k73) n x4 x5 M = some p → g_fr [37, 38] [(36, 2)] M p := by
  induction n with
  | zero => intro x4 x5 M h; exact (g_nn h).elim
  | succ n ih =>
    intro x4 x5 M h
    have h : F_X5_refresh_36_3_24_33 k73 (g_lp2 (F_X5_refresh_36_3_24_33 k73) n) x4 x5 M = some p := h
    generalize g_lp2 (F_X5_refresh_36_3_24_33 k73) n = k at h ih
    unfold F_X5_refresh_36_3_24_33 at h
    have hf := g_fr.rfl (S := [37, 38]) (T := [(36, 2)]) (M := M)
    rcases g_ifs h with h | h
    · exact hf.trans (hk73 M h)
    · rcases g_ifs h with h | h
      · obtain ⟨p3, -, h⟩ := g_bind h
        obtain ⟨v4, -, h⟩ := g_bind h
        obtain ⟨p5, hp5, h⟩ := g_bind h
        have hf := hf.trans ((r_X5_fill_36_24 hp5).mono (by decide) (by decide))
        exact hf.trans (ih x4 (x5 + 1) p5 h)
      · exact hf.trans (ih x4 (x5 + 1) M h)
def f_X5_refresh_36_3_24 (M : g_M) : Option (g_M) :=
  (if (M.1 36 2) = ((M.1 3 3) + (M.1 24 1)) then (some M) else ((some (g_u M 36 2 ((M.1 3 3) + (M.1 24 1)))).bind fun M1 => (f_X0_present M1).bind fun p2 => g_lp2 (F_X5_refresh_36_3_24_33 (fun (M : g_M) => some M)) 20000000 p2 1 M1))
set_option maxRecDepth 100000 in
theorem m_X5_refresh_36_3_24 {l : Launch} {Y : g_Y} {M : g_M} {p : g_M} (h : f_X5_refresh_36_3_24 M = some p) : g_R l Y (4) yX5_refresh cX5_refresh 6 none [g_r Y 36, g_r Y 3, g_r Y 24] M none p := by
  unfold f_X5_refresh_36_3_24 at h
  refine g_R_of kP_X5 rfl (Nat.le_of_ble_eq_true rfl) (fun X C E => ?_)
  show g_G 6 X Y 0 [(0, g_r Y 36), (1, g_r Y 3), (2, g_r Y 24)] [] M
  refine g_aload_n C 1 dX5_refresh_0 (q := 1) rfl rfl rfl ?_
  refine g_get C (k := 3) (i := 3) (by decide) (gc_3 Y _ _) rfl kU_X0 (by decide) kF_X5_23 rfl dX5_refresh_1 (q := 4) rfl ?_
  refine g_aload_n C 2 dX5_refresh_4 (q := 5) rfl rfl rfl ?_
  refine g_get C (k := 24) (i := 1) (by decide) (gc_24 Y _ _) rfl kU_X4 (by decide) kF_X5_28 rfl dX5_refresh_5 (q := 8) rfl ?_
  refine g_iadd C dX5_refresh_8 (q := 9) rfl ?_
  refine g_istore_n C dX5_refresh_9 (q := 10) rfl rfl (by decide) (lv' := [(3, .int ((M.1 3 3) + (M.1 24 1))), (0, g_r Y 36), (1, g_r Y 3), (2, g_r Y 24)]) rfl ?_
  refine g_aload_n C 1 dX5_refresh_10 (q := 11) rfl rfl rfl ?_
  refine g_get C (k := 36) (i := 2) (by decide) (gc_36 Y _ _) rfl kU_X5 (by decide) kF_X5_19 rfl dX5_refresh_11 (q := 14) rfl ?_
  refine g_iload_n C 0 dX5_refresh_14 (q := 15) rfl rfl rfl ?_
  have hif := g_if h
  clear h
  refine g_icmp_ne C dX5_refresh_15 (q := 18) (tgt := 19) rfl (by decide) (fun c => ?_) (fun c => ?_)
  · have h := hif.2 c
    clear hif
    refine g_aload_n C 1 dX5_refresh_19 (q := 20) rfl rfl rfl ?_
    refine g_iload_n C 0 dX5_refresh_20 (q := 21) rfl rfl rfl ?_
    obtain ⟨M1, hM1, h⟩ := g_bind h
    refine g_put C (k := 36) (i := 2) (ty := .int) (by decide) (gc_36 Y _ _) (gp_36_2 Y _ _ _) rfl kU_X5 tyX5_ok nmX5 (by decide) kF_X5_19 rfl rfl rfl rfl (Nat.le_of_ble_eq_true rfl) dX5_refresh_21 (q := 24) rfl ?_
    refine g_mem hM1 ?_
    refine g_aload_n C 2 dX5_refresh_24 (q := 25) rfl rfl rfl ?_
    obtain ⟨p2, hp2, h⟩ := g_bind h
    refine g_callV C (k := 3) (as := []) (st := []) (m_X0_present hp2) (g_hR (by decide)) (by decide) (by decide) (gc_3 Y _ _) rfl kM_X5_31 kI_X0_present kS_X0_present kN_X0 kC_X0_present kD_X0_present rfl (Nat.le_of_ble_eq_true rfl) dX5_refresh_25 (q := 28) rfl ?_
    show g_G 6 X Y 28 [(3, .int ((M.1 3 3) + (M.1 24 1))), (0, g_r Y 36), (1, g_r Y 3), (2, g_r Y 24)] [.int p2] M1
    refine g_istore C dX5_refresh_28 (q := 30) rfl (by decide) (lv' := [(4, .int p2), (3, .int ((M.1 3 3) + (M.1 24 1))), (0, g_r Y 36), (1, g_r Y 3), (2, g_r Y 24)]) rfl ?_
    refine g_iconst C (v := 1) dX5_refresh_30 (q := 31) rfl (by decide) ?_
    refine g_istore C dX5_refresh_31 (q := 33) rfl (by decide) (lv' := [(5, .int 1), (4, .int p2), (3, .int ((M.1 3 3) + (M.1 24 1))), (0, g_r Y 36), (1, g_r Y 3), (2, g_r Y 24)]) rfl ?_
    refine g_sub [3, 4, 5, 1, 0] (lv' := [(0, g_r Y 36), (1, g_r Y 3), (2, g_r Y 24), (4, .int p2), (5, .int 1)]) rfl ?_
    refine t_X5_refresh_36_3_24_33 C E ?_ 20000000 p2 1 M1 h
    · intro M h
      try dsimp only at h
      obtain rfl := Option.some.inj h
      exact g_vret C E dX5_refresh_73
  · have h := hif.1 c
    clear hif
    obtain rfl := Option.some.inj h
    exact g_vret C E dX5_refresh_18
theorem r_X5_refresh_36_3_24 {M : g_M} {p : g_M} (h : f_X5_refresh_36_3_24 M = some p) : g_fr [37, 38] [(36, 2)] M p := by
  unfold f_X5_refresh_36_3_24 at h
  have hf := g_fr.rfl (S := [37, 38]) (T := [(36, 2)]) (M := M)
  rcases g_ifs h with h | h
  · obtain rfl := Option.some.inj h
    exact hf
  · obtain ⟨M1, hM1, h⟩ := g_bind h
    have hf := hf.pu hM1 (by decide)
    obtain ⟨p2, -, h⟩ := g_bind h
    refine hf.trans (r_X5_refresh_36_3_24_33 ?_ 20000000 p2 1 M1 h)
    · intro M h
      try dsimp only at h
      have hf := g_fr.rfl (S := [37, 38]) (T := [(36, 2)]) (M := M)
      obtain rfl := Option.some.inj h
      exact hf
def f_X5_isOpen (x1 : Int32) (x2 : Int32) (M : g_M) : Option (Int32) :=
  (g_ldl M 38 1024 x2).bind fun v1 => (if (lg_cmp ((v1 >>> (Int32.toInt64 x1 &&& 63)) &&& 1) 0) = 0 then (some 0) else (some 1))
set_option maxRecDepth 100000 in
theorem m_X5_isOpen {l : Launch} {Y : g_Y} {x1 : Int32} {x2 : Int32} {M : g_M} {p : Int32} (h : f_X5_isOpen x1 x2 M = some p) : g_R l Y (0) yX5_isOpen cX5_isOpen 3 (some .boolean) [g_r Y 36, .int x1, .int x2] M (some (.int p)) M := by
  unfold f_X5_isOpen at h
  refine g_R_of kP_X5 rfl (Nat.le_of_ble_eq_true rfl) (fun X C E => ?_)
  show g_G 3 X Y 0 [(0, g_r Y 36), (1, .int x1), (2, .int x2)] [] M
  refine g_aload_n C 0 dX5_isOpen_0 (q := 1) rfl rfl rfl ?_
  refine g_get C (k := 36) (i := 1) (by decide) (gc_36 Y _ _) rfl kU_X5 (by decide) kF_X5_15 rfl dX5_isOpen_1 (q := 4) rfl ?_
  refine g_iload_n C 2 dX5_isOpen_4 (q := 5) rfl rfl rfl ?_
  obtain ⟨v1, hv1, h⟩ := g_bind h
  refine g_lald C (k := 38) (n := 1024) (by decide) (gc_38 Y _ _) hv1 dX5_isOpen_5 (q := 6) rfl ?_
  refine g_iload_n C 1 dX5_isOpen_6 (q := 7) rfl rfl rfl ?_
  refine g_lshr C dX5_isOpen_7 (q := 8) rfl ?_
  refine g_lconst C (v := 1) dX5_isOpen_8 (q := 9) rfl (by decide) ?_
  refine g_land C dX5_isOpen_9 (q := 10) rfl ?_
  refine g_lconst C (v := 0) dX5_isOpen_10 (q := 11) rfl (by decide) ?_
  refine g_lcmp C dX5_isOpen_11 (q := 12) rfl ?_
  have hif := g_if h
  clear h
  refine g_if_eq C dX5_isOpen_12 (q := 15) (tgt := 19) rfl (by decide) (fun c => ?_) (fun c => ?_)
  · have h := hif.1 c
    clear hif
    refine g_iconst C (v := 0) dX5_isOpen_19 (q := 20) rfl (by decide) ?_
    obtain rfl := Option.some.inj h
    exact g_zret C (g_bz_lit (by decide)) E dX5_isOpen_20
  · have h := hif.2 c
    clear hif
    refine g_iconst C (v := 1) dX5_isOpen_15 (q := 16) rfl (by decide) ?_
    refine g_goto C dX5_isOpen_16 (tgt := 20) (by decide) ?_
    obtain rfl := Option.some.inj h
    exact g_zret C (g_bz_lit (by decide)) E dX5_isOpen_20
def F_X6_findLeast_43_41_31 (k66 : Int32 → Int32 → g_M → Option (g_M)) (k : Int32 → Int32 → Int32 → g_M → Option (g_M)) (x2 : Int32) (x3 : Int32) (x4 : Int32) (M : g_M) : Option (g_M) :=
  (if x4 = 0 then (k66 x2 x3 M) else ((if x3 = 0 then ((g_ld M 45 1024 (x2 ^^^ (x4 &&& (-x4)))).bind fun v2 => k x2 v2 (x4 &&& (x4 - 1)) M) else (k66 x2 x3 M))))
set_option maxRecDepth 100000 in
theorem t_X6_findLeast_43_41_31 {l : Launch} {X : g_X} {Y : g_Y} {p : g_M} {k66 : Int32 → Int32 → g_M → Option (g_M)} (C : g_C l (g_rm (1)) RX6 cX6_findLeast 5 X Y) (E : g_E none X Y none p) (hk66 : ∀ (x2 : Int32) (x3 : Int32) (M : g_M), k66 x2 x3 M = some p → g_G 5 X Y 66 [(0, g_r Y 43), (1, g_r Y 41), (2, .int x2), (3, .int x3)] [] M) (n : Nat) : ∀ (x2 : Int32) (x3 : Int32) (x4 : Int32) (M : g_M), g_lp3 (F_X6_findLeast_43_41_31 k66) n x2 x3 x4 M = some p → g_G 5 X Y 31 [(0, g_r Y 43), (1, g_r Y 41), (2, .int x2), (3, .int x3), (4, .int x4)] [] M := by
  induction n with
  | zero => intro x2 x3 x4 M h; exact (g_nn h).elim
  | succ n ih =>
    intro x2 x3 x4 M h
    have h : F_X6_findLeast_43_41_31 k66 (g_lp3 (F_X6_findLeast_43_41_31 k66) n) x2 x3 x4 M = some p := h
    generalize g_lp3 (F_X6_findLeast_43_41_31 k66) n = k at h ih
    unfold F_X6_findLeast_43_41_31 at h
    refine g_iload C 4 dX6_findLeast_31 (q := 33) rfl rfl ?_
    have hif := g_if h
    clear h
    refine g_if_eq C dX6_findLeast_33 (q := 36) (tgt := 66) rfl (by decide) (fun c => ?_) (fun c => ?_)
    · have h := hif.1 c
      clear hif
      refine g_sub [0, 1, 2, 3] (lv' := [(0, g_r Y 43), (1, g_r Y 41), (2, .int x2), (3, .int x3)]) rfl ?_
      exact hk66 x2 x3 M h
    · have h := hif.2 c
      clear hif
      refine g_iload_n C 3 dX6_findLeast_36 (q := 37) rfl rfl rfl ?_
      have hif := g_if h
      clear h
      refine g_if_ne C dX6_findLeast_37 (q := 40) (tgt := 66) rfl (by decide) (fun c => ?_) (fun c => ?_)
      · have h := hif.2 c
        clear hif
        refine g_sub [0, 1, 2, 3] (lv' := [(0, g_r Y 43), (1, g_r Y 41), (2, .int x2), (3, .int x3)]) rfl ?_
        exact hk66 x2 x3 M h
      · have h := hif.1 c
        clear hif
        refine g_aload_n C 0 dX6_findLeast_40 (q := 41) rfl rfl rfl ?_
        refine g_get C (k := 43) (i := 2) (by decide) (gc_43 Y _ _) rfl kU_X6 (by decide) kF_X6_15 rfl dX6_findLeast_41 (q := 44) rfl ?_
        refine g_iload_n C 2 dX6_findLeast_44 (q := 45) rfl rfl rfl ?_
        refine g_iload C 4 dX6_findLeast_45 (q := 47) rfl rfl ?_
        refine g_iload C 4 dX6_findLeast_47 (q := 49) rfl rfl ?_
        refine g_ineg C dX6_findLeast_49 (q := 50) rfl ?_
        refine g_iand C dX6_findLeast_50 (q := 51) rfl ?_
        refine g_ixor C dX6_findLeast_51 (q := 52) rfl ?_
        obtain ⟨v2, hv2, h⟩ := g_bind h
        refine g_zald C (k := 45) (n := 1024) (by decide) (gc_45 Y _ _) hv2 dX6_findLeast_52 (q := 53) rfl ?_
        refine g_istore_n C dX6_findLeast_53 (q := 54) rfl rfl (by decide) (lv' := [(3, .int v2), (0, g_r Y 43), (1, g_r Y 41), (2, .int x2), (4, .int x4)]) rfl ?_
        refine g_iload C 4 dX6_findLeast_54 (q := 56) rfl rfl ?_
        refine g_iload C 4 dX6_findLeast_56 (q := 58) rfl rfl ?_
        refine g_iconst C (v := 1) dX6_findLeast_58 (q := 59) rfl (by decide) ?_
        refine g_isub C dX6_findLeast_59 (q := 60) rfl ?_
        refine g_iand C dX6_findLeast_60 (q := 61) rfl ?_
        refine g_istore C dX6_findLeast_61 (q := 63) rfl (by decide) (lv' := [(4, .int (x4 &&& (x4 - 1))), (3, .int v2), (0, g_r Y 43), (1, g_r Y 41), (2, .int x2)]) rfl ?_
        refine g_goto C dX6_findLeast_63 (tgt := 31) (by decide) ?_
        refine g_sub [2, 3, 4, 1, 0] (lv' := [(0, g_r Y 43), (1, g_r Y 41), (2, .int x2), (3, .int v2), (4, .int (x4 &&& (x4 - 1)))]) rfl ?_
        exact ih x2 v2 (x4 &&& (x4 - 1)) M h
theorem r_X6_findLeast_43_41_31 {p : g_M} {k66 : Int32 → Int32 → g_M → Option (g_M)} (hk66 : ∀ (x2 : Int32) (x3 : Int32) (M : g_M), k66 x2 x3 M = some p → g_fr [44, 45] [(43, 1)] M p) (n : Nat) : ∀ (x2 : Int32) (x3 : Int32) (x4 : Int32) (M : g_M), g_lp3 (F_X6_findLeast_43_41_31 k66) n x2 x3 x4 M = some p → g_fr [44, 45] [(43, 1)] M p := by
  induction n with
  | zero => intro x2 x3 x4 M h; exact (g_nn h).elim
  | succ n ih =>
    intro x2 x3 x4 M h
    have h : F_X6_findLeast_43_41_31 k66 (g_lp3 (F_X6_findLeast_43_41_31 k66) n) x2 x3 x4 M = some p := h
    generalize g_lp3 (F_X6_findLeast_43_41_31 k66) n = k at h ih
    unfold F_X6_findLeast_43_41_31 at h
    have hf := g_fr.rfl (S := [44, 45]) (T := [(43, 1)]) (M := M)
    rcases g_ifs h with h | h
    · exact hf.trans (hk66 x2 x3 M h)
    · rcases g_ifs h with h | h
      · obtain ⟨v2, -, h⟩ := g_bind h
        exact hf.trans (ih x2 v2 (x4 &&& (x4 - 1)) M h)
      · exact hf.trans (hk66 x2 x3 M h)
def f_X6_findLeast_43_41_89 (k : Int32 → g_M → Option (g_M)) (x2 : Int32) (x3 : Int32) (s0 : Int32) (s1 : Int32) (M : g_M) : Option (g_M) :=
  (g_bz s0).bind fun z4 => (g_st M 45 1024 s1 z4).bind fun M3 => (g_ld M3 45 1024 x2).bind fun v5 => (if v5 = 0 then (k (x2 + 1) M3) else ((if x3 = 0 then ((f_X6_add x2 M3).bind fun p6 => k (x2 + 1) p6) else (k (x2 + 1) M3))))
set_option maxRecDepth 100000 in
theorem t_X6_findLeast_43_41_89 {l : Launch} {X : g_X} {Y : g_Y} {p : g_M} {k : Int32 → g_M → Option (g_M)} (C : g_C l (g_rm (1)) RX6 cX6_findLeast 5 X Y) (E : g_E none X Y none p) (ih : ∀ (x2 : Int32) (M : g_M), k x2 M = some p → g_G 5 X Y 7 [(0, g_r Y 43), (1, g_r Y 41), (2, .int x2)] [] M) (x2 : Int32) (x3 : Int32) (s0 : Int32) (s1 : Int32) (M : g_M) (h : f_X6_findLeast_43_41_89 k x2 x3 s0 s1 M = some p) : g_G 5 X Y 89 [(0, g_r Y 43), (1, g_r Y 41), (2, .int x2), (3, .int x3)] [.int s0, .int s1, g_r Y 45] M := by
  unfold f_X6_findLeast_43_41_89 at h
  obtain ⟨z4, hz4, h⟩ := g_bind h
  obtain ⟨M3, hM3, h⟩ := g_bind h
  refine g_zast C (k := 45) (n := 1024) (by decide) (fun a => gc_45 Y a _) hz4 hM3 dX6_findLeast_89 (q := 90) rfl ?_
  refine g_aload_n C 0 dX6_findLeast_90 (q := 91) rfl rfl rfl ?_
  refine g_get C (k := 43) (i := 2) (by decide) (gc_43 Y _ _) rfl kU_X6 (by decide) kF_X6_15 rfl dX6_findLeast_91 (q := 94) rfl ?_
  refine g_iload_n C 2 dX6_findLeast_94 (q := 95) rfl rfl rfl ?_
  obtain ⟨v5, hv5, h⟩ := g_bind h
  refine g_zald C (k := 45) (n := 1024) (by decide) (gc_45 Y _ _) hv5 dX6_findLeast_95 (q := 96) rfl ?_
  have hif := g_if h
  clear h
  refine g_if_eq C dX6_findLeast_96 (q := 99) (tgt := 108) rfl (by decide) (fun c => ?_) (fun c => ?_)
  · have h := hif.1 c
    clear hif
    refine g_iinc C (k := 2) (v := x2 + 1) dX6_findLeast_108 (q := 111) rfl rfl rfl (by decide) (lv' := [(2, .int (x2 + 1)), (0, g_r Y 43), (1, g_r Y 41), (3, .int x3)]) rfl ?_
    refine g_goto C dX6_findLeast_111 (tgt := 7) (by decide) ?_
    refine g_sub [1, 2, 0] (lv' := [(0, g_r Y 43), (1, g_r Y 41), (2, .int (x2 + 1))]) rfl ?_
    exact ih (x2 + 1) M3 h
  · have h := hif.2 c
    clear hif
    refine g_iload_n C 3 dX6_findLeast_99 (q := 100) rfl rfl rfl ?_
    have hif := g_if h
    clear h
    refine g_if_ne C dX6_findLeast_100 (q := 103) (tgt := 108) rfl (by decide) (fun c => ?_) (fun c => ?_)
    · have h := hif.2 c
      clear hif
      refine g_iinc C (k := 2) (v := x2 + 1) dX6_findLeast_108 (q := 111) rfl rfl rfl (by decide) (lv' := [(2, .int (x2 + 1)), (0, g_r Y 43), (1, g_r Y 41), (3, .int x3)]) rfl ?_
      refine g_goto C dX6_findLeast_111 (tgt := 7) (by decide) ?_
      refine g_sub [1, 2, 0] (lv' := [(0, g_r Y 43), (1, g_r Y 41), (2, .int (x2 + 1))]) rfl ?_
      exact ih (x2 + 1) M3 h
    · have h := hif.1 c
      clear hif
      refine g_aload_n C 0 dX6_findLeast_103 (q := 104) rfl rfl rfl ?_
      refine g_iload_n C 2 dX6_findLeast_104 (q := 105) rfl rfl rfl ?_
      obtain ⟨p6, hp6, h⟩ := g_bind h
      refine g_callV C (k := 43) (as := [.int x2]) (st := []) (m_X6_add hp6) (g_hR (by decide)) (by decide) (by decide) (gc_43 Y _ _) rfl kM_X6_31 kI_X6_add kS_X6_add kN_X6 kC_X6_add kD_X6_add rfl (Nat.le_of_ble_eq_true rfl) dX6_findLeast_105 (q := 108) rfl ?_
      show g_G 5 X Y 108 [(0, g_r Y 43), (1, g_r Y 41), (2, .int x2), (3, .int x3)] [] p6
      refine g_iinc C (k := 2) (v := x2 + 1) dX6_findLeast_108 (q := 111) rfl rfl rfl (by decide) (lv' := [(2, .int (x2 + 1)), (0, g_r Y 43), (1, g_r Y 41), (3, .int x3)]) rfl ?_
      refine g_goto C dX6_findLeast_111 (tgt := 7) (by decide) ?_
      refine g_sub [1, 2, 0] (lv' := [(0, g_r Y 43), (1, g_r Y 41), (2, .int (x2 + 1))]) rfl ?_
      exact ih (x2 + 1) p6 h
theorem r_X6_findLeast_43_41_89 {p : g_M} {k : Int32 → g_M → Option (g_M)} (ih : ∀ (x2 : Int32) (M : g_M), k x2 M = some p → g_fr [44, 45] [(43, 1)] M p) (x2 : Int32) (x3 : Int32) (s0 : Int32) (s1 : Int32) (M : g_M) (h : f_X6_findLeast_43_41_89 k x2 x3 s0 s1 M = some p) : g_fr [44, 45] [(43, 1)] M p := by
  unfold f_X6_findLeast_43_41_89 at h
  have hf := g_fr.rfl (S := [44, 45]) (T := [(43, 1)]) (M := M)
  obtain ⟨z4, -, h⟩ := g_bind h
  obtain ⟨M3, hM3, h⟩ := g_bind h
  have hf := hf.st hM3 (by decide)
  obtain ⟨v5, -, h⟩ := g_bind h
  rcases g_ifs h with h | h
  · exact hf.trans (ih (x2 + 1) M3 h)
  · rcases g_ifs h with h | h
    · obtain ⟨p6, hp6, h⟩ := g_bind h
      have hf := hf.trans ((r_X6_add hp6).mono (by decide) (by decide))
      exact hf.trans (ih (x2 + 1) p6 h)
    · exact hf.trans (ih (x2 + 1) M3 h)
def f_X6_findLeast_43_41_66 (k : Int32 → g_M → Option (g_M)) (x2 : Int32) (x3 : Int32) (M : g_M) : Option (g_M) :=
  (if x3 = 0 then ((g_ld M 42 1024 x2).bind fun v7 => (if v7 = 0 then (f_X6_findLeast_43_41_89 k x2 x3 0 x2 M) else (f_X6_findLeast_43_41_89 k x2 x3 1 x2 M))) else (f_X6_findLeast_43_41_89 k x2 x3 1 x2 M))
set_option maxRecDepth 100000 in
theorem t_X6_findLeast_43_41_66 {l : Launch} {X : g_X} {Y : g_Y} {p : g_M} {k : Int32 → g_M → Option (g_M)} (C : g_C l (g_rm (1)) RX6 cX6_findLeast 5 X Y) (E : g_E none X Y none p) (ih : ∀ (x2 : Int32) (M : g_M), k x2 M = some p → g_G 5 X Y 7 [(0, g_r Y 43), (1, g_r Y 41), (2, .int x2)] [] M) (x2 : Int32) (x3 : Int32) (M : g_M) (h : f_X6_findLeast_43_41_66 k x2 x3 M = some p) : g_G 5 X Y 66 [(0, g_r Y 43), (1, g_r Y 41), (2, .int x2), (3, .int x3)] [] M := by
  unfold f_X6_findLeast_43_41_66 at h
  refine g_aload_n C 0 dX6_findLeast_66 (q := 67) rfl rfl rfl ?_
  refine g_get C (k := 43) (i := 2) (by decide) (gc_43 Y _ _) rfl kU_X6 (by decide) kF_X6_15 rfl dX6_findLeast_67 (q := 70) rfl ?_
  refine g_iload_n C 2 dX6_findLeast_70 (q := 71) rfl rfl rfl ?_
  refine g_iload_n C 3 dX6_findLeast_71 (q := 72) rfl rfl rfl ?_
  have hif := g_if h
  clear h
  refine g_if_ne C dX6_findLeast_72 (q := 75) (tgt := 84) rfl (by decide) (fun c => ?_) (fun c => ?_)
  · have h := hif.2 c
    clear hif
    refine g_iconst C (v := 1) dX6_findLeast_84 (q := 85) rfl (by decide) ?_
    refine g_goto C dX6_findLeast_85 (tgt := 89) (by decide) ?_
    refine g_sub [0, 1, 2, 3] (lv' := [(0, g_r Y 43), (1, g_r Y 41), (2, .int x2), (3, .int x3)]) rfl ?_
    exact t_X6_findLeast_43_41_89 C E ih x2 x3 1 x2 M h
  · have h := hif.1 c
    clear hif
    refine g_aload_n C 1 dX6_findLeast_75 (q := 76) rfl rfl rfl ?_
    refine g_get C (k := 41) (i := 0) (by decide) (gc_41 Y _ _) rfl kU_X1 (by decide) kF_X6_28 rfl dX6_findLeast_76 (q := 79) rfl ?_
    refine g_iload_n C 2 dX6_findLeast_79 (q := 80) rfl rfl rfl ?_
    obtain ⟨v7, hv7, h⟩ := g_bind h
    refine g_zald C (k := 42) (n := 1024) (by decide) (gc_42 Y _ _) hv7 dX6_findLeast_80 (q := 81) rfl ?_
    have hif := g_if h
    clear h
    refine g_if_eq C dX6_findLeast_81 (q := 84) (tgt := 88) rfl (by decide) (fun c => ?_) (fun c => ?_)
    · have h := hif.1 c
      clear hif
      refine g_iconst C (v := 0) dX6_findLeast_88 (q := 89) rfl (by decide) ?_
      refine g_sub [0, 1, 2, 3] (lv' := [(0, g_r Y 43), (1, g_r Y 41), (2, .int x2), (3, .int x3)]) rfl ?_
      exact t_X6_findLeast_43_41_89 C E ih x2 x3 0 x2 M h
    · have h := hif.2 c
      clear hif
      refine g_iconst C (v := 1) dX6_findLeast_84 (q := 85) rfl (by decide) ?_
      refine g_goto C dX6_findLeast_85 (tgt := 89) (by decide) ?_
      refine g_sub [0, 1, 2, 3] (lv' := [(0, g_r Y 43), (1, g_r Y 41), (2, .int x2), (3, .int x3)]) rfl ?_
      exact t_X6_findLeast_43_41_89 C E ih x2 x3 1 x2 M h
theorem r_X6_findLeast_43_41_66 {p : g_M} {k : Int32 → g_M → Option (g_M)} (ih : ∀ (x2 : Int32) (M : g_M), k x2 M = some p → g_fr [44, 45] [(43, 1)] M p) (x2 : Int32) (x3 : Int32) (M : g_M) (h : f_X6_findLeast_43_41_66 k x2 x3 M = some p) : g_fr [44, 45] [(43, 1)] M p := by
  unfold f_X6_findLeast_43_41_66 at h
  have hf := g_fr.rfl (S := [44, 45]) (T := [(43, 1)]) (M := M)
  rcases g_ifs h with h | h
  · obtain ⟨v7, -, h⟩ := g_bind h
    rcases g_ifs h with h | h
    · exact hf.trans (r_X6_findLeast_43_41_89 ih x2 x3 0 x2 M h)
    · exact hf.trans (r_X6_findLeast_43_41_89 ih x2 x3 1 x2 M h)
  · exact hf.trans (r_X6_findLeast_43_41_89 ih x2 x3 1 x2 M h)
def F_X6_findLeast_43_41_7 (k114 : g_M → Option (g_M)) (k : Int32 → g_M → Option (g_M)) (x2 : Int32) (M : g_M) : Option (g_M) :=
  (if (M.1 41 1) < x2 then (k114 M) else ((if (x2 &&& ((M.1 41 1) ^^^ (-1))) = 0 then (g_lp3 (F_X6_findLeast_43_41_31 (fun (x2 : Int32) (x3 : Int32) (M : g_M) => f_X6_findLeast_43_41_66 k x2 x3 M)) 20000000 x2 0 x2 M) else (k (x2 + 1) M))))
set_option maxRecDepth 100000 in
theorem t_X6_findLeast_43_41_7 {l : Launch} {X : g_X} {Y : g_Y} {p : g_M} {k114 : g_M → Option (g_M)} (C : g_C l (g_rm (1)) RX6 cX6_findLeast 5 X Y) (E : g_E none X Y none p) (hk114 : ∀ (M : g_M), k114 M = some p → g_G 5 X Y 114 [] [] M) (n : Nat) : ∀ (x2 : Int32) (M : g_M), g_lp1 (F_X6_findLeast_43_41_7 k114) n x2 M = some p → g_G 5 X Y 7 [(0, g_r Y 43), (1, g_r Y 41), (2, .int x2)] [] M := by
  induction n with
  | zero => intro x2 M h; exact (g_nn h).elim
  | succ n ih =>
    intro x2 M h
    have h : F_X6_findLeast_43_41_7 k114 (g_lp1 (F_X6_findLeast_43_41_7 k114) n) x2 M = some p := h
    generalize g_lp1 (F_X6_findLeast_43_41_7 k114) n = k at h ih
    unfold F_X6_findLeast_43_41_7 at h
    refine g_iload_n C 2 dX6_findLeast_7 (q := 8) rfl rfl rfl ?_
    refine g_aload_n C 1 dX6_findLeast_8 (q := 9) rfl rfl rfl ?_
    refine g_get C (k := 41) (i := 1) (by decide) (gc_41 Y _ _) rfl kU_X1 (by decide) kF_X6_23 rfl dX6_findLeast_9 (q := 12) rfl ?_
    have hif := g_if h
    clear h
    refine g_icmp_gt C dX6_findLeast_12 (q := 15) (tgt := 114) rfl (by decide) (fun c => ?_) (fun c => ?_)
    · have h := hif.1 c
      clear hif
      refine g_sub [] (lv' := []) rfl ?_
      exact hk114 M h
    · have h := hif.2 c
      clear hif
      refine g_iload_n C 2 dX6_findLeast_15 (q := 16) rfl rfl rfl ?_
      refine g_aload_n C 1 dX6_findLeast_16 (q := 17) rfl rfl rfl ?_
      refine g_get C (k := 41) (i := 1) (by decide) (gc_41 Y _ _) rfl kU_X1 (by decide) kF_X6_23 rfl dX6_findLeast_17 (q := 20) rfl ?_
      refine g_iconst C (v := (-1)) dX6_findLeast_20 (q := 21) rfl (by decide) ?_
      refine g_ixor C dX6_findLeast_21 (q := 22) rfl ?_
      refine g_iand C dX6_findLeast_22 (q := 23) rfl ?_
      have hif := g_if h
      clear h
      refine g_if_ne C dX6_findLeast_23 (q := 26) (tgt := 108) rfl (by decide) (fun c => ?_) (fun c => ?_)
      · have h := hif.2 c
        clear hif
        refine g_iinc C (k := 2) (v := x2 + 1) dX6_findLeast_108 (q := 111) rfl rfl rfl (by decide) (lv' := [(2, .int (x2 + 1)), (0, g_r Y 43), (1, g_r Y 41)]) rfl ?_
        refine g_goto C dX6_findLeast_111 (tgt := 7) (by decide) ?_
        refine g_sub [1, 2, 0] (lv' := [(0, g_r Y 43), (1, g_r Y 41), (2, .int (x2 + 1))]) rfl ?_
        exact ih (x2 + 1) M h
      · have h := hif.1 c
        clear hif
        refine g_iconst C (v := 0) dX6_findLeast_26 (q := 27) rfl (by decide) ?_
        refine g_istore_n C dX6_findLeast_27 (q := 28) rfl rfl (by decide) (lv' := [(3, .int 0), (0, g_r Y 43), (1, g_r Y 41), (2, .int x2)]) rfl ?_
        refine g_iload_n C 3 dX6_findLeast_28 (q := 29) rfl rfl rfl ?_
        refine g_istore C dX6_findLeast_29 (q := 31) rfl (by decide) (lv' := [(4, .int x2), (3, .int 0), (0, g_r Y 43), (1, g_r Y 41), (2, .int x2)]) rfl ?_
        refine g_sub [2, 3, 4, 1, 0] (lv' := [(0, g_r Y 43), (1, g_r Y 41), (2, .int x2), (3, .int 0), (4, .int x2)]) rfl ?_
        refine t_X6_findLeast_43_41_31 C E ?_ 20000000 x2 0 x2 M h
        · intro x2 x3 M h
          try dsimp only at h
          refine g_sub [0, 1, 2, 3] (lv' := [(0, g_r Y 43), (1, g_r Y 41), (2, .int x2), (3, .int x3)]) rfl ?_
          exact t_X6_findLeast_43_41_66 C E ih x2 x3 M h
theorem r_X6_findLeast_43_41_7 {p : g_M} {k114 : g_M → Option (g_M)} (hk114 : ∀ (M : g_M), k114 M = some p → g_fr [44, 45] [(43, 1)] M p) (n : Nat) : ∀ (x2 : Int32) (M : g_M), g_lp1 (F_X6_findLeast_43_41_7 k114) n x2 M = some p → g_fr [44, 45] [(43, 1)] M p := by
  induction n with
  | zero => intro x2 M h; exact (g_nn h).elim
  | succ n ih =>
    intro x2 M h
    have h : F_X6_findLeast_43_41_7 k114 (g_lp1 (F_X6_findLeast_43_41_7 k114) n) x2 M = some p := h
    generalize g_lp1 (F_X6_findLeast_43_41_7 k114) n = k at h ih
    unfold F_X6_findLeast_43_41_7 at h
    have hf := g_fr.rfl (S := [44, 45]) (T := [(43, 1)]) (M := M)
    rcases g_ifs h with h | h
    · exact hf.trans (hk114 M h)
    · rcases g_ifs h with h | h
      · refine hf.trans (r_X6_findLeast_43_41_31 ?_ 20000000 x2 0 x2 M h)
        · intro x2 x3 M h
          try dsimp only at h
          have hf := g_fr.rfl (S := [44, 45]) (T := [(43, 1)]) (M := M)
          exact hf.trans (r_X6_findLeast_43_41_66 ih x2 x3 M h)
      · exact hf.trans (ih (x2 + 1) M h)
def f_X6_findLeast_43_41 (M : g_M) : Option (g_M) :=
  (some (g_u M 43 1 0)).bind fun M1 => g_lp1 (F_X6_findLeast_43_41_7 (fun (M : g_M) => some M)) 20000000 0 M1
set_option maxRecDepth 100000 in
theorem m_X6_findLeast_43_41 {l : Launch} {Y : g_Y} {M : g_M} {p : g_M} (h : f_X6_findLeast_43_41 M = some p) : g_R l Y (1) yX6_findLeast cX6_findLeast 5 none [g_r Y 43, g_r Y 41] M none p := by
  unfold f_X6_findLeast_43_41 at h
  refine g_R_of kP_X6 rfl (Nat.le_of_ble_eq_true rfl) (fun X C E => ?_)
  show g_G 5 X Y 0 [(0, g_r Y 43), (1, g_r Y 41)] [] M
  refine g_aload_n C 0 dX6_findLeast_0 (q := 1) rfl rfl rfl ?_
  refine g_iconst C (v := 0) dX6_findLeast_1 (q := 2) rfl (by decide) ?_
  obtain ⟨M1, hM1, h⟩ := g_bind h
  refine g_put C (k := 43) (i := 1) (ty := .int) (by decide) (gc_43 Y _ _) (gp_43_1 Y _ _ _) rfl kU_X6 tyX6_ok nmX6 (by decide) kF_X6_19 rfl rfl rfl rfl (Nat.le_of_ble_eq_true rfl) dX6_findLeast_2 (q := 5) rfl ?_
  refine g_mem hM1 ?_
  refine g_iconst C (v := 0) dX6_findLeast_5 (q := 6) rfl (by decide) ?_
  refine g_istore_n C dX6_findLeast_6 (q := 7) rfl rfl (by decide) (lv' := [(2, .int 0), (0, g_r Y 43), (1, g_r Y 41)]) rfl ?_
  refine g_sub [1, 2, 0] (lv' := [(0, g_r Y 43), (1, g_r Y 41), (2, .int 0)]) rfl ?_
  refine t_X6_findLeast_43_41_7 C E ?_ 20000000 0 M1 h
  · intro M h
    try dsimp only at h
    obtain rfl := Option.some.inj h
    exact g_vret C E dX6_findLeast_114
theorem r_X6_findLeast_43_41 {M : g_M} {p : g_M} (h : f_X6_findLeast_43_41 M = some p) : g_fr [44, 45] [(43, 1)] M p := by
  unfold f_X6_findLeast_43_41 at h
  have hf := g_fr.rfl (S := [44, 45]) (T := [(43, 1)]) (M := M)
  obtain ⟨M1, hM1, h⟩ := g_bind h
  have hf := hf.pu hM1 (by decide)
  refine hf.trans (r_X6_findLeast_43_41_7 ?_ 20000000 0 M1 h)
  · intro M h
    try dsimp only at h
    have hf := g_fr.rfl (S := [44, 45]) (T := [(43, 1)]) (M := M)
    obtain rfl := Option.some.inj h
    exact hf
def F_X6_findMost_43_41_37 (k72 : Int32 → Int32 → g_M → Option (g_M)) (k : Int32 → Int32 → Int32 → g_M → Option (g_M)) (x2 : Int32) (x3 : Int32) (x4 : Int32) (M : g_M) : Option (g_M) :=
  (if x4 = 0 then (k72 x2 x3 M) else ((if x3 = 0 then ((g_ld M 45 1024 (x2 ||| (x4 &&& (-x4)))).bind fun v2 => k x2 v2 (x4 &&& (x4 - 1)) M) else (k72 x2 x3 M))))
set_option maxRecDepth 100000 in
theorem t_X6_findMost_43_41_37 {l : Launch} {X : g_X} {Y : g_Y} {p : g_M} {k72 : Int32 → Int32 → g_M → Option (g_M)} (C : g_C l (g_rm (1)) RX6 cX6_findMost 5 X Y) (E : g_E none X Y none p) (hk72 : ∀ (x2 : Int32) (x3 : Int32) (M : g_M), k72 x2 x3 M = some p → g_G 5 X Y 72 [(0, g_r Y 43), (1, g_r Y 41), (2, .int x2), (3, .int x3)] [] M) (n : Nat) : ∀ (x2 : Int32) (x3 : Int32) (x4 : Int32) (M : g_M), g_lp3 (F_X6_findMost_43_41_37 k72) n x2 x3 x4 M = some p → g_G 5 X Y 37 [(0, g_r Y 43), (1, g_r Y 41), (2, .int x2), (3, .int x3), (4, .int x4)] [] M := by
  induction n with
  | zero => intro x2 x3 x4 M h; exact (g_nn h).elim
  | succ n ih =>
    intro x2 x3 x4 M h
    have h : F_X6_findMost_43_41_37 k72 (g_lp3 (F_X6_findMost_43_41_37 k72) n) x2 x3 x4 M = some p := h
    generalize g_lp3 (F_X6_findMost_43_41_37 k72) n = k at h ih
    unfold F_X6_findMost_43_41_37 at h
    refine g_iload C 4 dX6_findMost_37 (q := 39) rfl rfl ?_
    have hif := g_if h
    clear h
    refine g_if_eq C dX6_findMost_39 (q := 42) (tgt := 72) rfl (by decide) (fun c => ?_) (fun c => ?_)
    · have h := hif.1 c
      clear hif
      refine g_sub [0, 1, 2, 3] (lv' := [(0, g_r Y 43), (1, g_r Y 41), (2, .int x2), (3, .int x3)]) rfl ?_
      exact hk72 x2 x3 M h
    · have h := hif.2 c
      clear hif
      refine g_iload_n C 3 dX6_findMost_42 (q := 43) rfl rfl rfl ?_
      have hif := g_if h
      clear h
      refine g_if_ne C dX6_findMost_43 (q := 46) (tgt := 72) rfl (by decide) (fun c => ?_) (fun c => ?_)
      · have h := hif.2 c
        clear hif
        refine g_sub [0, 1, 2, 3] (lv' := [(0, g_r Y 43), (1, g_r Y 41), (2, .int x2), (3, .int x3)]) rfl ?_
        exact hk72 x2 x3 M h
      · have h := hif.1 c
        clear hif
        refine g_aload_n C 0 dX6_findMost_46 (q := 47) rfl rfl rfl ?_
        refine g_get C (k := 43) (i := 2) (by decide) (gc_43 Y _ _) rfl kU_X6 (by decide) kF_X6_15 rfl dX6_findMost_47 (q := 50) rfl ?_
        refine g_iload_n C 2 dX6_findMost_50 (q := 51) rfl rfl rfl ?_
        refine g_iload C 4 dX6_findMost_51 (q := 53) rfl rfl ?_
        refine g_iload C 4 dX6_findMost_53 (q := 55) rfl rfl ?_
        refine g_ineg C dX6_findMost_55 (q := 56) rfl ?_
        refine g_iand C dX6_findMost_56 (q := 57) rfl ?_
        refine g_ior C dX6_findMost_57 (q := 58) rfl ?_
        obtain ⟨v2, hv2, h⟩ := g_bind h
        refine g_zald C (k := 45) (n := 1024) (by decide) (gc_45 Y _ _) hv2 dX6_findMost_58 (q := 59) rfl ?_
        refine g_istore_n C dX6_findMost_59 (q := 60) rfl rfl (by decide) (lv' := [(3, .int v2), (0, g_r Y 43), (1, g_r Y 41), (2, .int x2), (4, .int x4)]) rfl ?_
        refine g_iload C 4 dX6_findMost_60 (q := 62) rfl rfl ?_
        refine g_iload C 4 dX6_findMost_62 (q := 64) rfl rfl ?_
        refine g_iconst C (v := 1) dX6_findMost_64 (q := 65) rfl (by decide) ?_
        refine g_isub C dX6_findMost_65 (q := 66) rfl ?_
        refine g_iand C dX6_findMost_66 (q := 67) rfl ?_
        refine g_istore C dX6_findMost_67 (q := 69) rfl (by decide) (lv' := [(4, .int (x4 &&& (x4 - 1))), (3, .int v2), (0, g_r Y 43), (1, g_r Y 41), (2, .int x2)]) rfl ?_
        refine g_goto C dX6_findMost_69 (tgt := 37) (by decide) ?_
        refine g_sub [2, 3, 4, 1, 0] (lv' := [(0, g_r Y 43), (1, g_r Y 41), (2, .int x2), (3, .int v2), (4, .int (x4 &&& (x4 - 1)))]) rfl ?_
        exact ih x2 v2 (x4 &&& (x4 - 1)) M h
theorem r_X6_findMost_43_41_37 {p : g_M} {k72 : Int32 → Int32 → g_M → Option (g_M)} (hk72 : ∀ (x2 : Int32) (x3 : Int32) (M : g_M), k72 x2 x3 M = some p → g_fr [44, 45] [(43, 1)] M p) (n : Nat) : ∀ (x2 : Int32) (x3 : Int32) (x4 : Int32) (M : g_M), g_lp3 (F_X6_findMost_43_41_37 k72) n x2 x3 x4 M = some p → g_fr [44, 45] [(43, 1)] M p := by
  induction n with
  | zero => intro x2 x3 x4 M h; exact (g_nn h).elim
  | succ n ih =>
    intro x2 x3 x4 M h
    have h : F_X6_findMost_43_41_37 k72 (g_lp3 (F_X6_findMost_43_41_37 k72) n) x2 x3 x4 M = some p := h
    generalize g_lp3 (F_X6_findMost_43_41_37 k72) n = k at h ih
    unfold F_X6_findMost_43_41_37 at h
    have hf := g_fr.rfl (S := [44, 45]) (T := [(43, 1)]) (M := M)
    rcases g_ifs h with h | h
    · exact hf.trans (hk72 x2 x3 M h)
    · rcases g_ifs h with h | h
      · obtain ⟨v2, -, h⟩ := g_bind h
        exact hf.trans (ih x2 v2 (x4 &&& (x4 - 1)) M h)
      · exact hf.trans (hk72 x2 x3 M h)
def f_X6_findMost_43_41_95 (k : Int32 → g_M → Option (g_M)) (x2 : Int32) (x3 : Int32) (s0 : Int32) (s1 : Int32) (M : g_M) : Option (g_M) :=
  (g_bz s0).bind fun z4 => (g_st M 45 1024 s1 z4).bind fun M3 => (g_ld M3 45 1024 x2).bind fun v5 => (if v5 = 0 then (k (x2 + (-1)) M3) else ((if x3 = 0 then ((f_X6_add x2 M3).bind fun p6 => k (x2 + (-1)) p6) else (k (x2 + (-1)) M3))))
set_option maxRecDepth 100000 in
theorem t_X6_findMost_43_41_95 {l : Launch} {X : g_X} {Y : g_Y} {p : g_M} {k : Int32 → g_M → Option (g_M)} (C : g_C l (g_rm (1)) RX6 cX6_findMost 5 X Y) (E : g_E none X Y none p) (ih : ∀ (x2 : Int32) (M : g_M), k x2 M = some p → g_G 5 X Y 10 [(0, g_r Y 43), (1, g_r Y 41), (2, .int x2)] [] M) (x2 : Int32) (x3 : Int32) (s0 : Int32) (s1 : Int32) (M : g_M) (h : f_X6_findMost_43_41_95 k x2 x3 s0 s1 M = some p) : g_G 5 X Y 95 [(0, g_r Y 43), (1, g_r Y 41), (2, .int x2), (3, .int x3)] [.int s0, .int s1, g_r Y 45] M := by
  unfold f_X6_findMost_43_41_95 at h
  obtain ⟨z4, hz4, h⟩ := g_bind h
  obtain ⟨M3, hM3, h⟩ := g_bind h
  refine g_zast C (k := 45) (n := 1024) (by decide) (fun a => gc_45 Y a _) hz4 hM3 dX6_findMost_95 (q := 96) rfl ?_
  refine g_aload_n C 0 dX6_findMost_96 (q := 97) rfl rfl rfl ?_
  refine g_get C (k := 43) (i := 2) (by decide) (gc_43 Y _ _) rfl kU_X6 (by decide) kF_X6_15 rfl dX6_findMost_97 (q := 100) rfl ?_
  refine g_iload_n C 2 dX6_findMost_100 (q := 101) rfl rfl rfl ?_
  obtain ⟨v5, hv5, h⟩ := g_bind h
  refine g_zald C (k := 45) (n := 1024) (by decide) (gc_45 Y _ _) hv5 dX6_findMost_101 (q := 102) rfl ?_
  have hif := g_if h
  clear h
  refine g_if_eq C dX6_findMost_102 (q := 105) (tgt := 114) rfl (by decide) (fun c => ?_) (fun c => ?_)
  · have h := hif.1 c
    clear hif
    refine g_iinc C (k := 2) (v := x2 + (-1)) dX6_findMost_114 (q := 117) rfl rfl rfl (by decide) (lv' := [(2, .int (x2 + (-1))), (0, g_r Y 43), (1, g_r Y 41), (3, .int x3)]) rfl ?_
    refine g_goto C dX6_findMost_117 (tgt := 10) (by decide) ?_
    refine g_sub [1, 2, 0] (lv' := [(0, g_r Y 43), (1, g_r Y 41), (2, .int (x2 + (-1)))]) rfl ?_
    exact ih (x2 + (-1)) M3 h
  · have h := hif.2 c
    clear hif
    refine g_iload_n C 3 dX6_findMost_105 (q := 106) rfl rfl rfl ?_
    have hif := g_if h
    clear h
    refine g_if_ne C dX6_findMost_106 (q := 109) (tgt := 114) rfl (by decide) (fun c => ?_) (fun c => ?_)
    · have h := hif.2 c
      clear hif
      refine g_iinc C (k := 2) (v := x2 + (-1)) dX6_findMost_114 (q := 117) rfl rfl rfl (by decide) (lv' := [(2, .int (x2 + (-1))), (0, g_r Y 43), (1, g_r Y 41), (3, .int x3)]) rfl ?_
      refine g_goto C dX6_findMost_117 (tgt := 10) (by decide) ?_
      refine g_sub [1, 2, 0] (lv' := [(0, g_r Y 43), (1, g_r Y 41), (2, .int (x2 + (-1)))]) rfl ?_
      exact ih (x2 + (-1)) M3 h
    · have h := hif.1 c
      clear hif
      refine g_aload_n C 0 dX6_findMost_109 (q := 110) rfl rfl rfl ?_
      refine g_iload_n C 2 dX6_findMost_110 (q := 111) rfl rfl rfl ?_
      obtain ⟨p6, hp6, h⟩ := g_bind h
      refine g_callV C (k := 43) (as := [.int x2]) (st := []) (m_X6_add hp6) (g_hR (by decide)) (by decide) (by decide) (gc_43 Y _ _) rfl kM_X6_31 kI_X6_add kS_X6_add kN_X6 kC_X6_add kD_X6_add rfl (Nat.le_of_ble_eq_true rfl) dX6_findMost_111 (q := 114) rfl ?_
      show g_G 5 X Y 114 [(0, g_r Y 43), (1, g_r Y 41), (2, .int x2), (3, .int x3)] [] p6
      refine g_iinc C (k := 2) (v := x2 + (-1)) dX6_findMost_114 (q := 117) rfl rfl rfl (by decide) (lv' := [(2, .int (x2 + (-1))), (0, g_r Y 43), (1, g_r Y 41), (3, .int x3)]) rfl ?_
      refine g_goto C dX6_findMost_117 (tgt := 10) (by decide) ?_
      refine g_sub [1, 2, 0] (lv' := [(0, g_r Y 43), (1, g_r Y 41), (2, .int (x2 + (-1)))]) rfl ?_
      exact ih (x2 + (-1)) p6 h
theorem r_X6_findMost_43_41_95 {p : g_M} {k : Int32 → g_M → Option (g_M)} (ih : ∀ (x2 : Int32) (M : g_M), k x2 M = some p → g_fr [44, 45] [(43, 1)] M p) (x2 : Int32) (x3 : Int32) (s0 : Int32) (s1 : Int32) (M : g_M) (h : f_X6_findMost_43_41_95 k x2 x3 s0 s1 M = some p) : g_fr [44, 45] [(43, 1)] M p := by
  unfold f_X6_findMost_43_41_95 at h
  have hf := g_fr.rfl (S := [44, 45]) (T := [(43, 1)]) (M := M)
  obtain ⟨z4, -, h⟩ := g_bind h
  obtain ⟨M3, hM3, h⟩ := g_bind h
  have hf := hf.st hM3 (by decide)
  obtain ⟨v5, -, h⟩ := g_bind h
  rcases g_ifs h with h | h
  · exact hf.trans (ih (x2 + (-1)) M3 h)
  · rcases g_ifs h with h | h
    · obtain ⟨p6, hp6, h⟩ := g_bind h
      have hf := hf.trans ((r_X6_add hp6).mono (by decide) (by decide))
      exact hf.trans (ih (x2 + (-1)) p6 h)
    · exact hf.trans (ih (x2 + (-1)) M3 h)
def f_X6_findMost_43_41_72 (k : Int32 → g_M → Option (g_M)) (x2 : Int32) (x3 : Int32) (M : g_M) : Option (g_M) :=
  (if x3 = 0 then ((g_ld M 42 1024 x2).bind fun v7 => (if v7 = 0 then (f_X6_findMost_43_41_95 k x2 x3 1 x2 M) else (f_X6_findMost_43_41_95 k x2 x3 0 x2 M))) else (f_X6_findMost_43_41_95 k x2 x3 1 x2 M))
set_option maxRecDepth 100000 in
theorem t_X6_findMost_43_41_72 {l : Launch} {X : g_X} {Y : g_Y} {p : g_M} {k : Int32 → g_M → Option (g_M)} (C : g_C l (g_rm (1)) RX6 cX6_findMost 5 X Y) (E : g_E none X Y none p) (ih : ∀ (x2 : Int32) (M : g_M), k x2 M = some p → g_G 5 X Y 10 [(0, g_r Y 43), (1, g_r Y 41), (2, .int x2)] [] M) (x2 : Int32) (x3 : Int32) (M : g_M) (h : f_X6_findMost_43_41_72 k x2 x3 M = some p) : g_G 5 X Y 72 [(0, g_r Y 43), (1, g_r Y 41), (2, .int x2), (3, .int x3)] [] M := by
  unfold f_X6_findMost_43_41_72 at h
  refine g_aload_n C 0 dX6_findMost_72 (q := 73) rfl rfl rfl ?_
  refine g_get C (k := 43) (i := 2) (by decide) (gc_43 Y _ _) rfl kU_X6 (by decide) kF_X6_15 rfl dX6_findMost_73 (q := 76) rfl ?_
  refine g_iload_n C 2 dX6_findMost_76 (q := 77) rfl rfl rfl ?_
  refine g_iload_n C 3 dX6_findMost_77 (q := 78) rfl rfl rfl ?_
  have hif := g_if h
  clear h
  refine g_if_ne C dX6_findMost_78 (q := 81) (tgt := 90) rfl (by decide) (fun c => ?_) (fun c => ?_)
  · have h := hif.2 c
    clear hif
    refine g_iconst C (v := 1) dX6_findMost_90 (q := 91) rfl (by decide) ?_
    refine g_goto C dX6_findMost_91 (tgt := 95) (by decide) ?_
    refine g_sub [0, 1, 2, 3] (lv' := [(0, g_r Y 43), (1, g_r Y 41), (2, .int x2), (3, .int x3)]) rfl ?_
    exact t_X6_findMost_43_41_95 C E ih x2 x3 1 x2 M h
  · have h := hif.1 c
    clear hif
    refine g_aload_n C 1 dX6_findMost_81 (q := 82) rfl rfl rfl ?_
    refine g_get C (k := 41) (i := 0) (by decide) (gc_41 Y _ _) rfl kU_X1 (by decide) kF_X6_28 rfl dX6_findMost_82 (q := 85) rfl ?_
    refine g_iload_n C 2 dX6_findMost_85 (q := 86) rfl rfl rfl ?_
    obtain ⟨v7, hv7, h⟩ := g_bind h
    refine g_zald C (k := 42) (n := 1024) (by decide) (gc_42 Y _ _) hv7 dX6_findMost_86 (q := 87) rfl ?_
    have hif := g_if h
    clear h
    refine g_if_ne C dX6_findMost_87 (q := 90) (tgt := 94) rfl (by decide) (fun c => ?_) (fun c => ?_)
    · have h := hif.2 c
      clear hif
      refine g_iconst C (v := 0) dX6_findMost_94 (q := 95) rfl (by decide) ?_
      refine g_sub [0, 1, 2, 3] (lv' := [(0, g_r Y 43), (1, g_r Y 41), (2, .int x2), (3, .int x3)]) rfl ?_
      exact t_X6_findMost_43_41_95 C E ih x2 x3 0 x2 M h
    · have h := hif.1 c
      clear hif
      refine g_iconst C (v := 1) dX6_findMost_90 (q := 91) rfl (by decide) ?_
      refine g_goto C dX6_findMost_91 (tgt := 95) (by decide) ?_
      refine g_sub [0, 1, 2, 3] (lv' := [(0, g_r Y 43), (1, g_r Y 41), (2, .int x2), (3, .int x3)]) rfl ?_
      exact t_X6_findMost_43_41_95 C E ih x2 x3 1 x2 M h
theorem r_X6_findMost_43_41_72 {p : g_M} {k : Int32 → g_M → Option (g_M)} (ih : ∀ (x2 : Int32) (M : g_M), k x2 M = some p → g_fr [44, 45] [(43, 1)] M p) (x2 : Int32) (x3 : Int32) (M : g_M) (h : f_X6_findMost_43_41_72 k x2 x3 M = some p) : g_fr [44, 45] [(43, 1)] M p := by
  unfold f_X6_findMost_43_41_72 at h
  have hf := g_fr.rfl (S := [44, 45]) (T := [(43, 1)]) (M := M)
  rcases g_ifs h with h | h
  · obtain ⟨v7, -, h⟩ := g_bind h
    rcases g_ifs h with h | h
    · exact hf.trans (r_X6_findMost_43_41_95 ih x2 x3 1 x2 M h)
    · exact hf.trans (r_X6_findMost_43_41_95 ih x2 x3 0 x2 M h)
  · exact hf.trans (r_X6_findMost_43_41_95 ih x2 x3 1 x2 M h)
def F_X6_findMost_43_41_10 (k120 : g_M → Option (g_M)) (k : Int32 → g_M → Option (g_M)) (x2 : Int32) (M : g_M) : Option (g_M) :=
  (if x2 < 0 then (k120 M) else ((if (x2 &&& ((M.1 41 1) ^^^ (-1))) = 0 then (g_lp3 (F_X6_findMost_43_41_37 (fun (x2 : Int32) (x3 : Int32) (M : g_M) => f_X6_findMost_43_41_72 k x2 x3 M)) 20000000 x2 0 ((M.1 41 1) &&& (x2 ^^^ (-1))) M) else (k (x2 + (-1)) M))))
set_option maxRecDepth 100000 in
theorem t_X6_findMost_43_41_10 {l : Launch} {X : g_X} {Y : g_Y} {p : g_M} {k120 : g_M → Option (g_M)} (C : g_C l (g_rm (1)) RX6 cX6_findMost 5 X Y) (E : g_E none X Y none p) (hk120 : ∀ (M : g_M), k120 M = some p → g_G 5 X Y 120 [(0, g_r Y 43)] [] M) (n : Nat) : ∀ (x2 : Int32) (M : g_M), g_lp1 (F_X6_findMost_43_41_10 k120) n x2 M = some p → g_G 5 X Y 10 [(0, g_r Y 43), (1, g_r Y 41), (2, .int x2)] [] M := by
  induction n with
  | zero => intro x2 M h; exact (g_nn h).elim
  | succ n ih =>
    intro x2 M h
    have h : F_X6_findMost_43_41_10 k120 (g_lp1 (F_X6_findMost_43_41_10 k120) n) x2 M = some p := h
    generalize g_lp1 (F_X6_findMost_43_41_10 k120) n = k at h ih
    unfold F_X6_findMost_43_41_10 at h
    refine g_iload_n C 2 dX6_findMost_10 (q := 11) rfl rfl rfl ?_
    have hif := g_if h
    clear h
    refine g_if_lt C dX6_findMost_11 (q := 14) (tgt := 120) rfl (by decide) (fun c => ?_) (fun c => ?_)
    · have h := hif.1 c
      clear hif
      refine g_sub [0] (lv' := [(0, g_r Y 43)]) rfl ?_
      exact hk120 M h
    · have h := hif.2 c
      clear hif
      refine g_iload_n C 2 dX6_findMost_14 (q := 15) rfl rfl rfl ?_
      refine g_aload_n C 1 dX6_findMost_15 (q := 16) rfl rfl rfl ?_
      refine g_get C (k := 41) (i := 1) (by decide) (gc_41 Y _ _) rfl kU_X1 (by decide) kF_X6_23 rfl dX6_findMost_16 (q := 19) rfl ?_
      refine g_iconst C (v := (-1)) dX6_findMost_19 (q := 20) rfl (by decide) ?_
      refine g_ixor C dX6_findMost_20 (q := 21) rfl ?_
      refine g_iand C dX6_findMost_21 (q := 22) rfl ?_
      have hif := g_if h
      clear h
      refine g_if_ne C dX6_findMost_22 (q := 25) (tgt := 114) rfl (by decide) (fun c => ?_) (fun c => ?_)
      · have h := hif.2 c
        clear hif
        refine g_iinc C (k := 2) (v := x2 + (-1)) dX6_findMost_114 (q := 117) rfl rfl rfl (by decide) (lv' := [(2, .int (x2 + (-1))), (0, g_r Y 43), (1, g_r Y 41)]) rfl ?_
        refine g_goto C dX6_findMost_117 (tgt := 10) (by decide) ?_
        refine g_sub [1, 2, 0] (lv' := [(0, g_r Y 43), (1, g_r Y 41), (2, .int (x2 + (-1)))]) rfl ?_
        exact ih (x2 + (-1)) M h
      · have h := hif.1 c
        clear hif
        refine g_iconst C (v := 0) dX6_findMost_25 (q := 26) rfl (by decide) ?_
        refine g_istore_n C dX6_findMost_26 (q := 27) rfl rfl (by decide) (lv' := [(3, .int 0), (0, g_r Y 43), (1, g_r Y 41), (2, .int x2)]) rfl ?_
        refine g_aload_n C 2 dX6_findMost_27 (q := 28) rfl rfl rfl ?_
        refine g_get C (k := 41) (i := 1) (by decide) (gc_41 Y _ _) rfl kU_X1 (by decide) kF_X6_23 rfl dX6_findMost_28 (q := 31) rfl ?_
        refine g_iload_n C 3 dX6_findMost_31 (q := 32) rfl rfl rfl ?_
        refine g_iconst C (v := (-1)) dX6_findMost_32 (q := 33) rfl (by decide) ?_
        refine g_ixor C dX6_findMost_33 (q := 34) rfl ?_
        refine g_iand C dX6_findMost_34 (q := 35) rfl ?_
        refine g_istore C dX6_findMost_35 (q := 37) rfl (by decide) (lv' := [(4, .int ((M.1 41 1) &&& (x2 ^^^ (-1)))), (3, .int 0), (0, g_r Y 43), (1, g_r Y 41), (2, .int x2)]) rfl ?_
        refine g_sub [2, 3, 4, 1, 0] (lv' := [(0, g_r Y 43), (1, g_r Y 41), (2, .int x2), (3, .int 0), (4, .int ((M.1 41 1) &&& (x2 ^^^ (-1))))]) rfl ?_
        refine t_X6_findMost_43_41_37 C E ?_ 20000000 x2 0 ((M.1 41 1) &&& (x2 ^^^ (-1))) M h
        · intro x2 x3 M h
          try dsimp only at h
          refine g_sub [0, 1, 2, 3] (lv' := [(0, g_r Y 43), (1, g_r Y 41), (2, .int x2), (3, .int x3)]) rfl ?_
          exact t_X6_findMost_43_41_72 C E ih x2 x3 M h
theorem r_X6_findMost_43_41_10 {p : g_M} {k120 : g_M → Option (g_M)} (hk120 : ∀ (M : g_M), k120 M = some p → g_fr [44, 45] [(43, 1)] M p) (n : Nat) : ∀ (x2 : Int32) (M : g_M), g_lp1 (F_X6_findMost_43_41_10 k120) n x2 M = some p → g_fr [44, 45] [(43, 1)] M p := by
  induction n with
  | zero => intro x2 M h; exact (g_nn h).elim
  | succ n ih =>
    intro x2 M h
    have h : F_X6_findMost_43_41_10 k120 (g_lp1 (F_X6_findMost_43_41_10 k120) n) x2 M = some p := h
    generalize g_lp1 (F_X6_findMost_43_41_10 k120) n = k at h ih
    unfold F_X6_findMost_43_41_10 at h
    have hf := g_fr.rfl (S := [44, 45]) (T := [(43, 1)]) (M := M)
    rcases g_ifs h with h | h
    · exact hf.trans (hk120 M h)
    · rcases g_ifs h with h | h
      · refine hf.trans (r_X6_findMost_43_41_37 ?_ 20000000 x2 0 ((M.1 41 1) &&& (x2 ^^^ (-1))) M h)
        · intro x2 x3 M h
          try dsimp only at h
          have hf := g_fr.rfl (S := [44, 45]) (T := [(43, 1)]) (M := M)
          exact hf.trans (r_X6_findMost_43_41_72 ih x2 x3 M h)
      · exact hf.trans (ih (x2 + (-1)) M h)
def f_X6_findMost_43_41 (M : g_M) : Option (g_M) :=
  (some (g_u M 43 1 0)).bind fun M1 => g_lp1 (F_X6_findMost_43_41_10 (fun (M : g_M) => (f_X6_turn M).bind fun p8 => some p8)) 20000000 (M1.1 41 1) M1
set_option maxRecDepth 100000 in
theorem m_X6_findMost_43_41 {l : Launch} {Y : g_Y} {M : g_M} {p : g_M} (h : f_X6_findMost_43_41 M = some p) : g_R l Y (1) yX6_findMost cX6_findMost 5 none [g_r Y 43, g_r Y 41] M none p := by
  unfold f_X6_findMost_43_41 at h
  refine g_R_of kP_X6 rfl (Nat.le_of_ble_eq_true rfl) (fun X C E => ?_)
  show g_G 5 X Y 0 [(0, g_r Y 43), (1, g_r Y 41)] [] M
  refine g_aload_n C 0 dX6_findMost_0 (q := 1) rfl rfl rfl ?_
  refine g_iconst C (v := 0) dX6_findMost_1 (q := 2) rfl (by decide) ?_
  obtain ⟨M1, hM1, h⟩ := g_bind h
  refine g_put C (k := 43) (i := 1) (ty := .int) (by decide) (gc_43 Y _ _) (gp_43_1 Y _ _ _) rfl kU_X6 tyX6_ok nmX6 (by decide) kF_X6_19 rfl rfl rfl rfl (Nat.le_of_ble_eq_true rfl) dX6_findMost_2 (q := 5) rfl ?_
  refine g_mem hM1 ?_
  refine g_aload_n C 1 dX6_findMost_5 (q := 6) rfl rfl rfl ?_
  refine g_get C (k := 41) (i := 1) (by decide) (gc_41 Y _ _) rfl kU_X1 (by decide) kF_X6_23 rfl dX6_findMost_6 (q := 9) rfl ?_
  refine g_istore_n C dX6_findMost_9 (q := 10) rfl rfl (by decide) (lv' := [(2, .int (M1.1 41 1)), (0, g_r Y 43), (1, g_r Y 41)]) rfl ?_
  refine g_sub [1, 2, 0] (lv' := [(0, g_r Y 43), (1, g_r Y 41), (2, .int (M1.1 41 1))]) rfl ?_
  refine t_X6_findMost_43_41_10 C E ?_ 20000000 (M1.1 41 1) M1 h
  · intro M h
    try dsimp only at h
    refine g_aload_n C 0 dX6_findMost_120 (q := 121) rfl rfl rfl ?_
    obtain ⟨p8, hp8, h⟩ := g_bind h
    refine g_callV C (k := 43) (as := []) (st := []) (m_X6_turn hp8) (g_hR (by decide)) (by decide) (by decide) (gc_43 Y _ _) rfl kM_X6_35 kI_X6_turn kS_X6_turn kN_X6 kC_X6_turn kD_X6_turn rfl (Nat.le_of_ble_eq_true rfl) dX6_findMost_121 (q := 124) rfl ?_
    show g_G 5 X Y 124 [(0, g_r Y 43)] [] p8
    obtain rfl := Option.some.inj h
    exact g_vret C E dX6_findMost_124
theorem r_X6_findMost_43_41 {M : g_M} {p : g_M} (h : f_X6_findMost_43_41 M = some p) : g_fr [44, 45] [(43, 1)] M p := by
  unfold f_X6_findMost_43_41 at h
  have hf := g_fr.rfl (S := [44, 45]) (T := [(43, 1)]) (M := M)
  obtain ⟨M1, hM1, h⟩ := g_bind h
  have hf := hf.pu hM1 (by decide)
  refine hf.trans (r_X6_findMost_43_41_10 ?_ 20000000 (M1.1 41 1) M1 h)
  · intro M h
    try dsimp only at h
    have hf := g_fr.rfl (S := [44, 45]) (T := [(43, 1)]) (M := M)
    obtain ⟨p8, hp8, h⟩ := g_bind h
    have hf := hf.trans ((r_X6_turn hp8).mono (by decide) (by decide))
    obtain rfl := Option.some.inj h
    exact hf
def F_X4_keysOfLocks_4 (M : g_M) (k27 : Int32 → Option (Int32)) (k : Int32 → Int32 → Option (Int32)) (x1 : Int32) (x2 : Int32) : Option (Int32) :=
  (if (M.1 24 0) ≤ x2 then (k27 x1) else ((g_ld M 27 40 x2).bind fun v1 => k (x1 ||| v1) (x2 + 1)))
set_option maxRecDepth 100000 in
theorem t_X4_keysOfLocks_4 {l : Launch} {X : g_X} {Y : g_Y} {p : Int32} {M : g_M} {k27 : Int32 → Option (Int32)} (C : g_C l (g_rm (0)) RX4 cX4_keysOfLocks 3 X Y) (E : g_E (some .int) X Y (some (.int p)) M) (hk27 : ∀ (x1 : Int32), k27 x1 = some p → g_G 3 X Y 27 [(1, .int x1)] [] M) (n : Nat) : ∀ (x1 : Int32) (x2 : Int32), g_lq2 (F_X4_keysOfLocks_4 M k27) n x1 x2 = some p → g_G 3 X Y 4 [(0, g_r Y 24), (1, .int x1), (2, .int x2)] [] M := by
  induction n with
  | zero => intro x1 x2 h; exact (g_nn h).elim
  | succ n ih =>
    intro x1 x2 h
    have h : F_X4_keysOfLocks_4 M k27 (g_lq2 (F_X4_keysOfLocks_4 M k27) n) x1 x2 = some p := h
    generalize g_lq2 (F_X4_keysOfLocks_4 M k27) n = k at h ih
    unfold F_X4_keysOfLocks_4 at h
    refine g_iload_n C 2 dX4_keysOfLocks_4 (q := 5) rfl rfl rfl ?_
    refine g_aload_n C 0 dX4_keysOfLocks_5 (q := 6) rfl rfl rfl ?_
    refine g_get C (k := 24) (i := 0) (by decide) (gc_24 Y _ _) rfl kU_X4 (by decide) kF_X4_33 rfl dX4_keysOfLocks_6 (q := 9) rfl ?_
    have hif := g_if h
    clear h
    refine g_icmp_ge C dX4_keysOfLocks_9 (q := 12) (tgt := 27) rfl (by decide) (fun c => ?_) (fun c => ?_)
    · have h := hif.1 c
      clear hif
      refine g_sub [1] (lv' := [(1, .int x1)]) rfl ?_
      exact hk27 x1 h
    · have h := hif.2 c
      clear hif
      refine g_iload_n C 1 dX4_keysOfLocks_12 (q := 13) rfl rfl rfl ?_
      refine g_aload_n C 0 dX4_keysOfLocks_13 (q := 14) rfl rfl rfl ?_
      refine g_get C (k := 24) (i := 4) (by decide) (gc_24 Y _ _) rfl kU_X4 (by decide) kF_X4_18 rfl dX4_keysOfLocks_14 (q := 17) rfl ?_
      refine g_iload_n C 2 dX4_keysOfLocks_17 (q := 18) rfl rfl rfl ?_
      obtain ⟨v1, hv1, h⟩ := g_bind h
      refine g_iald C (k := 27) (n := 40) (by decide) (gc_27 Y _ _) hv1 dX4_keysOfLocks_18 (q := 19) rfl ?_
      refine g_ior C dX4_keysOfLocks_19 (q := 20) rfl ?_
      refine g_istore_n C dX4_keysOfLocks_20 (q := 21) rfl rfl (by decide) (lv' := [(1, .int (x1 ||| v1)), (0, g_r Y 24), (2, .int x2)]) rfl ?_
      refine g_iinc C (k := 2) (v := x2 + 1) dX4_keysOfLocks_21 (q := 24) rfl rfl rfl (by decide) (lv' := [(2, .int (x2 + 1)), (1, .int (x1 ||| v1)), (0, g_r Y 24)]) rfl ?_
      refine g_goto C dX4_keysOfLocks_24 (tgt := 4) (by decide) ?_
      refine g_sub [2, 1, 0] (lv' := [(0, g_r Y 24), (1, .int (x1 ||| v1)), (2, .int (x2 + 1))]) rfl ?_
      exact ih (x1 ||| v1) (x2 + 1) h
def f_X4_keysOfLocks (M : g_M) : Option (Int32) :=
  g_lq2 (F_X4_keysOfLocks_4 M (fun (x1 : Int32) => some x1)) 20000000 0 0
set_option maxRecDepth 100000 in
theorem m_X4_keysOfLocks {l : Launch} {Y : g_Y} {M : g_M} {p : Int32} (h : f_X4_keysOfLocks M = some p) : g_R l Y (0) yX4_keysOfLocks cX4_keysOfLocks 3 (some .int) [g_r Y 24] M (some (.int p)) M := by
  unfold f_X4_keysOfLocks at h
  refine g_R_of kP_X4 rfl (Nat.le_of_ble_eq_true rfl) (fun X C E => ?_)
  show g_G 3 X Y 0 [(0, g_r Y 24)] [] M
  refine g_iconst C (v := 0) dX4_keysOfLocks_0 (q := 1) rfl (by decide) ?_
  refine g_istore_n C dX4_keysOfLocks_1 (q := 2) rfl rfl (by decide) (lv' := [(1, .int 0), (0, g_r Y 24)]) rfl ?_
  refine g_iconst C (v := 0) dX4_keysOfLocks_2 (q := 3) rfl (by decide) ?_
  refine g_istore_n C dX4_keysOfLocks_3 (q := 4) rfl rfl (by decide) (lv' := [(2, .int 0), (1, .int 0), (0, g_r Y 24)]) rfl ?_
  refine g_sub [2, 1, 0] (lv' := [(0, g_r Y 24), (1, .int 0), (2, .int 0)]) rfl ?_
  refine t_X4_keysOfLocks_4 C E ?_ 20000000 0 0 h
  · intro x1 h
    try dsimp only at h
    refine g_iload_n C 0 dX4_keysOfLocks_27 (q := 28) rfl rfl rfl ?_
    obtain rfl := Option.some.inj h
    exact g_iret C E dX4_keysOfLocks_28
def f_X0_emptyRings (M : g_M) : Option (g_M) :=
  (f_J7_fill_53178_5 0 M).bind fun p1 => (some (g_u p1 3 3 ((p1.1 3 3) + 1))).bind fun M2 => some M2
set_option maxRecDepth 100000 in
theorem m_X0_emptyRings {l : Launch} {Y : g_Y} {M : g_M} {p : g_M} (h : f_X0_emptyRings M = some p) : g_R l Y (1) yX0_emptyRings cX0_emptyRings 1 none [g_r Y 3] M none p := by
  unfold f_X0_emptyRings at h
  refine g_R_of kP_X0 rfl (Nat.le_of_ble_eq_true rfl) (fun X C E => ?_)
  show g_G 1 X Y 0 [(0, g_r Y 3)] [] M
  refine g_aload_n C 0 dX0_emptyRings_0 (q := 1) rfl rfl rfl ?_
  refine g_get C (k := 3) (i := 5) (by decide) (gc_3 Y _ _) rfl kU_X0 (by decide) kF_X0_15 rfl dX0_emptyRings_1 (q := 4) rfl ?_
  refine g_iconst C (v := 0) dX0_emptyRings_4 (q := 5) rfl (by decide) ?_
  obtain ⟨p1, hp1, h⟩ := g_bind h
  refine g_callS C (as := [g_r Y 5, .int 0]) (st := []) (m_J7_fill_53178_5 hp1) (g_hR (by decide)) (by decide) kM_X0_38 kT_J7_fill_53178 kN_J7 kC_J7_fill_53178 kD_J7_fill_53178 rfl (Nat.le_of_ble_eq_true rfl) dX0_emptyRings_5 (q := 8) rfl ?_
  show g_G 1 X Y 8 [(0, g_r Y 3)] [] p1
  refine g_aload_n C 0 dX0_emptyRings_8 (q := 9) rfl rfl rfl ?_
  refine g_dup C dX0_emptyRings_9 (q := 10) rfl rfl ?_
  refine g_get C (k := 3) (i := 3) (by decide) (gc_3 Y _ _) rfl kU_X0 (by decide) kF_X0_31 rfl dX0_emptyRings_10 (q := 13) rfl ?_
  refine g_iconst C (v := 1) dX0_emptyRings_13 (q := 14) rfl (by decide) ?_
  refine g_iadd C dX0_emptyRings_14 (q := 15) rfl ?_
  obtain ⟨M2, hM2, h⟩ := g_bind h
  refine g_put C (k := 3) (i := 3) (ty := .int) (by decide) (gc_3 Y _ _) (gp_3_3 Y _ _ _) rfl kU_X0 tyX0_ok nmX0 (by decide) kF_X0_31 rfl rfl rfl rfl (Nat.le_of_ble_eq_true rfl) dX0_emptyRings_15 (q := 18) rfl ?_
  refine g_mem hM2 ?_
  obtain rfl := Option.some.inj h
  exact g_vret C E dX0_emptyRings_18
theorem r_X0_emptyRings {M : g_M} {p : g_M} (h : f_X0_emptyRings M = some p) : g_fr [5] [(3, 3)] M p := by
  unfold f_X0_emptyRings at h
  have hf := g_fr.rfl (S := [5]) (T := [(3, 3)]) (M := M)
  obtain ⟨p1, hp1, h⟩ := g_bind h
  have hf := hf.trans ((r_J7_fill_53178_5 hp1).mono (by decide) (by decide))
  obtain ⟨M2, hM2, h⟩ := g_bind h
  have hf := hf.pu hM2 (by decide)
  obtain rfl := Option.some.inj h
  exact hf
