def f_X12_opensBy (x1 : Int32) (x2 : Int32) (M : g_M) : Option (Int32 × g_M) :=
  (f_X12_comesOf x2 M).bind fun p1 => (f_X12_opensWith p1.1 p1.2).bind fun p2 => (g_ld p2 68 40 x1).bind fun v3 => (g_bz v3).bind fun z4 => some (z4, p2)
set_option maxRecDepth 100000 in
theorem m_X12_opensBy {l : Launch} {Y : g_Y} {x1 : Int32} {x2 : Int32} {M : g_M} {p : Int32 × g_M} (h : f_X12_opensBy x1 x2 M = some p) : g_R l Y (3) yX12_opensBy cX12_opensBy 4 (some .boolean) [g_r Y 59, .int x1, .int x2] M (some (.int p.1)) p.2 := by
  unfold f_X12_opensBy at h
  refine g_R_of kP_X12 rfl (Nat.le_of_ble_eq_true rfl) (fun X C E => ?_)
  show g_G 4 X Y 0 [(0, g_r Y 59), (1, .int x1), (2, .int x2)] [] M
  refine g_aload_n C 0 dX12_opensBy_0 (q := 1) rfl rfl rfl ?_
  refine g_iload_n C 2 dX12_opensBy_1 (q := 2) rfl rfl rfl ?_
  obtain ⟨p1, hp1, h⟩ := g_bind h
  refine g_callV C (k := 59) (as := [.int x2]) (st := []) (m_X12_comesOf hp1) (g_hR (by decide)) (by decide) (by decide) (gc_59 Y _ _) rfl kM_X12_255 kI_X12_comesOf kS_X12_comesOf kN_X12 kC_X12_comesOf kD_X12_comesOf rfl (Nat.le_of_ble_eq_true rfl) dX12_opensBy_2 (q := 5) rfl ?_
  show g_G 4 X Y 5 [(0, g_r Y 59), (1, .int x1), (2, .int x2)] [.int p1.1] p1.2
  refine g_istore_n C dX12_opensBy_5 (q := 6) rfl rfl (by decide) (lv' := [(3, .int p1.1), (0, g_r Y 59), (1, .int x1), (2, .int x2)]) rfl ?_
  refine g_aload_n C 1 dX12_opensBy_6 (q := 7) rfl rfl rfl ?_
  refine g_iload_n C 0 dX12_opensBy_7 (q := 8) rfl rfl rfl ?_
  obtain ⟨p2, hp2, h⟩ := g_bind h
  refine g_callV C (k := 59) (as := [.int p1.1]) (st := []) (m_X12_opensWith hp2) (g_hR (by decide)) (by decide) (by decide) (gc_59 Y _ _) rfl kM_X12_251 kI_X12_opensWith kS_X12_opensWith kN_X12 kC_X12_opensWith kD_X12_opensWith rfl (Nat.le_of_ble_eq_true rfl) dX12_opensBy_8 (q := 11) rfl ?_
  show g_G 4 X Y 11 [(3, .int p1.1), (0, g_r Y 59), (1, .int x1), (2, .int x2)] [] p2
  refine g_aload_n C 1 dX12_opensBy_11 (q := 12) rfl rfl rfl ?_
  refine g_get C (k := 59) (i := 21) (by decide) (gc_59 Y _ _) rfl kU_X12 (by decide) kF_X12_35 rfl dX12_opensBy_12 (q := 15) rfl ?_
  refine g_iload_n C 2 dX12_opensBy_15 (q := 16) rfl rfl rfl ?_
  obtain ⟨v3, hv3, h⟩ := g_bind h
  refine g_zald C (k := 68) (n := 40) (by decide) (gc_68 Y _ _) hv3 dX12_opensBy_16 (q := 17) rfl ?_
  obtain ⟨z4, hz4, h⟩ := g_bind h
  obtain rfl := Option.some.inj h
  exact g_zret C hz4 E dX12_opensBy_17
theorem r_X12_opensBy {x1 : Int32} {x2 : Int32} {M : g_M} {p : Int32 × g_M} (h : f_X12_opensBy x1 x2 M = some p) : g_fr [68, 69] [] M p.2 := by
  unfold f_X12_opensBy at h
  have hf := g_fr.rfl (S := [68, 69]) (T := []) (M := M)
  obtain ⟨p1, hp1, h⟩ := g_bind h
  have hf := hf.trans ((r_X12_comesOf hp1).mono (by decide) (by decide))
  obtain ⟨p2, hp2, h⟩ := g_bind h
  have hf := hf.trans ((r_X12_opensWith hp2).mono (by decide) (by decide))
  obtain ⟨v3, -, h⟩ := g_bind h
  obtain ⟨z4, -, h⟩ := g_bind h
  obtain rfl := Option.some.inj h
  exact hf
def f_X12_opens__16 (M : g_M) : Option (Int32 × g_M) :=
  (f_X12_finding 0 M).bind fun p2 => some (p2.1, p2.2)
set_option maxRecDepth 100000 in
theorem t_X12_opens__16 {l : Launch} {X : g_X} {Y : g_Y} {p : Int32 × g_M} (C : g_C l (g_rm (4)) RX12 cX12_opens_ 3 X Y) (E : g_E (some .int) X Y (some (.int p.1)) p.2) (M : g_M) (h : f_X12_opens__16 M = some p) : g_G 3 X Y 16 [(0, g_r Y 59)] [] M := by
  unfold f_X12_opens__16 at h
  refine g_aload_n C 0 dX12_opens__16 (q := 17) rfl rfl rfl ?_
  refine g_iconst C (v := 0) dX12_opens__17 (q := 18) rfl (by decide) ?_
  obtain ⟨p2, hp2, h⟩ := g_bind h
  refine g_callV C (k := 59) (as := [.int 0]) (st := []) (m_X12_finding hp2) (g_hR (by decide)) (by decide) (by decide) (gc_59 Y _ _) rfl kM_X12_190 kI_X12_finding kS_X12_finding kN_X12 kC_X12_finding kD_X12_finding rfl (Nat.le_of_ble_eq_true rfl) dX12_opens__18 (q := 21) rfl ?_
  show g_G 3 X Y 21 [(0, g_r Y 59)] [.int p2.1] p2.2
  obtain rfl := Option.some.inj h
  exact g_iret C E dX12_opens__21
theorem r_X12_opens__16 {p : Int32 × g_M} (M : g_M) (h : f_X12_opens__16 M = some p) : g_fr [63, 68, 69] [] M p.2 := by
  unfold f_X12_opens__16 at h
  have hf := g_fr.rfl (S := [63, 68, 69]) (T := []) (M := M)
  obtain ⟨p2, hp2, h⟩ := g_bind h
  have hf := hf.trans ((r_X12_finding hp2).mono (by decide) (by decide))
  obtain rfl := Option.some.inj h
  exact hf
def f_X12_opens_ (x1 : Int32) (x2 : Int32) (M : g_M) : Option (Int32 × g_M) :=
  (f_X12_isHanging x1 M).bind fun p1 => (if p1 = 0 then (f_X12_opens__16 M) else ((f_X12_isSet x2 M).bind fun p3 => (if p3 = 0 then (f_X12_opens__16 M) else ((f_X12_keysOf x2 M).bind fun p4 => (f_X12_opensBy x1 p4 M).bind fun p5 => (if p5.1 = 0 then (some (0, p5.2)) else (some (1, p5.2)))))))
set_option maxRecDepth 100000 in
theorem m_X12_opens_ {l : Launch} {Y : g_Y} {x1 : Int32} {x2 : Int32} {M : g_M} {p : Int32 × g_M} (h : f_X12_opens_ x1 x2 M = some p) : g_R l Y (4) yX12_opens_ cX12_opens_ 3 (some .int) [g_r Y 59, .int x1, .int x2] M (some (.int p.1)) p.2 := by
  unfold f_X12_opens_ at h
  refine g_R_of kP_X12 rfl (Nat.le_of_ble_eq_true rfl) (fun X C E => ?_)
  show g_G 3 X Y 0 [(0, g_r Y 59), (1, .int x1), (2, .int x2)] [] M
  refine g_aload_n C 0 dX12_opens__0 (q := 1) rfl rfl rfl ?_
  refine g_iload_n C 1 dX12_opens__1 (q := 2) rfl rfl rfl ?_
  obtain ⟨p1, hp1, h⟩ := g_bind h
  refine g_callV C (k := 59) (as := [.int x1]) (st := []) (m_X12_isHanging hp1) (g_hR (by decide)) (by decide) (by decide) (gc_59 Y _ _) rfl kM_X12_242 kI_X12_isHanging kS_X12_isHanging kN_X12 kC_X12_isHanging kD_X12_isHanging rfl (Nat.le_of_ble_eq_true rfl) dX12_opens__2 (q := 5) rfl ?_
  show g_G 3 X Y 5 [(0, g_r Y 59), (1, .int x1), (2, .int x2)] [.int p1] M
  have hif := g_if h
  clear h
  refine g_if_eq C dX12_opens__5 (q := 8) (tgt := 16) rfl (by decide) (fun c => ?_) (fun c => ?_)
  · have h := hif.1 c
    clear hif
    refine g_sub [0] (lv' := [(0, g_r Y 59)]) rfl ?_
    exact t_X12_opens__16 C E M h
  · have h := hif.2 c
    clear hif
    refine g_aload_n C 0 dX12_opens__8 (q := 9) rfl rfl rfl ?_
    refine g_iload_n C 2 dX12_opens__9 (q := 10) rfl rfl rfl ?_
    obtain ⟨p3, hp3, h⟩ := g_bind h
    refine g_callV C (k := 59) (as := [.int x2]) (st := []) (m_X12_isSet hp3) (g_hR (by decide)) (by decide) (by decide) (gc_59 Y _ _) rfl kM_X12_202 kI_X12_isSet kS_X12_isSet kN_X12 kC_X12_isSet kD_X12_isSet rfl (Nat.le_of_ble_eq_true rfl) dX12_opens__10 (q := 13) rfl ?_
    show g_G 3 X Y 13 [(0, g_r Y 59), (1, .int x1), (2, .int x2)] [.int p3] M
    have hif := g_if h
    clear h
    refine g_if_ne C dX12_opens__13 (q := 16) (tgt := 22) rfl (by decide) (fun c => ?_) (fun c => ?_)
    · have h := hif.2 c
      clear hif
      refine g_aload_n C 0 dX12_opens__22 (q := 23) rfl rfl rfl ?_
      refine g_iload_n C 1 dX12_opens__23 (q := 24) rfl rfl rfl ?_
      refine g_aload_n C 0 dX12_opens__24 (q := 25) rfl rfl rfl ?_
      refine g_iload_n C 2 dX12_opens__25 (q := 26) rfl rfl rfl ?_
      obtain ⟨p4, hp4, h⟩ := g_bind h
      refine g_callV C (k := 59) (as := [.int x2]) (st := [.int x1, g_r Y 59]) (m_X12_keysOf hp4) (g_hR (by decide)) (by decide) (by decide) (gc_59 Y _ _) rfl kM_X12_258 kI_X12_keysOf kS_X12_keysOf kN_X12 kC_X12_keysOf kD_X12_keysOf rfl (Nat.le_of_ble_eq_true rfl) dX12_opens__26 (q := 29) rfl ?_
      show g_G 3 X Y 29 [(0, g_r Y 59), (1, .int x1), (2, .int x2)] [.int p4, .int x1, g_r Y 59] M
      obtain ⟨p5, hp5, h⟩ := g_bind h
      refine g_callV C (k := 59) (as := [.int x1, .int p4]) (st := []) (m_X12_opensBy hp5) (g_hR (by decide)) (by decide) (by decide) (gc_59 Y _ _) rfl kM_X12_261 kI_X12_opensBy kS_X12_opensBy kN_X12 kC_X12_opensBy kD_X12_opensBy rfl (Nat.le_of_ble_eq_true rfl) dX12_opens__29 (q := 32) rfl ?_
      show g_G 3 X Y 32 [(0, g_r Y 59), (1, .int x1), (2, .int x2)] [.int p5.1] p5.2
      have hif := g_if h
      clear h
      refine g_if_eq C dX12_opens__32 (q := 35) (tgt := 39) rfl (by decide) (fun c => ?_) (fun c => ?_)
      · have h := hif.1 c
        clear hif
        refine g_iconst C (v := 0) dX12_opens__39 (q := 40) rfl (by decide) ?_
        obtain rfl := Option.some.inj h
        exact g_iret C E dX12_opens__40
      · have h := hif.2 c
        clear hif
        refine g_iconst C (v := 1) dX12_opens__35 (q := 36) rfl (by decide) ?_
        refine g_goto C dX12_opens__36 (tgt := 40) (by decide) ?_
        obtain rfl := Option.some.inj h
        exact g_iret C E dX12_opens__40
    · have h := hif.1 c
      clear hif
      refine g_sub [0] (lv' := [(0, g_r Y 59)]) rfl ?_
      exact t_X12_opens__16 C E M h
theorem r_X12_opens_ {x1 : Int32} {x2 : Int32} {M : g_M} {p : Int32 × g_M} (h : f_X12_opens_ x1 x2 M = some p) : g_fr [63, 68, 69] [] M p.2 := by
  unfold f_X12_opens_ at h
  have hf := g_fr.rfl (S := [63, 68, 69]) (T := []) (M := M)
  obtain ⟨p1, -, h⟩ := g_bind h
  rcases g_ifs h with h | h
  · exact hf.trans (r_X12_opens__16 M h)
  · obtain ⟨p3, -, h⟩ := g_bind h
    rcases g_ifs h with h | h
    · exact hf.trans (r_X12_opens__16 M h)
    · obtain ⟨p4, -, h⟩ := g_bind h
      obtain ⟨p5, hp5, h⟩ := g_bind h
      have hf := hf.trans ((r_X12_opensBy hp5).mono (by decide) (by decide))
      rcases g_ifs h with h | h
      · obtain rfl := Option.some.inj h
        exact hf
      · obtain rfl := Option.some.inj h
        exact hf
def f_X12_had (x1 : Int32) (M : g_M) : Option (Int32 × g_M) :=
  (f_X12_isSet x1 M).bind fun p1 => (if p1 = 0 then ((f_X12_finding 0 M).bind fun p2 => some (p2.1, p2.2)) else ((f_X12_keysOf x1 M).bind fun p3 => (f_X12_comesOf p3 M).bind fun p4 => some (p4.1, p4.2)))
set_option maxRecDepth 100000 in
theorem m_X12_had {l : Launch} {Y : g_Y} {x1 : Int32} {M : g_M} {p : Int32 × g_M} (h : f_X12_had x1 M = some p) : g_R l Y (3) yX12_had cX12_had 2 (some .int) [g_r Y 59, .int x1] M (some (.int p.1)) p.2 := by
  unfold f_X12_had at h
  refine g_R_of kP_X12 rfl (Nat.le_of_ble_eq_true rfl) (fun X C E => ?_)
  show g_G 2 X Y 0 [(0, g_r Y 59), (1, .int x1)] [] M
  refine g_aload_n C 0 dX12_had_0 (q := 1) rfl rfl rfl ?_
  refine g_iload_n C 1 dX12_had_1 (q := 2) rfl rfl rfl ?_
  obtain ⟨p1, hp1, h⟩ := g_bind h
  refine g_callV C (k := 59) (as := [.int x1]) (st := []) (m_X12_isSet hp1) (g_hR (by decide)) (by decide) (by decide) (gc_59 Y _ _) rfl kM_X12_202 kI_X12_isSet kS_X12_isSet kN_X12 kC_X12_isSet kD_X12_isSet rfl (Nat.le_of_ble_eq_true rfl) dX12_had_2 (q := 5) rfl ?_
  show g_G 2 X Y 5 [(0, g_r Y 59), (1, .int x1)] [.int p1] M
  have hif := g_if h
  clear h
  refine g_if_eq C dX12_had_5 (q := 8) (tgt := 20) rfl (by decide) (fun c => ?_) (fun c => ?_)
  · have h := hif.1 c
    clear hif
    refine g_aload_n C 0 dX12_had_20 (q := 21) rfl rfl rfl ?_
    refine g_iconst C (v := 0) dX12_had_21 (q := 22) rfl (by decide) ?_
    obtain ⟨p2, hp2, h⟩ := g_bind h
    refine g_callV C (k := 59) (as := [.int 0]) (st := []) (m_X12_finding hp2) (g_hR (by decide)) (by decide) (by decide) (gc_59 Y _ _) rfl kM_X12_190 kI_X12_finding kS_X12_finding kN_X12 kC_X12_finding kD_X12_finding rfl (Nat.le_of_ble_eq_true rfl) dX12_had_22 (q := 25) rfl ?_
    show g_G 2 X Y 25 [(0, g_r Y 59), (1, .int x1)] [.int p2.1] p2.2
    obtain rfl := Option.some.inj h
    exact g_iret C E dX12_had_25
  · have h := hif.2 c
    clear hif
    refine g_aload_n C 0 dX12_had_8 (q := 9) rfl rfl rfl ?_
    refine g_aload_n C 0 dX12_had_9 (q := 10) rfl rfl rfl ?_
    refine g_iload_n C 1 dX12_had_10 (q := 11) rfl rfl rfl ?_
    obtain ⟨p3, hp3, h⟩ := g_bind h
    refine g_callV C (k := 59) (as := [.int x1]) (st := [g_r Y 59]) (m_X12_keysOf hp3) (g_hR (by decide)) (by decide) (by decide) (gc_59 Y _ _) rfl kM_X12_258 kI_X12_keysOf kS_X12_keysOf kN_X12 kC_X12_keysOf kD_X12_keysOf rfl (Nat.le_of_ble_eq_true rfl) dX12_had_11 (q := 14) rfl ?_
    show g_G 2 X Y 14 [(0, g_r Y 59), (1, .int x1)] [.int p3, g_r Y 59] M
    obtain ⟨p4, hp4, h⟩ := g_bind h
    refine g_callV C (k := 59) (as := [.int p3]) (st := []) (m_X12_comesOf hp4) (g_hR (by decide)) (by decide) (by decide) (gc_59 Y _ _) rfl kM_X12_255 kI_X12_comesOf kS_X12_comesOf kN_X12 kC_X12_comesOf kD_X12_comesOf rfl (Nat.le_of_ble_eq_true rfl) dX12_had_14 (q := 17) rfl ?_
    show g_G 2 X Y 17 [(0, g_r Y 59), (1, .int x1)] [.int p4.1] p4.2
    refine g_goto C dX12_had_17 (tgt := 25) (by decide) ?_
    obtain rfl := Option.some.inj h
    exact g_iret C E dX12_had_25
theorem r_X12_had {x1 : Int32} {M : g_M} {p : Int32 × g_M} (h : f_X12_had x1 M = some p) : g_fr [63, 68, 69] [] M p.2 := by
  unfold f_X12_had at h
  have hf := g_fr.rfl (S := [63, 68, 69]) (T := []) (M := M)
  obtain ⟨p1, -, h⟩ := g_bind h
  rcases g_ifs h with h | h
  · obtain ⟨p2, hp2, h⟩ := g_bind h
    have hf := hf.trans ((r_X12_finding hp2).mono (by decide) (by decide))
    obtain rfl := Option.some.inj h
    exact hf
  · obtain ⟨p3, -, h⟩ := g_bind h
    obtain ⟨p4, hp4, h⟩ := g_bind h
    have hf := hf.trans ((r_X12_comesOf hp4).mono (by decide) (by decide))
    obtain rfl := Option.some.inj h
    exact hf
def f_X12_round_16 (M : g_M) : Option (Int32 × g_M) :=
  (f_X12_finding 0 M).bind fun p2 => some (p2.1, p2.2)
set_option maxRecDepth 100000 in
theorem t_X12_round_16 {l : Launch} {X : g_X} {Y : g_Y} {p : Int32 × g_M} (C : g_C l (g_rm (3)) RX12 cX12_round 4 X Y) (E : g_E (some .int) X Y (some (.int p.1)) p.2) (M : g_M) (h : f_X12_round_16 M = some p) : g_G 4 X Y 16 [(0, g_r Y 59)] [] M := by
  unfold f_X12_round_16 at h
  refine g_aload_n C 0 dX12_round_16 (q := 17) rfl rfl rfl ?_
  refine g_iconst C (v := 0) dX12_round_17 (q := 18) rfl (by decide) ?_
  obtain ⟨p2, hp2, h⟩ := g_bind h
  refine g_callV C (k := 59) (as := [.int 0]) (st := []) (m_X12_finding hp2) (g_hR (by decide)) (by decide) (by decide) (gc_59 Y _ _) rfl kM_X12_190 kI_X12_finding kS_X12_finding kN_X12 kC_X12_finding kD_X12_finding rfl (Nat.le_of_ble_eq_true rfl) dX12_round_18 (q := 21) rfl ?_
  show g_G 4 X Y 21 [(0, g_r Y 59)] [.int p2.1] p2.2
  obtain rfl := Option.some.inj h
  exact g_iret C E dX12_round_21
theorem r_X12_round_16 {p : Int32 × g_M} (M : g_M) (h : f_X12_round_16 M = some p) : g_fr [63, 68, 69] [] M p.2 := by
  unfold f_X12_round_16 at h
  have hf := g_fr.rfl (S := [63, 68, 69]) (T := []) (M := M)
  obtain ⟨p2, hp2, h⟩ := g_bind h
  have hf := hf.trans ((r_X12_finding hp2).mono (by decide) (by decide))
  obtain rfl := Option.some.inj h
  exact hf
def f_X12_round (x1 : Int32) (x2 : Int32) (M : g_M) : Option (Int32 × g_M) :=
  (f_X12_isHanging x1 M).bind fun p1 => (if p1 = 0 then (f_X12_round_16 M) else ((f_X12_isSet x2 M).bind fun p3 => (if p3 = 0 then (f_X12_round_16 M) else ((f_X12_hang x1 0 M).bind fun p4 => (if p4 = 4 then ((f_X12_keysOf x2 M).bind fun p5 => (f_X12_comesOf p5 M).bind fun p6 => (g_ld p6.2 69 40 x1).bind fun v7 => some (v7, p6.2)) else ((f_X12_finding 2 M).bind fun p8 => some (p8.1, p8.2)))))))
set_option maxRecDepth 100000 in
theorem m_X12_round {l : Launch} {Y : g_Y} {x1 : Int32} {x2 : Int32} {M : g_M} {p : Int32 × g_M} (h : f_X12_round x1 x2 M = some p) : g_R l Y (3) yX12_round cX12_round 4 (some .int) [g_r Y 59, .int x1, .int x2] M (some (.int p.1)) p.2 := by
  unfold f_X12_round at h
  refine g_R_of kP_X12 rfl (Nat.le_of_ble_eq_true rfl) (fun X C E => ?_)
  show g_G 4 X Y 0 [(0, g_r Y 59), (1, .int x1), (2, .int x2)] [] M
  refine g_aload_n C 0 dX12_round_0 (q := 1) rfl rfl rfl ?_
  refine g_iload_n C 1 dX12_round_1 (q := 2) rfl rfl rfl ?_
  obtain ⟨p1, hp1, h⟩ := g_bind h
  refine g_callV C (k := 59) (as := [.int x1]) (st := []) (m_X12_isHanging hp1) (g_hR (by decide)) (by decide) (by decide) (gc_59 Y _ _) rfl kM_X12_242 kI_X12_isHanging kS_X12_isHanging kN_X12 kC_X12_isHanging kD_X12_isHanging rfl (Nat.le_of_ble_eq_true rfl) dX12_round_2 (q := 5) rfl ?_
  show g_G 4 X Y 5 [(0, g_r Y 59), (1, .int x1), (2, .int x2)] [.int p1] M
  have hif := g_if h
  clear h
  refine g_if_eq C dX12_round_5 (q := 8) (tgt := 16) rfl (by decide) (fun c => ?_) (fun c => ?_)
  · have h := hif.1 c
    clear hif
    refine g_sub [0] (lv' := [(0, g_r Y 59)]) rfl ?_
    exact t_X12_round_16 C E M h
  · have h := hif.2 c
    clear hif
    refine g_aload_n C 0 dX12_round_8 (q := 9) rfl rfl rfl ?_
    refine g_iload_n C 2 dX12_round_9 (q := 10) rfl rfl rfl ?_
    obtain ⟨p3, hp3, h⟩ := g_bind h
    refine g_callV C (k := 59) (as := [.int x2]) (st := []) (m_X12_isSet hp3) (g_hR (by decide)) (by decide) (by decide) (gc_59 Y _ _) rfl kM_X12_202 kI_X12_isSet kS_X12_isSet kN_X12 kC_X12_isSet kD_X12_isSet rfl (Nat.le_of_ble_eq_true rfl) dX12_round_10 (q := 13) rfl ?_
    show g_G 4 X Y 13 [(0, g_r Y 59), (1, .int x1), (2, .int x2)] [.int p3] M
    have hif := g_if h
    clear h
    refine g_if_ne C dX12_round_13 (q := 16) (tgt := 22) rfl (by decide) (fun c => ?_) (fun c => ?_)
    · have h := hif.2 c
      clear hif
      refine g_aload_n C 0 dX12_round_22 (q := 23) rfl rfl rfl ?_
      refine g_iload_n C 1 dX12_round_23 (q := 24) rfl rfl rfl ?_
      refine g_iconst C (v := 0) dX12_round_24 (q := 25) rfl (by decide) ?_
      obtain ⟨p4, hp4, h⟩ := g_bind h
      refine g_callV C (k := 59) (as := [.int x1, .int 0]) (st := []) (m_X12_hang hp4) (g_hR (by decide)) (by decide) (by decide) (gc_59 Y _ _) rfl kM_X12_245 kI_X12_hang kS_X12_hang kN_X12 kC_X12_hang kD_X12_hang rfl (Nat.le_of_ble_eq_true rfl) dX12_round_25 (q := 28) rfl ?_
      show g_G 4 X Y 28 [(0, g_r Y 59), (1, .int x1), (2, .int x2)] [.int p4] M
      refine g_iconst C (v := 4) dX12_round_28 (q := 29) rfl (by decide) ?_
      have hif := g_if h
      clear h
      refine g_icmp_eq C dX12_round_29 (q := 32) (tgt := 38) rfl (by decide) (fun c => ?_) (fun c => ?_)
      · have h := hif.1 c
        clear hif
        refine g_aload_n C 0 dX12_round_38 (q := 39) rfl rfl rfl ?_
        refine g_aload_n C 0 dX12_round_39 (q := 40) rfl rfl rfl ?_
        refine g_iload_n C 2 dX12_round_40 (q := 41) rfl rfl rfl ?_
        obtain ⟨p5, hp5, h⟩ := g_bind h
        refine g_callV C (k := 59) (as := [.int x2]) (st := [g_r Y 59]) (m_X12_keysOf hp5) (g_hR (by decide)) (by decide) (by decide) (gc_59 Y _ _) rfl kM_X12_258 kI_X12_keysOf kS_X12_keysOf kN_X12 kC_X12_keysOf kD_X12_keysOf rfl (Nat.le_of_ble_eq_true rfl) dX12_round_41 (q := 44) rfl ?_
        show g_G 4 X Y 44 [(0, g_r Y 59), (1, .int x1), (2, .int x2)] [.int p5, g_r Y 59] M
        obtain ⟨p6, hp6, h⟩ := g_bind h
        refine g_callV C (k := 59) (as := [.int p5]) (st := []) (m_X12_comesOf hp6) (g_hR (by decide)) (by decide) (by decide) (gc_59 Y _ _) rfl kM_X12_255 kI_X12_comesOf kS_X12_comesOf kN_X12 kC_X12_comesOf kD_X12_comesOf rfl (Nat.le_of_ble_eq_true rfl) dX12_round_44 (q := 47) rfl ?_
        show g_G 4 X Y 47 [(0, g_r Y 59), (1, .int x1), (2, .int x2)] [.int p6.1] p6.2
        refine g_istore_n C dX12_round_47 (q := 48) rfl rfl (by decide) (lv' := [(3, .int p6.1), (0, g_r Y 59), (1, .int x1), (2, .int x2)]) rfl ?_
        refine g_aload_n C 1 dX12_round_48 (q := 49) rfl rfl rfl ?_
        refine g_get C (k := 59) (i := 22) (by decide) (gc_59 Y _ _) rfl kU_X12 (by decide) kF_X12_38 rfl dX12_round_49 (q := 52) rfl ?_
        refine g_iload_n C 2 dX12_round_52 (q := 53) rfl rfl rfl ?_
        obtain ⟨v7, hv7, h⟩ := g_bind h
        refine g_iald C (k := 69) (n := 40) (by decide) (gc_69 Y _ _) hv7 dX12_round_53 (q := 54) rfl ?_
        obtain rfl := Option.some.inj h
        exact g_iret C E dX12_round_54
      · have h := hif.2 c
        clear hif
        refine g_aload_n C 0 dX12_round_32 (q := 33) rfl rfl rfl ?_
        refine g_iconst C (v := 2) dX12_round_33 (q := 34) rfl (by decide) ?_
        obtain ⟨p8, hp8, h⟩ := g_bind h
        refine g_callV C (k := 59) (as := [.int 2]) (st := []) (m_X12_finding hp8) (g_hR (by decide)) (by decide) (by decide) (gc_59 Y _ _) rfl kM_X12_190 kI_X12_finding kS_X12_finding kN_X12 kC_X12_finding kD_X12_finding rfl (Nat.le_of_ble_eq_true rfl) dX12_round_34 (q := 37) rfl ?_
        show g_G 4 X Y 37 [(0, g_r Y 59), (1, .int x1), (2, .int x2)] [.int p8.1] p8.2
        obtain rfl := Option.some.inj h
        exact g_iret C E dX12_round_37
    · have h := hif.1 c
      clear hif
      refine g_sub [0] (lv' := [(0, g_r Y 59)]) rfl ?_
      exact t_X12_round_16 C E M h
theorem r_X12_round {x1 : Int32} {x2 : Int32} {M : g_M} {p : Int32 × g_M} (h : f_X12_round x1 x2 M = some p) : g_fr [63, 68, 69] [] M p.2 := by
  unfold f_X12_round at h
  have hf := g_fr.rfl (S := [63, 68, 69]) (T := []) (M := M)
  obtain ⟨p1, -, h⟩ := g_bind h
  rcases g_ifs h with h | h
  · exact hf.trans (r_X12_round_16 M h)
  · obtain ⟨p3, -, h⟩ := g_bind h
    rcases g_ifs h with h | h
    · exact hf.trans (r_X12_round_16 M h)
    · obtain ⟨p4, -, h⟩ := g_bind h
      rcases g_ifs h with h | h
      · obtain ⟨p5, -, h⟩ := g_bind h
        obtain ⟨p6, hp6, h⟩ := g_bind h
        have hf := hf.trans ((r_X12_comesOf hp6).mono (by decide) (by decide))
        obtain ⟨v7, -, h⟩ := g_bind h
        obtain rfl := Option.some.inj h
        exact hf
      · obtain ⟨p8, hp8, h⟩ := g_bind h
        have hf := hf.trans ((r_X12_finding hp8).mono (by decide) (by decide))
        obtain rfl := Option.some.inj h
        exact hf
def F_X12_findOpens_7 (k52 : g_M → Option (g_M)) (k : Int32 → Int32 → Int32 → g_M → Option (g_M)) (x1 : Int32) (x2 : Int32) (x3 : Int32) (M : g_M) : Option (g_M) :=
  (if 1024 ≤ x3 then (k52 M) else ((if (x3 &&& (x2 ^^^ (-1))) = 0 then ((f_X12_keysOf x3 M).bind fun p4 => (f_X12_opensBy x1 p4 M).bind fun p5 => (if p5.1 = 0 then ((g_bz 0).bind fun z7 => (g_st p5.2 64 1024 x3 z7).bind fun M6 => k x1 x2 (x3 + 1) M6) else ((g_bz 1).bind fun z9 => (g_st p5.2 64 1024 x3 z9).bind fun M8 => k x1 x2 (x3 + 1) M8))) else ((g_bz 0).bind fun z3 => (g_st M 64 1024 x3 z3).bind fun M2 => k x1 x2 (x3 + 1) M2))))
set_option maxRecDepth 100000 in
theorem t_X12_findOpens_7 {l : Launch} {X : g_X} {Y : g_Y} {p : g_M} {k52 : g_M → Option (g_M)} (C : g_C l (g_rm (4)) RX12 cX12_findOpens 4 X Y) (E : g_E none X Y none p) (hk52 : ∀ (M : g_M), k52 M = some p → g_G 4 X Y 52 [] [] M) (n : Nat) : ∀ (x1 : Int32) (x2 : Int32) (x3 : Int32) (M : g_M), g_lp3 (F_X12_findOpens_7 k52) n x1 x2 x3 M = some p → g_G 4 X Y 7 [(0, g_r Y 59), (1, .int x1), (2, .int x2), (3, .int x3)] [] M := by
  induction n with
  | zero => intro x1 x2 x3 M h; exact (g_nn h).elim
  | succ n ih =>
    intro x1 x2 x3 M h
    have h : F_X12_findOpens_7 k52 (g_lp3 (F_X12_findOpens_7 k52) n) x1 x2 x3 M = some p := h
    generalize g_lp3 (F_X12_findOpens_7 k52) n = k at h ih
    unfold F_X12_findOpens_7 at h
    refine g_iload_n C 3 dX12_findOpens_7 (q := 8) rfl rfl rfl ?_
    refine g_sipush C (v := 1024) dX12_findOpens_8 (q := 11) rfl (by decide) ?_
    have hif := g_if h
    clear h
    refine g_icmp_ge C dX12_findOpens_11 (q := 14) (tgt := 52) rfl (by decide) (fun c => ?_) (fun c => ?_)
    · have h := hif.1 c
      clear hif
      refine g_sub [] (lv' := []) rfl ?_
      exact hk52 M h
    · have h := hif.2 c
      clear hif
      refine g_aload_n C 0 dX12_findOpens_14 (q := 15) rfl rfl rfl ?_
      refine g_get C (k := 59) (i := 17) (by decide) (gc_59 Y _ _) rfl kU_X12 (by decide) kF_X12_22 rfl dX12_findOpens_15 (q := 18) rfl ?_
      refine g_iload_n C 3 dX12_findOpens_18 (q := 19) rfl rfl rfl ?_
      refine g_iload_n C 3 dX12_findOpens_19 (q := 20) rfl rfl rfl ?_
      refine g_iload_n C 2 dX12_findOpens_20 (q := 21) rfl rfl rfl ?_
      refine g_iconst C (v := (-1)) dX12_findOpens_21 (q := 22) rfl (by decide) ?_
      refine g_ixor C dX12_findOpens_22 (q := 23) rfl ?_
      refine g_iand C dX12_findOpens_23 (q := 24) rfl ?_
      have hif := g_if h
      clear h
      refine g_if_ne C dX12_findOpens_24 (q := 27) (tgt := 44) rfl (by decide) (fun c => ?_) (fun c => ?_)
      · have h := hif.2 c
        clear hif
        refine g_iconst C (v := 0) dX12_findOpens_44 (q := 45) rfl (by decide) ?_
        obtain ⟨z3, hz3, h⟩ := g_bind h
        obtain ⟨M2, hM2, h⟩ := g_bind h
        refine g_zast C (k := 64) (n := 1024) (by decide) (fun a => gc_64 Y a _) hz3 hM2 dX12_findOpens_45 (q := 46) rfl ?_
        refine g_iinc C (k := 3) (v := x3 + 1) dX12_findOpens_46 (q := 49) rfl rfl rfl (by decide) (lv' := [(3, .int (x3 + 1)), (0, g_r Y 59), (1, .int x1), (2, .int x2)]) rfl ?_
        refine g_goto C dX12_findOpens_49 (tgt := 7) (by decide) ?_
        refine g_sub [1, 2, 3, 0] (lv' := [(0, g_r Y 59), (1, .int x1), (2, .int x2), (3, .int (x3 + 1))]) rfl ?_
        exact ih x1 x2 (x3 + 1) M2 h
      · have h := hif.1 c
        clear hif
        refine g_aload_n C 0 dX12_findOpens_27 (q := 28) rfl rfl rfl ?_
        refine g_iload_n C 1 dX12_findOpens_28 (q := 29) rfl rfl rfl ?_
        refine g_aload_n C 0 dX12_findOpens_29 (q := 30) rfl rfl rfl ?_
        refine g_iload_n C 3 dX12_findOpens_30 (q := 31) rfl rfl rfl ?_
        obtain ⟨p4, hp4, h⟩ := g_bind h
        refine g_callV C (k := 59) (as := [.int x3]) (st := [.int x1, g_r Y 59, .int x3, g_r Y 64]) (m_X12_keysOf hp4) (g_hR (by decide)) (by decide) (by decide) (gc_59 Y _ _) rfl kM_X12_258 kI_X12_keysOf kS_X12_keysOf kN_X12 kC_X12_keysOf kD_X12_keysOf rfl (Nat.le_of_ble_eq_true rfl) dX12_findOpens_31 (q := 34) rfl ?_
        show g_G 4 X Y 34 [(0, g_r Y 59), (1, .int x1), (2, .int x2), (3, .int x3)] [.int p4, .int x1, g_r Y 59, .int x3, g_r Y 64] M
        obtain ⟨p5, hp5, h⟩ := g_bind h
        refine g_callV C (k := 59) (as := [.int x1, .int p4]) (st := [.int x3, g_r Y 64]) (m_X12_opensBy hp5) (g_hR (by decide)) (by decide) (by decide) (gc_59 Y _ _) rfl kM_X12_261 kI_X12_opensBy kS_X12_opensBy kN_X12 kC_X12_opensBy kD_X12_opensBy rfl (Nat.le_of_ble_eq_true rfl) dX12_findOpens_34 (q := 37) rfl ?_
        show g_G 4 X Y 37 [(0, g_r Y 59), (1, .int x1), (2, .int x2), (3, .int x3)] [.int p5.1, .int x3, g_r Y 64] p5.2
        have hif := g_if h
        clear h
        refine g_if_eq C dX12_findOpens_37 (q := 40) (tgt := 44) rfl (by decide) (fun c => ?_) (fun c => ?_)
        · have h := hif.1 c
          clear hif
          refine g_iconst C (v := 0) dX12_findOpens_44 (q := 45) rfl (by decide) ?_
          obtain ⟨z7, hz7, h⟩ := g_bind h
          obtain ⟨M6, hM6, h⟩ := g_bind h
          refine g_zast C (k := 64) (n := 1024) (by decide) (fun a => gc_64 Y a _) hz7 hM6 dX12_findOpens_45 (q := 46) rfl ?_
          refine g_iinc C (k := 3) (v := x3 + 1) dX12_findOpens_46 (q := 49) rfl rfl rfl (by decide) (lv' := [(3, .int (x3 + 1)), (0, g_r Y 59), (1, .int x1), (2, .int x2)]) rfl ?_
          refine g_goto C dX12_findOpens_49 (tgt := 7) (by decide) ?_
          refine g_sub [1, 2, 3, 0] (lv' := [(0, g_r Y 59), (1, .int x1), (2, .int x2), (3, .int (x3 + 1))]) rfl ?_
          exact ih x1 x2 (x3 + 1) M6 h
        · have h := hif.2 c
          clear hif
          refine g_iconst C (v := 1) dX12_findOpens_40 (q := 41) rfl (by decide) ?_
          refine g_goto C dX12_findOpens_41 (tgt := 45) (by decide) ?_
          obtain ⟨z9, hz9, h⟩ := g_bind h
          obtain ⟨M8, hM8, h⟩ := g_bind h
          refine g_zast C (k := 64) (n := 1024) (by decide) (fun a => gc_64 Y a _) hz9 hM8 dX12_findOpens_45 (q := 46) rfl ?_
          refine g_iinc C (k := 3) (v := x3 + 1) dX12_findOpens_46 (q := 49) rfl rfl rfl (by decide) (lv' := [(3, .int (x3 + 1)), (0, g_r Y 59), (1, .int x1), (2, .int x2)]) rfl ?_
          refine g_goto C dX12_findOpens_49 (tgt := 7) (by decide) ?_
          refine g_sub [1, 2, 3, 0] (lv' := [(0, g_r Y 59), (1, .int x1), (2, .int x2), (3, .int (x3 + 1))]) rfl ?_
          exact ih x1 x2 (x3 + 1) M8 h
theorem r_X12_findOpens_7 {p : g_M} {k52 : g_M → Option (g_M)} (hk52 : ∀ (M : g_M), k52 M = some p → g_fr [64, 68, 69] [] M p) (n : Nat) : ∀ (x1 : Int32) (x2 : Int32) (x3 : Int32) (M : g_M), g_lp3 (F_X12_findOpens_7 k52) n x1 x2 x3 M = some p → g_fr [64, 68, 69] [] M p := by
  induction n with
  | zero => intro x1 x2 x3 M h; exact (g_nn h).elim
  | succ n ih =>
    intro x1 x2 x3 M h
    have h : F_X12_findOpens_7 k52 (g_lp3 (F_X12_findOpens_7 k52) n) x1 x2 x3 M = some p := h
    generalize g_lp3 (F_X12_findOpens_7 k52) n = k at h ih
    unfold F_X12_findOpens_7 at h
    have hf := g_fr.rfl (S := [64, 68, 69]) (T := []) (M := M)
    rcases g_ifs h with h | h
    · exact hf.trans (hk52 M h)
    · rcases g_ifs h with h | h
      · obtain ⟨p4, -, h⟩ := g_bind h
        obtain ⟨p5, hp5, h⟩ := g_bind h
        have hf := hf.trans ((r_X12_opensBy hp5).mono (by decide) (by decide))
        rcases g_ifs h with h | h
        · obtain ⟨z7, -, h⟩ := g_bind h
          obtain ⟨M6, hM6, h⟩ := g_bind h
          have hf := hf.st hM6 (by decide)
          exact hf.trans (ih x1 x2 (x3 + 1) M6 h)
        · obtain ⟨z9, -, h⟩ := g_bind h
          obtain ⟨M8, hM8, h⟩ := g_bind h
          have hf := hf.st hM8 (by decide)
          exact hf.trans (ih x1 x2 (x3 + 1) M8 h)
      · obtain ⟨z3, -, h⟩ := g_bind h
        obtain ⟨M2, hM2, h⟩ := g_bind h
        have hf := hf.st hM2 (by decide)
        exact hf.trans (ih x1 x2 (x3 + 1) M2 h)
def f_X12_findOpens (x1 : Int32) (M : g_M) : Option (g_M) :=
  (f_X12_all M).bind fun p1 => g_lp3 (F_X12_findOpens_7 (fun (M : g_M) => some M)) 20000000 x1 p1 0 M
set_option maxRecDepth 100000 in
theorem m_X12_findOpens {l : Launch} {Y : g_Y} {x1 : Int32} {M : g_M} {p : g_M} (h : f_X12_findOpens x1 M = some p) : g_R l Y (4) yX12_findOpens cX12_findOpens 4 none [g_r Y 59, .int x1] M none p := by
  unfold f_X12_findOpens at h
  refine g_R_of kP_X12 rfl (Nat.le_of_ble_eq_true rfl) (fun X C E => ?_)
  show g_G 4 X Y 0 [(0, g_r Y 59), (1, .int x1)] [] M
  refine g_aload_n C 0 dX12_findOpens_0 (q := 1) rfl rfl rfl ?_
  obtain ⟨p1, hp1, h⟩ := g_bind h
  refine g_callV C (k := 59) (as := []) (st := []) (m_X12_all hp1) (g_hR (by decide)) (by decide) (by decide) (gc_59 Y _ _) rfl kM_X12_181 kI_X12_all kS_X12_all kN_X12 kC_X12_all kD_X12_all rfl (Nat.le_of_ble_eq_true rfl) dX12_findOpens_1 (q := 4) rfl ?_
  show g_G 4 X Y 4 [(0, g_r Y 59), (1, .int x1)] [.int p1] M
  refine g_istore_n C dX12_findOpens_4 (q := 5) rfl rfl (by decide) (lv' := [(2, .int p1), (0, g_r Y 59), (1, .int x1)]) rfl ?_
  refine g_iconst C (v := 0) dX12_findOpens_5 (q := 6) rfl (by decide) ?_
  refine g_istore_n C dX12_findOpens_6 (q := 7) rfl rfl (by decide) (lv' := [(3, .int 0), (2, .int p1), (0, g_r Y 59), (1, .int x1)]) rfl ?_
  refine g_sub [2, 3, 1, 0] (lv' := [(0, g_r Y 59), (1, .int x1), (2, .int p1), (3, .int 0)]) rfl ?_
  refine t_X12_findOpens_7 C E ?_ 20000000 x1 p1 0 M h
  · intro M h
    try dsimp only at h
    obtain rfl := Option.some.inj h
    exact g_vret C E dX12_findOpens_52
theorem r_X12_findOpens {x1 : Int32} {M : g_M} {p : g_M} (h : f_X12_findOpens x1 M = some p) : g_fr [64, 68, 69] [] M p := by
  unfold f_X12_findOpens at h
  have hf := g_fr.rfl (S := [64, 68, 69]) (T := []) (M := M)
  obtain ⟨p1, -, h⟩ := g_bind h
  refine hf.trans (r_X12_findOpens_7 ?_ 20000000 x1 p1 0 M h)
  · intro M h
    try dsimp only at h
    have hf := g_fr.rfl (S := [64, 68, 69]) (T := []) (M := M)
    obtain rfl := Option.some.inj h
    exact hf
def f_X12_byHanging_13 (M : g_M) : Option (Int32 × g_M) :=
  (f_X12_finding 0 M).bind fun p2 => some (p2.1, p2.2)
set_option maxRecDepth 100000 in
theorem t_X12_byHanging_13 {l : Launch} {X : g_X} {Y : g_Y} {p : Int32 × g_M} (C : g_C l (g_rm (5)) RX12 cX12_byHanging 4 X Y) (E : g_E (some .int) X Y (some (.int p.1)) p.2) (M : g_M) (h : f_X12_byHanging_13 M = some p) : g_G 4 X Y 13 [(0, g_r Y 59)] [] M := by
  unfold f_X12_byHanging_13 at h
  refine g_aload_n C 0 dX12_byHanging_13 (q := 14) rfl rfl rfl ?_
  refine g_iconst C (v := 0) dX12_byHanging_14 (q := 15) rfl (by decide) ?_
  obtain ⟨p2, hp2, h⟩ := g_bind h
  refine g_callV C (k := 59) (as := [.int 0]) (st := []) (m_X12_finding hp2) (g_hR (by decide)) (by decide) (by decide) (gc_59 Y _ _) rfl kM_X12_190 kI_X12_finding kS_X12_finding kN_X12 kC_X12_finding kD_X12_finding rfl (Nat.le_of_ble_eq_true rfl) dX12_byHanging_15 (q := 18) rfl ?_
  show g_G 4 X Y 18 [(0, g_r Y 59)] [.int p2.1] p2.2
  obtain rfl := Option.some.inj h
  exact g_iret C E dX12_byHanging_18
theorem r_X12_byHanging_13 {p : Int32 × g_M} (M : g_M) (h : f_X12_byHanging_13 M = some p) : g_fr [63, 64, 68, 69] [] M p.2 := by
  unfold f_X12_byHanging_13 at h
  have hf := g_fr.rfl (S := [63, 64, 68, 69]) (T := []) (M := M)
  obtain ⟨p2, hp2, h⟩ := g_bind h
  have hf := hf.trans ((r_X12_finding hp2).mono (by decide) (by decide))
  obtain rfl := Option.some.inj h
  exact hf
def f_X12_byHanging (x1 : Int32) (x2 : Int32) (x3 : Int32) (M : g_M) : Option (Int32 × g_M) :=
  (f_X12_isHanging x1 M).bind fun p1 => (if p1 = 0 then (f_X12_byHanging_13 M) else ((if (-1) ≤ x3 then ((f_X12_findOpens x1 M).bind fun p3 => (f_X12_told x2 x3 p3).bind fun p4 => some (p4.1, p4.2)) else (f_X12_byHanging_13 M))))
set_option maxRecDepth 100000 in
theorem m_X12_byHanging {l : Launch} {Y : g_Y} {x1 : Int32} {x2 : Int32} {x3 : Int32} {M : g_M} {p : Int32 × g_M} (h : f_X12_byHanging x1 x2 x3 M = some p) : g_R l Y (5) yX12_byHanging cX12_byHanging 4 (some .int) [g_r Y 59, .int x1, .int x2, .int x3] M (some (.int p.1)) p.2 := by
  unfold f_X12_byHanging at h
  refine g_R_of kP_X12 rfl (Nat.le_of_ble_eq_true rfl) (fun X C E => ?_)
  show g_G 4 X Y 0 [(0, g_r Y 59), (1, .int x1), (2, .int x2), (3, .int x3)] [] M
  refine g_aload_n C 0 dX12_byHanging_0 (q := 1) rfl rfl rfl ?_
  refine g_iload_n C 1 dX12_byHanging_1 (q := 2) rfl rfl rfl ?_
  obtain ⟨p1, hp1, h⟩ := g_bind h
  refine g_callV C (k := 59) (as := [.int x1]) (st := []) (m_X12_isHanging hp1) (g_hR (by decide)) (by decide) (by decide) (gc_59 Y _ _) rfl kM_X12_242 kI_X12_isHanging kS_X12_isHanging kN_X12 kC_X12_isHanging kD_X12_isHanging rfl (Nat.le_of_ble_eq_true rfl) dX12_byHanging_2 (q := 5) rfl ?_
  show g_G 4 X Y 5 [(0, g_r Y 59), (1, .int x1), (2, .int x2), (3, .int x3)] [.int p1] M
  have hif := g_if h
  clear h
  refine g_if_eq C dX12_byHanging_5 (q := 8) (tgt := 13) rfl (by decide) (fun c => ?_) (fun c => ?_)
  · have h := hif.1 c
    clear hif
    refine g_sub [0] (lv' := [(0, g_r Y 59)]) rfl ?_
    exact t_X12_byHanging_13 C E M h
  · have h := hif.2 c
    clear hif
    refine g_iload_n C 3 dX12_byHanging_8 (q := 9) rfl rfl rfl ?_
    refine g_iconst C (v := (-1)) dX12_byHanging_9 (q := 10) rfl (by decide) ?_
    have hif := g_if h
    clear h
    refine g_icmp_ge C dX12_byHanging_10 (q := 13) (tgt := 19) rfl (by decide) (fun c => ?_) (fun c => ?_)
    · have h := hif.1 c
      clear hif
      refine g_aload_n C 0 dX12_byHanging_19 (q := 20) rfl rfl rfl ?_
      refine g_iload_n C 1 dX12_byHanging_20 (q := 21) rfl rfl rfl ?_
      obtain ⟨p3, hp3, h⟩ := g_bind h
      refine g_callV C (k := 59) (as := [.int x1]) (st := []) (m_X12_findOpens hp3) (g_hR (by decide)) (by decide) (by decide) (gc_59 Y _ _) rfl kM_X12_264 kI_X12_findOpens kS_X12_findOpens kN_X12 kC_X12_findOpens kD_X12_findOpens rfl (Nat.le_of_ble_eq_true rfl) dX12_byHanging_21 (q := 24) rfl ?_
      show g_G 4 X Y 24 [(0, g_r Y 59), (1, .int x1), (2, .int x2), (3, .int x3)] [] p3
      refine g_aload_n C 0 dX12_byHanging_24 (q := 25) rfl rfl rfl ?_
      refine g_iload_n C 2 dX12_byHanging_25 (q := 26) rfl rfl rfl ?_
      refine g_iload_n C 3 dX12_byHanging_26 (q := 27) rfl rfl rfl ?_
      obtain ⟨p4, hp4, h⟩ := g_bind h
      refine g_callV C (k := 59) (as := [.int x2, .int x3]) (st := []) (m_X12_told hp4) (g_hR (by decide)) (by decide) (by decide) (gc_59 Y _ _) rfl kM_X12_229 kI_X12_told kS_X12_told kN_X12 kC_X12_told kD_X12_told rfl (Nat.le_of_ble_eq_true rfl) dX12_byHanging_27 (q := 30) rfl ?_
      show g_G 4 X Y 30 [(0, g_r Y 59), (1, .int x1), (2, .int x2), (3, .int x3)] [.int p4.1] p4.2
      obtain rfl := Option.some.inj h
      exact g_iret C E dX12_byHanging_30
    · have h := hif.2 c
      clear hif
      refine g_sub [0] (lv' := [(0, g_r Y 59)]) rfl ?_
      exact t_X12_byHanging_13 C E M h
theorem r_X12_byHanging {x1 : Int32} {x2 : Int32} {x3 : Int32} {M : g_M} {p : Int32 × g_M} (h : f_X12_byHanging x1 x2 x3 M = some p) : g_fr [63, 64, 68, 69] [] M p.2 := by
  unfold f_X12_byHanging at h
  have hf := g_fr.rfl (S := [63, 64, 68, 69]) (T := []) (M := M)
  obtain ⟨p1, -, h⟩ := g_bind h
  rcases g_ifs h with h | h
  · exact hf.trans (r_X12_byHanging_13 M h)
  · rcases g_ifs h with h | h
    · obtain ⟨p3, hp3, h⟩ := g_bind h
      have hf := hf.trans ((r_X12_findOpens hp3).mono (by decide) (by decide))
      obtain ⟨p4, hp4, h⟩ := g_bind h
      have hf := hf.trans ((r_X12_told hp4).mono (by decide) (by decide))
      obtain rfl := Option.some.inj h
      exact hf
    · exact hf.trans (r_X12_byHanging_13 M h)
def f_X12_lets (x1 : Int32) (x2 : Int32) (M : g_M) : Option (Int32 × g_M) :=
  (f_X12_byHanging x1 0 x2 M).bind fun p1 => some (p1.1, p1.2)
set_option maxRecDepth 100000 in
theorem m_X12_lets {l : Launch} {Y : g_Y} {x1 : Int32} {x2 : Int32} {M : g_M} {p : Int32 × g_M} (h : f_X12_lets x1 x2 M = some p) : g_R l Y (6) yX12_lets cX12_lets 3 (some .int) [g_r Y 59, .int x1, .int x2] M (some (.int p.1)) p.2 := by
  unfold f_X12_lets at h
  refine g_R_of kP_X12 rfl (Nat.le_of_ble_eq_true rfl) (fun X C E => ?_)
  show g_G 3 X Y 0 [(0, g_r Y 59), (1, .int x1), (2, .int x2)] [] M
  refine g_aload_n C 0 dX12_lets_0 (q := 1) rfl rfl rfl ?_
  refine g_iload_n C 1 dX12_lets_1 (q := 2) rfl rfl rfl ?_
  refine g_iconst C (v := 0) dX12_lets_2 (q := 3) rfl (by decide) ?_
  refine g_iload_n C 2 dX12_lets_3 (q := 4) rfl rfl rfl ?_
  obtain ⟨p1, hp1, h⟩ := g_bind h
  refine g_callV C (k := 59) (as := [.int x1, .int 0, .int x2]) (st := []) (m_X12_byHanging hp1) (g_hR (by decide)) (by decide) (by decide) (gc_59 Y _ _) rfl kM_X12_267 kI_X12_byHanging kS_X12_byHanging kN_X12 kC_X12_byHanging kD_X12_byHanging rfl (Nat.le_of_ble_eq_true rfl) dX12_lets_4 (q := 7) rfl ?_
  show g_G 3 X Y 7 [(0, g_r Y 59), (1, .int x1), (2, .int x2)] [.int p1.1] p1.2
  obtain rfl := Option.some.inj h
  exact g_iret C E dX12_lets_7
theorem r_X12_lets {x1 : Int32} {x2 : Int32} {M : g_M} {p : Int32 × g_M} (h : f_X12_lets x1 x2 M = some p) : g_fr [63, 64, 68, 69] [] M p.2 := by
  unfold f_X12_lets at h
  have hf := g_fr.rfl (S := [63, 64, 68, 69]) (T := []) (M := M)
  obtain ⟨p1, hp1, h⟩ := g_bind h
  have hf := hf.trans ((r_X12_byHanging hp1).mono (by decide) (by decide))
  obtain rfl := Option.some.inj h
  exact hf
def f_X12_shut (x1 : Int32) (x2 : Int32) (M : g_M) : Option (Int32 × g_M) :=
  (f_X12_byHanging x1 1 x2 M).bind fun p1 => some (p1.1, p1.2)
set_option maxRecDepth 100000 in
theorem m_X12_shut {l : Launch} {Y : g_Y} {x1 : Int32} {x2 : Int32} {M : g_M} {p : Int32 × g_M} (h : f_X12_shut x1 x2 M = some p) : g_R l Y (6) yX12_shut cX12_shut 3 (some .int) [g_r Y 59, .int x1, .int x2] M (some (.int p.1)) p.2 := by
  unfold f_X12_shut at h
  refine g_R_of kP_X12 rfl (Nat.le_of_ble_eq_true rfl) (fun X C E => ?_)
  show g_G 3 X Y 0 [(0, g_r Y 59), (1, .int x1), (2, .int x2)] [] M
  refine g_aload_n C 0 dX12_shut_0 (q := 1) rfl rfl rfl ?_
  refine g_iload_n C 1 dX12_shut_1 (q := 2) rfl rfl rfl ?_
  refine g_iconst C (v := 1) dX12_shut_2 (q := 3) rfl (by decide) ?_
  refine g_iload_n C 2 dX12_shut_3 (q := 4) rfl rfl rfl ?_
  obtain ⟨p1, hp1, h⟩ := g_bind h
  refine g_callV C (k := 59) (as := [.int x1, .int 1, .int x2]) (st := []) (m_X12_byHanging hp1) (g_hR (by decide)) (by decide) (by decide) (gc_59 Y _ _) rfl kM_X12_267 kI_X12_byHanging kS_X12_byHanging kN_X12 kC_X12_byHanging kD_X12_byHanging rfl (Nat.le_of_ble_eq_true rfl) dX12_shut_4 (q := 7) rfl ?_
  show g_G 3 X Y 7 [(0, g_r Y 59), (1, .int x1), (2, .int x2)] [.int p1.1] p1.2
  obtain rfl := Option.some.inj h
  exact g_iret C E dX12_shut_7
theorem r_X12_shut {x1 : Int32} {x2 : Int32} {M : g_M} {p : Int32 × g_M} (h : f_X12_shut x1 x2 M = some p) : g_fr [63, 64, 68, 69] [] M p.2 := by
  unfold f_X12_shut at h
  have hf := g_fr.rfl (S := [63, 64, 68, 69]) (T := []) (M := M)
  obtain ⟨p1, hp1, h⟩ := g_bind h
  have hf := hf.trans ((r_X12_byHanging hp1).mono (by decide) (by decide))
  obtain rfl := Option.some.inj h
  exact hf
def F_X12_unlike_36 (k76 : Int32 → g_M → Option (Int32 × g_M)) (k84 : g_M → Option (Int32 × g_M)) (k : Int32 → Int32 → g_M → Option (Int32 × g_M)) (x2 : Int32) (x3 : Int32) (M : g_M) : Option (Int32 × g_M) :=
  (if 1024 ≤ x3 then (k84 M) else ((f_X12_isPart x3 M).bind fun p4 => (if p4 = 0 then (k x2 (x3 + 1) M) else ((g_ld M 64 1024 x3).bind fun v5 => (if v5 = x2 then ((g_ld M 60 1208 2).bind fun v6 => (f_X12_mayBy v6 x3 M).bind fun p7 => (if p7.1 = x2 then (k x2 (x3 + 1) p7.2) else (k76 x3 p7.2))) else (k x2 (x3 + 1) M))))))
set_option maxRecDepth 100000 in
theorem t_X12_unlike_36 {l : Launch} {X : g_X} {Y : g_Y} {p : Int32 × g_M} {k76 : Int32 → g_M → Option (Int32 × g_M)} {k84 : g_M → Option (Int32 × g_M)} (C : g_C l (g_rm (202)) RX12 cX12_unlike 4 X Y) (E : g_E (some .int) X Y (some (.int p.1)) p.2) (hk76 : ∀ (x3 : Int32) (M : g_M), k76 x3 M = some p → g_G 4 X Y 76 [(3, .int x3)] [] M) (hk84 : ∀ (M : g_M), k84 M = some p → g_G 4 X Y 84 [(0, g_r Y 59)] [] M) (n : Nat) : ∀ (x2 : Int32) (x3 : Int32) (M : g_M), g_lp2 (F_X12_unlike_36 k76 k84) n x2 x3 M = some p → g_G 4 X Y 36 [(0, g_r Y 59), (2, .int x2), (3, .int x3)] [] M := by
  induction n with
  | zero => intro x2 x3 M h; exact (g_nn h).elim
  | succ n ih =>
    intro x2 x3 M h
    have h : F_X12_unlike_36 k76 k84 (g_lp2 (F_X12_unlike_36 k76 k84) n) x2 x3 M = some p := h
    generalize g_lp2 (F_X12_unlike_36 k76 k84) n = k at h ih
    unfold F_X12_unlike_36 at h
    refine g_iload_n C 2 dX12_unlike_36 (q := 37) rfl rfl rfl ?_
    refine g_sipush C (v := 1024) dX12_unlike_37 (q := 40) rfl (by decide) ?_
    have hif := g_if h
    clear h
    refine g_icmp_ge C dX12_unlike_40 (q := 43) (tgt := 84) rfl (by decide) (fun c => ?_) (fun c => ?_)
    · have h := hif.1 c
      clear hif
      refine g_sub [0] (lv' := [(0, g_r Y 59)]) rfl ?_
      exact hk84 M h
    · have h := hif.2 c
      clear hif
      refine g_aload_n C 0 dX12_unlike_43 (q := 44) rfl rfl rfl ?_
      refine g_iload_n C 2 dX12_unlike_44 (q := 45) rfl rfl rfl ?_
      obtain ⟨p4, hp4, h⟩ := g_bind h
      refine g_callV C (k := 59) (as := [.int x3]) (st := []) (m_X12_isPart hp4) (g_hR (by decide)) (by decide) (by decide) (gc_59 Y _ _) rfl kM_X12_271 kI_X12_isPart kS_X12_isPart kN_X12 kC_X12_isPart kD_X12_isPart rfl (Nat.le_of_ble_eq_true rfl) dX12_unlike_45 (q := 48) rfl ?_
      show g_G 4 X Y 48 [(0, g_r Y 59), (2, .int x2), (3, .int x3)] [.int p4] M
      have hif := g_if h
      clear h
      refine g_if_eq C dX12_unlike_48 (q := 51) (tgt := 78) rfl (by decide) (fun c => ?_) (fun c => ?_)
      · have h := hif.1 c
        clear hif
        refine g_iinc C (k := 2) (v := x3 + 1) dX12_unlike_78 (q := 81) rfl rfl rfl (by decide) (lv' := [(3, .int (x3 + 1)), (0, g_r Y 59), (2, .int x2)]) rfl ?_
        refine g_goto C dX12_unlike_81 (tgt := 36) (by decide) ?_
        refine g_sub [1, 2, 0] (lv' := [(0, g_r Y 59), (2, .int x2), (3, .int (x3 + 1))]) rfl ?_
        exact ih x2 (x3 + 1) M h
      · have h := hif.2 c
        clear hif
        refine g_aload_n C 0 dX12_unlike_51 (q := 52) rfl rfl rfl ?_
        refine g_get C (k := 59) (i := 17) (by decide) (gc_59 Y _ _) rfl kU_X12 (by decide) kF_X12_22 rfl dX12_unlike_52 (q := 55) rfl ?_
        refine g_iload_n C 2 dX12_unlike_55 (q := 56) rfl rfl rfl ?_
        obtain ⟨v5, hv5, h⟩ := g_bind h
        refine g_zald C (k := 64) (n := 1024) (by decide) (gc_64 Y _ _) hv5 dX12_unlike_56 (q := 57) rfl ?_
        refine g_iload_n C 1 dX12_unlike_57 (q := 58) rfl rfl rfl ?_
        have hif := g_if h
        clear h
        refine g_icmp_ne C dX12_unlike_58 (q := 61) (tgt := 78) rfl (by decide) (fun c => ?_) (fun c => ?_)
        · have h := hif.2 c
          clear hif
          refine g_iinc C (k := 2) (v := x3 + 1) dX12_unlike_78 (q := 81) rfl rfl rfl (by decide) (lv' := [(3, .int (x3 + 1)), (0, g_r Y 59), (2, .int x2)]) rfl ?_
          refine g_goto C dX12_unlike_81 (tgt := 36) (by decide) ?_
          refine g_sub [1, 2, 0] (lv' := [(0, g_r Y 59), (2, .int x2), (3, .int (x3 + 1))]) rfl ?_
          exact ih x2 (x3 + 1) M h
        · have h := hif.1 c
          clear hif
          refine g_aload_n C 0 dX12_unlike_61 (q := 62) rfl rfl rfl ?_
          refine g_aload_n C 0 dX12_unlike_62 (q := 63) rfl rfl rfl ?_
          refine g_get C (k := 59) (i := 0) (by decide) (gc_59 Y _ _) rfl kU_X12 (by decide) kF_X12_7 rfl dX12_unlike_63 (q := 66) rfl ?_
          refine g_iconst C (v := 2) dX12_unlike_66 (q := 67) rfl (by decide) ?_
          obtain ⟨v6, hv6, h⟩ := g_bind h
          refine g_iald C (k := 60) (n := 1208) (by decide) (gc_60 Y _ _) hv6 dX12_unlike_67 (q := 68) rfl ?_
          refine g_iload_n C 2 dX12_unlike_68 (q := 69) rfl rfl rfl ?_
          obtain ⟨p7, hp7, h⟩ := g_bind h
          refine g_callV C (k := 59) (as := [.int v6, .int x3]) (st := []) (m_X12_mayBy hp7) (g_hR (by decide)) (by decide) (by decide) (gc_59 Y _ _) rfl kM_X12_205 kI_X12_mayBy kS_X12_mayBy kN_X12 kC_X12_mayBy kD_X12_mayBy rfl (Nat.le_of_ble_eq_true rfl) dX12_unlike_69 (q := 72) rfl ?_
          show g_G 4 X Y 72 [(0, g_r Y 59), (2, .int x2), (3, .int x3)] [.int p7.1] p7.2
          refine g_iload_n C 1 dX12_unlike_72 (q := 73) rfl rfl rfl ?_
          have hif := g_if h
          clear h
          refine g_icmp_eq C dX12_unlike_73 (q := 76) (tgt := 78) rfl (by decide) (fun c => ?_) (fun c => ?_)
          · have h := hif.1 c
            clear hif
            refine g_iinc C (k := 2) (v := x3 + 1) dX12_unlike_78 (q := 81) rfl rfl rfl (by decide) (lv' := [(3, .int (x3 + 1)), (0, g_r Y 59), (2, .int x2)]) rfl ?_
            refine g_goto C dX12_unlike_81 (tgt := 36) (by decide) ?_
            refine g_sub [1, 2, 0] (lv' := [(0, g_r Y 59), (2, .int x2), (3, .int (x3 + 1))]) rfl ?_
            exact ih x2 (x3 + 1) p7.2 h
          · have h := hif.2 c
            clear hif
            refine g_sub [2] (lv' := [(3, .int x3)]) rfl ?_
            exact hk76 x3 p7.2 h
theorem r_X12_unlike_36 {p : Int32 × g_M} {k76 : Int32 → g_M → Option (Int32 × g_M)} {k84 : g_M → Option (Int32 × g_M)} (hk76 : ∀ (x3 : Int32) (M : g_M), k76 x3 M = some p → g_fr [63, 64, 68, 69] [(59, 6), (59, 7), (59, 8), (59, 9), (59, 10), (59, 11), (59, 12), (59, 13), (59, 14), (59, 15), (59, 16)] M p.2) (hk84 : ∀ (M : g_M), k84 M = some p → g_fr [63, 64, 68, 69] [(59, 6), (59, 7), (59, 8), (59, 9), (59, 10), (59, 11), (59, 12), (59, 13), (59, 14), (59, 15), (59, 16)] M p.2) (n : Nat) : ∀ (x2 : Int32) (x3 : Int32) (M : g_M), g_lp2 (F_X12_unlike_36 k76 k84) n x2 x3 M = some p → g_fr [63, 64, 68, 69] [(59, 6), (59, 7), (59, 8), (59, 9), (59, 10), (59, 11), (59, 12), (59, 13), (59, 14), (59, 15), (59, 16)] M p.2 := by
  induction n with
  | zero => intro x2 x3 M h; exact (g_nn h).elim
  | succ n ih =>
    intro x2 x3 M h
    have h : F_X12_unlike_36 k76 k84 (g_lp2 (F_X12_unlike_36 k76 k84) n) x2 x3 M = some p := h
    generalize g_lp2 (F_X12_unlike_36 k76 k84) n = k at h ih
    unfold F_X12_unlike_36 at h
    have hf := g_fr.rfl (S := [63, 64, 68, 69]) (T := [(59, 6), (59, 7), (59, 8), (59, 9), (59, 10), (59, 11), (59, 12), (59, 13), (59, 14), (59, 15), (59, 16)]) (M := M)
    rcases g_ifs h with h | h
    · exact hf.trans (hk84 M h)
    · obtain ⟨p4, -, h⟩ := g_bind h
      rcases g_ifs h with h | h
      · exact hf.trans (ih x2 (x3 + 1) M h)
      · obtain ⟨v5, -, h⟩ := g_bind h
        rcases g_ifs h with h | h
        · obtain ⟨v6, -, h⟩ := g_bind h
          obtain ⟨p7, hp7, h⟩ := g_bind h
          have hf := hf.trans ((r_X12_mayBy hp7).mono (by decide) (by decide))
          rcases g_ifs h with h | h
          · exact hf.trans (ih x2 (x3 + 1) p7.2 h)
          · exact hf.trans (hk76 x3 p7.2 h)
        · exact hf.trans (ih x2 (x3 + 1) M h)
def f_X12_unlike (x1 : Int32) (x2 : Int32) (M : g_M) : Option (Int32 × g_M) :=
  (f_X12_isHanging x1 M).bind fun p1 => (if p1 = 0 then ((f_X12_finding 0 M).bind fun p10 => some (p10.1, p10.2)) else ((g_ld M 60 1208 2).bind fun v2 => (if 0 ≤ v2 then ((f_X12_findOpens x1 M).bind fun p3 => g_lp2 (F_X12_unlike_36 (fun (x3 : Int32) (M : g_M) => some (x3, M)) (fun (M : g_M) => (f_X12_finding 3 M).bind fun p8 => some (p8.1, p8.2))) 20000000 x2 0 p3) else ((f_X12_finding 4 M).bind fun p9 => some (p9.1, p9.2)))))
set_option maxRecDepth 100000 in
theorem m_X12_unlike {l : Launch} {Y : g_Y} {x1 : Int32} {x2 : Int32} {M : g_M} {p : Int32 × g_M} (h : f_X12_unlike x1 x2 M = some p) : g_R l Y (202) yX12_unlike cX12_unlike 4 (some .int) [g_r Y 59, .int x1, .int x2] M (some (.int p.1)) p.2 := by
  unfold f_X12_unlike at h
  refine g_R_of kP_X12 rfl (Nat.le_of_ble_eq_true rfl) (fun X C E => ?_)
  show g_G 4 X Y 0 [(0, g_r Y 59), (1, .int x1), (2, .int x2)] [] M
  refine g_aload_n C 0 dX12_unlike_0 (q := 1) rfl rfl rfl ?_
  refine g_iload_n C 1 dX12_unlike_1 (q := 2) rfl rfl rfl ?_
  obtain ⟨p1, hp1, h⟩ := g_bind h
  refine g_callV C (k := 59) (as := [.int x1]) (st := []) (m_X12_isHanging hp1) (g_hR (by decide)) (by decide) (by decide) (gc_59 Y _ _) rfl kM_X12_242 kI_X12_isHanging kS_X12_isHanging kN_X12 kC_X12_isHanging kD_X12_isHanging rfl (Nat.le_of_ble_eq_true rfl) dX12_unlike_2 (q := 5) rfl ?_
  show g_G 4 X Y 5 [(0, g_r Y 59), (1, .int x1), (2, .int x2)] [.int p1] M
  have hif := g_if h
  clear h
  refine g_if_ne C dX12_unlike_5 (q := 8) (tgt := 14) rfl (by decide) (fun c => ?_) (fun c => ?_)
  · have h := hif.2 c
    clear hif
    refine g_aload_n C 0 dX12_unlike_14 (q := 15) rfl rfl rfl ?_
    refine g_get C (k := 59) (i := 0) (by decide) (gc_59 Y _ _) rfl kU_X12 (by decide) kF_X12_7 rfl dX12_unlike_15 (q := 18) rfl ?_
    refine g_iconst C (v := 2) dX12_unlike_18 (q := 19) rfl (by decide) ?_
    obtain ⟨v2, hv2, h⟩ := g_bind h
    refine g_iald C (k := 60) (n := 1208) (by decide) (gc_60 Y _ _) hv2 dX12_unlike_19 (q := 20) rfl ?_
    have hif := g_if h
    clear h
    refine g_if_ge C dX12_unlike_20 (q := 23) (tgt := 29) rfl (by decide) (fun c => ?_) (fun c => ?_)
    · have h := hif.1 c
      clear hif
      refine g_aload_n C 0 dX12_unlike_29 (q := 30) rfl rfl rfl ?_
      refine g_iload_n C 1 dX12_unlike_30 (q := 31) rfl rfl rfl ?_
      obtain ⟨p3, hp3, h⟩ := g_bind h
      refine g_callV C (k := 59) (as := [.int x1]) (st := []) (m_X12_findOpens hp3) (g_hR (by decide)) (by decide) (by decide) (gc_59 Y _ _) rfl kM_X12_264 kI_X12_findOpens kS_X12_findOpens kN_X12 kC_X12_findOpens kD_X12_findOpens rfl (Nat.le_of_ble_eq_true rfl) dX12_unlike_31 (q := 34) rfl ?_
      show g_G 4 X Y 34 [(0, g_r Y 59), (1, .int x1), (2, .int x2)] [] p3
      refine g_iconst C (v := 0) dX12_unlike_34 (q := 35) rfl (by decide) ?_
      refine g_istore_n C dX12_unlike_35 (q := 36) rfl rfl (by decide) (lv' := [(3, .int 0), (0, g_r Y 59), (1, .int x1), (2, .int x2)]) rfl ?_
      refine g_sub [1, 3, 0] (lv' := [(0, g_r Y 59), (2, .int x2), (3, .int 0)]) rfl ?_
      refine t_X12_unlike_36 C E ?_ ?_ 20000000 x2 0 p3 h
      · intro x3 M h
        try dsimp only at h
        refine g_iload_n C 0 dX12_unlike_76 (q := 77) rfl rfl rfl ?_
        obtain rfl := Option.some.inj h
        exact g_iret C E dX12_unlike_77
      · intro M h
        try dsimp only at h
        refine g_aload_n C 0 dX12_unlike_84 (q := 85) rfl rfl rfl ?_
        refine g_iconst C (v := 3) dX12_unlike_85 (q := 86) rfl (by decide) ?_
        obtain ⟨p8, hp8, h⟩ := g_bind h
        refine g_callV C (k := 59) (as := [.int 3]) (st := []) (m_X12_finding hp8) (g_hR (by decide)) (by decide) (by decide) (gc_59 Y _ _) rfl kM_X12_190 kI_X12_finding kS_X12_finding kN_X12 kC_X12_finding kD_X12_finding rfl (Nat.le_of_ble_eq_true rfl) dX12_unlike_86 (q := 89) rfl ?_
        show g_G 4 X Y 89 [(0, g_r Y 59)] [.int p8.1] p8.2
        obtain rfl := Option.some.inj h
        exact g_iret C E dX12_unlike_89
    · have h := hif.2 c
      clear hif
      refine g_aload_n C 0 dX12_unlike_23 (q := 24) rfl rfl rfl ?_
      refine g_iconst C (v := 4) dX12_unlike_24 (q := 25) rfl (by decide) ?_
      obtain ⟨p9, hp9, h⟩ := g_bind h
      refine g_callV C (k := 59) (as := [.int 4]) (st := []) (m_X12_finding hp9) (g_hR (by decide)) (by decide) (by decide) (gc_59 Y _ _) rfl kM_X12_190 kI_X12_finding kS_X12_finding kN_X12 kC_X12_finding kD_X12_finding rfl (Nat.le_of_ble_eq_true rfl) dX12_unlike_25 (q := 28) rfl ?_
      show g_G 4 X Y 28 [(0, g_r Y 59), (1, .int x1), (2, .int x2)] [.int p9.1] p9.2
      obtain rfl := Option.some.inj h
      exact g_iret C E dX12_unlike_28
  · have h := hif.1 c
    clear hif
    refine g_aload_n C 0 dX12_unlike_8 (q := 9) rfl rfl rfl ?_
    refine g_iconst C (v := 0) dX12_unlike_9 (q := 10) rfl (by decide) ?_
    obtain ⟨p10, hp10, h⟩ := g_bind h
    refine g_callV C (k := 59) (as := [.int 0]) (st := []) (m_X12_finding hp10) (g_hR (by decide)) (by decide) (by decide) (gc_59 Y _ _) rfl kM_X12_190 kI_X12_finding kS_X12_finding kN_X12 kC_X12_finding kD_X12_finding rfl (Nat.le_of_ble_eq_true rfl) dX12_unlike_10 (q := 13) rfl ?_
    show g_G 4 X Y 13 [(0, g_r Y 59), (1, .int x1), (2, .int x2)] [.int p10.1] p10.2
    obtain rfl := Option.some.inj h
    exact g_iret C E dX12_unlike_13
theorem r_X12_unlike {x1 : Int32} {x2 : Int32} {M : g_M} {p : Int32 × g_M} (h : f_X12_unlike x1 x2 M = some p) : g_fr [63, 64, 68, 69] [(59, 6), (59, 7), (59, 8), (59, 9), (59, 10), (59, 11), (59, 12), (59, 13), (59, 14), (59, 15), (59, 16)] M p.2 := by
  unfold f_X12_unlike at h
  have hf := g_fr.rfl (S := [63, 64, 68, 69]) (T := [(59, 6), (59, 7), (59, 8), (59, 9), (59, 10), (59, 11), (59, 12), (59, 13), (59, 14), (59, 15), (59, 16)]) (M := M)
  obtain ⟨p1, -, h⟩ := g_bind h
  rcases g_ifs h with h | h
  · obtain ⟨p10, hp10, h⟩ := g_bind h
    have hf := hf.trans ((r_X12_finding hp10).mono (by decide) (by decide))
    obtain rfl := Option.some.inj h
    exact hf
  · obtain ⟨v2, -, h⟩ := g_bind h
    rcases g_ifs h with h | h
    · obtain ⟨p3, hp3, h⟩ := g_bind h
      have hf := hf.trans ((r_X12_findOpens hp3).mono (by decide) (by decide))
      refine hf.trans (r_X12_unlike_36 ?_ ?_ 20000000 x2 0 p3 h)
      · intro x3 M h
        try dsimp only at h
        have hf := g_fr.rfl (S := [63, 64, 68, 69]) (T := [(59, 6), (59, 7), (59, 8), (59, 9), (59, 10), (59, 11), (59, 12), (59, 13), (59, 14), (59, 15), (59, 16)]) (M := M)
        obtain rfl := Option.some.inj h
        exact hf
      · intro M h
        try dsimp only at h
        have hf := g_fr.rfl (S := [63, 64, 68, 69]) (T := [(59, 6), (59, 7), (59, 8), (59, 9), (59, 10), (59, 11), (59, 12), (59, 13), (59, 14), (59, 15), (59, 16)]) (M := M)
        obtain ⟨p8, hp8, h⟩ := g_bind h
        have hf := hf.trans ((r_X12_finding hp8).mono (by decide) (by decide))
        obtain rfl := Option.some.inj h
        exact hf
    · obtain ⟨p9, hp9, h⟩ := g_bind h
      have hf := hf.trans ((r_X12_finding hp9).mono (by decide) (by decide))
      obtain rfl := Option.some.inj h
      exact hf
def f_X12_wrongly (x1 : Int32) (M : g_M) : Option (Int32 × g_M) :=
  (f_X12_unlike x1 1 M).bind fun p1 => some (p1.1, p1.2)
set_option maxRecDepth 100000 in
theorem m_X12_wrongly {l : Launch} {Y : g_Y} {x1 : Int32} {M : g_M} {p : Int32 × g_M} (h : f_X12_wrongly x1 M = some p) : g_R l Y (203) yX12_wrongly cX12_wrongly 2 (some .int) [g_r Y 59, .int x1] M (some (.int p.1)) p.2 := by
  unfold f_X12_wrongly at h
  refine g_R_of kP_X12 rfl (Nat.le_of_ble_eq_true rfl) (fun X C E => ?_)
  show g_G 2 X Y 0 [(0, g_r Y 59), (1, .int x1)] [] M
  refine g_aload_n C 0 dX12_wrongly_0 (q := 1) rfl rfl rfl ?_
  refine g_iload_n C 1 dX12_wrongly_1 (q := 2) rfl rfl rfl ?_
  refine g_iconst C (v := 1) dX12_wrongly_2 (q := 3) rfl (by decide) ?_
  obtain ⟨p1, hp1, h⟩ := g_bind h
  refine g_callV C (k := 59) (as := [.int x1, .int 1]) (st := []) (m_X12_unlike hp1) (g_hR (by decide)) (by decide) (by decide) (gc_59 Y _ _) rfl kM_X12_274 kI_X12_unlike kS_X12_unlike kN_X12 kC_X12_unlike kD_X12_unlike rfl (Nat.le_of_ble_eq_true rfl) dX12_wrongly_3 (q := 6) rfl ?_
  show g_G 2 X Y 6 [(0, g_r Y 59), (1, .int x1)] [.int p1.1] p1.2
  obtain rfl := Option.some.inj h
  exact g_iret C E dX12_wrongly_6
theorem r_X12_wrongly {x1 : Int32} {M : g_M} {p : Int32 × g_M} (h : f_X12_wrongly x1 M = some p) : g_fr [63, 64, 68, 69] [(59, 6), (59, 7), (59, 8), (59, 9), (59, 10), (59, 11), (59, 12), (59, 13), (59, 14), (59, 15), (59, 16)] M p.2 := by
  unfold f_X12_wrongly at h
  have hf := g_fr.rfl (S := [63, 64, 68, 69]) (T := [(59, 6), (59, 7), (59, 8), (59, 9), (59, 10), (59, 11), (59, 12), (59, 13), (59, 14), (59, 15), (59, 16)]) (M := M)
  obtain ⟨p1, hp1, h⟩ := g_bind h
  have hf := hf.trans ((r_X12_unlike hp1).mono (by decide) (by decide))
  obtain rfl := Option.some.inj h
  exact hf
def f_X12_lacks (x1 : Int32) (M : g_M) : Option (Int32 × g_M) :=
  (f_X12_unlike x1 0 M).bind fun p1 => some (p1.1, p1.2)
set_option maxRecDepth 100000 in
theorem m_X12_lacks {l : Launch} {Y : g_Y} {x1 : Int32} {M : g_M} {p : Int32 × g_M} (h : f_X12_lacks x1 M = some p) : g_R l Y (203) yX12_lacks cX12_lacks 2 (some .int) [g_r Y 59, .int x1] M (some (.int p.1)) p.2 := by
  unfold f_X12_lacks at h
  refine g_R_of kP_X12 rfl (Nat.le_of_ble_eq_true rfl) (fun X C E => ?_)
  show g_G 2 X Y 0 [(0, g_r Y 59), (1, .int x1)] [] M
  refine g_aload_n C 0 dX12_lacks_0 (q := 1) rfl rfl rfl ?_
  refine g_iload_n C 1 dX12_lacks_1 (q := 2) rfl rfl rfl ?_
  refine g_iconst C (v := 0) dX12_lacks_2 (q := 3) rfl (by decide) ?_
  obtain ⟨p1, hp1, h⟩ := g_bind h
  refine g_callV C (k := 59) (as := [.int x1, .int 0]) (st := []) (m_X12_unlike hp1) (g_hR (by decide)) (by decide) (by decide) (gc_59 Y _ _) rfl kM_X12_274 kI_X12_unlike kS_X12_unlike kN_X12 kC_X12_unlike kD_X12_unlike rfl (Nat.le_of_ble_eq_true rfl) dX12_lacks_3 (q := 6) rfl ?_
  show g_G 2 X Y 6 [(0, g_r Y 59), (1, .int x1)] [.int p1.1] p1.2
  obtain rfl := Option.some.inj h
  exact g_iret C E dX12_lacks_6
theorem r_X12_lacks {x1 : Int32} {M : g_M} {p : Int32 × g_M} (h : f_X12_lacks x1 M = some p) : g_fr [63, 64, 68, 69] [(59, 6), (59, 7), (59, 8), (59, 9), (59, 10), (59, 11), (59, 12), (59, 13), (59, 14), (59, 15), (59, 16)] M p.2 := by
  unfold f_X12_lacks at h
  have hf := g_fr.rfl (S := [63, 64, 68, 69]) (T := [(59, 6), (59, 7), (59, 8), (59, 9), (59, 10), (59, 11), (59, 12), (59, 13), (59, 14), (59, 15), (59, 16)]) (M := M)
  obtain ⟨p1, hp1, h⟩ := g_bind h
  have hf := hf.trans ((r_X12_unlike hp1).mono (by decide) (by decide))
  obtain rfl := Option.some.inj h
  exact hf
def F_X12_keepOther_2 (k27 : g_M → Option (g_M)) (k : Int32 → g_M → Option (g_M)) (x1 : Int32) (M : g_M) : Option (g_M) :=
  (if 1024 ≤ x1 then (k27 M) else ((g_ld M 64 1024 x1).bind fun v1 => (g_bz v1).bind fun z3 => (g_st M 65 1024 x1 z3).bind fun M2 => k (x1 + 1) M2))
set_option maxRecDepth 100000 in
theorem t_X12_keepOther_2 {l : Launch} {X : g_X} {Y : g_Y} {p : g_M} {k27 : g_M → Option (g_M)} (C : g_C l (g_rm (0)) RX12 cX12_keepOther 2 X Y) (E : g_E none X Y none p) (hk27 : ∀ (M : g_M), k27 M = some p → g_G 2 X Y 27 [] [] M) (n : Nat) : ∀ (x1 : Int32) (M : g_M), g_lp1 (F_X12_keepOther_2 k27) n x1 M = some p → g_G 2 X Y 2 [(0, g_r Y 59), (1, .int x1)] [] M := by
  induction n with
  | zero => intro x1 M h; exact (g_nn h).elim
  | succ n ih =>
    intro x1 M h
    have h : F_X12_keepOther_2 k27 (g_lp1 (F_X12_keepOther_2 k27) n) x1 M = some p := h
    generalize g_lp1 (F_X12_keepOther_2 k27) n = k at h ih
    unfold F_X12_keepOther_2 at h
    refine g_iload_n C 1 dX12_keepOther_2 (q := 3) rfl rfl rfl ?_
    refine g_sipush C (v := 1024) dX12_keepOther_3 (q := 6) rfl (by decide) ?_
    have hif := g_if h
    clear h
    refine g_icmp_ge C dX12_keepOther_6 (q := 9) (tgt := 27) rfl (by decide) (fun c => ?_) (fun c => ?_)
    · have h := hif.1 c
      clear hif
      refine g_sub [] (lv' := []) rfl ?_
      exact hk27 M h
    · have h := hif.2 c
      clear hif
      refine g_aload_n C 0 dX12_keepOther_9 (q := 10) rfl rfl rfl ?_
      refine g_get C (k := 59) (i := 18) (by decide) (gc_59 Y _ _) rfl kU_X12 (by decide) kF_X12_26 rfl dX12_keepOther_10 (q := 13) rfl ?_
      refine g_iload_n C 1 dX12_keepOther_13 (q := 14) rfl rfl rfl ?_
      refine g_aload_n C 0 dX12_keepOther_14 (q := 15) rfl rfl rfl ?_
      refine g_get C (k := 59) (i := 17) (by decide) (gc_59 Y _ _) rfl kU_X12 (by decide) kF_X12_22 rfl dX12_keepOther_15 (q := 18) rfl ?_
      refine g_iload_n C 1 dX12_keepOther_18 (q := 19) rfl rfl rfl ?_
      obtain ⟨v1, hv1, h⟩ := g_bind h
      refine g_zald C (k := 64) (n := 1024) (by decide) (gc_64 Y _ _) hv1 dX12_keepOther_19 (q := 20) rfl ?_
      obtain ⟨z3, hz3, h⟩ := g_bind h
      obtain ⟨M2, hM2, h⟩ := g_bind h
      refine g_zast C (k := 65) (n := 1024) (by decide) (fun a => gc_65 Y a _) hz3 hM2 dX12_keepOther_20 (q := 21) rfl ?_
      refine g_iinc C (k := 1) (v := x1 + 1) dX12_keepOther_21 (q := 24) rfl rfl rfl (by decide) (lv' := [(1, .int (x1 + 1)), (0, g_r Y 59)]) rfl ?_
      refine g_goto C dX12_keepOther_24 (tgt := 2) (by decide) ?_
      refine g_sub [1, 0] (lv' := [(0, g_r Y 59), (1, .int (x1 + 1))]) rfl ?_
      exact ih (x1 + 1) M2 h
theorem r_X12_keepOther_2 {p : g_M} {k27 : g_M → Option (g_M)} (hk27 : ∀ (M : g_M), k27 M = some p → g_fr [65] [] M p) (n : Nat) : ∀ (x1 : Int32) (M : g_M), g_lp1 (F_X12_keepOther_2 k27) n x1 M = some p → g_fr [65] [] M p := by
  induction n with
  | zero => intro x1 M h; exact (g_nn h).elim
  | succ n ih =>
    intro x1 M h
    have h : F_X12_keepOther_2 k27 (g_lp1 (F_X12_keepOther_2 k27) n) x1 M = some p := h
    generalize g_lp1 (F_X12_keepOther_2 k27) n = k at h ih
    unfold F_X12_keepOther_2 at h
    have hf := g_fr.rfl (S := [65]) (T := []) (M := M)
    rcases g_ifs h with h | h
    · exact hf.trans (hk27 M h)
    · obtain ⟨v1, -, h⟩ := g_bind h
      obtain ⟨z3, -, h⟩ := g_bind h
      obtain ⟨M2, hM2, h⟩ := g_bind h
      have hf := hf.st hM2 (by decide)
      exact hf.trans (ih (x1 + 1) M2 h)
def f_X12_keepOther (M : g_M) : Option (g_M) :=
  g_lp1 (F_X12_keepOther_2 (fun (M : g_M) => some M)) 20000000 0 M
set_option maxRecDepth 100000 in
theorem m_X12_keepOther {l : Launch} {Y : g_Y} {M : g_M} {p : g_M} (h : f_X12_keepOther M = some p) : g_R l Y (0) yX12_keepOther cX12_keepOther 2 none [g_r Y 59] M none p := by
  unfold f_X12_keepOther at h
  refine g_R_of kP_X12 rfl (Nat.le_of_ble_eq_true rfl) (fun X C E => ?_)
  show g_G 2 X Y 0 [(0, g_r Y 59)] [] M
  refine g_iconst C (v := 0) dX12_keepOther_0 (q := 1) rfl (by decide) ?_
  refine g_istore_n C dX12_keepOther_1 (q := 2) rfl rfl (by decide) (lv' := [(1, .int 0), (0, g_r Y 59)]) rfl ?_
  refine g_sub [1, 0] (lv' := [(0, g_r Y 59), (1, .int 0)]) rfl ?_
  refine t_X12_keepOther_2 C E ?_ 20000000 0 M h
  · intro M h
    try dsimp only at h
    obtain rfl := Option.some.inj h
    exact g_vret C E dX12_keepOther_27
theorem r_X12_keepOther {M : g_M} {p : g_M} (h : f_X12_keepOther M = some p) : g_fr [65] [] M p := by
  unfold f_X12_keepOther at h
  have hf := g_fr.rfl (S := [65]) (T := []) (M := M)
  refine hf.trans (r_X12_keepOther_2 ?_ 20000000 0 M h)
  · intro M h
    try dsimp only at h
    have hf := g_fr.rfl (S := [65]) (T := []) (M := M)
    obtain rfl := Option.some.inj h
    exact hf
def F_X12_isAsOther_4 (M : g_M) (k42 : Int32 → Option (Int32)) (k : Int32 → Int32 → Option (Int32)) (x1 : Int32) (x2 : Int32) : Option (Int32) :=
  (if 1024 ≤ x2 then (k42 x1) else ((if x1 = 0 then (k 0 (x2 + 1)) else ((g_ld M 65 1024 x2).bind fun v1 => (g_ld M 64 1024 x2).bind fun v2 => (if v1 = v2 then (k 1 (x2 + 1)) else (k 0 (x2 + 1)))))))
set_option maxRecDepth 100000 in
theorem t_X12_isAsOther_4 {l : Launch} {X : g_X} {Y : g_Y} {p : Int32} {M : g_M} {k42 : Int32 → Option (Int32)} (C : g_C l (g_rm (0)) RX12 cX12_isAsOther 3 X Y) (E : g_E (some .boolean) X Y (some (.int p)) M) (hk42 : ∀ (x1 : Int32), k42 x1 = some p → g_G 3 X Y 42 [(1, .int x1)] [] M) (n : Nat) : ∀ (x1 : Int32) (x2 : Int32), g_lq2 (F_X12_isAsOther_4 M k42) n x1 x2 = some p → g_G 3 X Y 4 [(0, g_r Y 59), (1, .int x1), (2, .int x2)] [] M := by
  induction n with
  | zero => intro x1 x2 h; exact (g_nn h).elim
  | succ n ih =>
    intro x1 x2 h
    have h : F_X12_isAsOther_4 M k42 (g_lq2 (F_X12_isAsOther_4 M k42) n) x1 x2 = some p := h
    generalize g_lq2 (F_X12_isAsOther_4 M k42) n = k at h ih
    unfold F_X12_isAsOther_4 at h
    refine g_iload_n C 2 dX12_isAsOther_4 (q := 5) rfl rfl rfl ?_
    refine g_sipush C (v := 1024) dX12_isAsOther_5 (q := 8) rfl (by decide) ?_
    have hif := g_if h
    clear h
    refine g_icmp_ge C dX12_isAsOther_8 (q := 11) (tgt := 42) rfl (by decide) (fun c => ?_) (fun c => ?_)
    · have h := hif.1 c
      clear hif
      refine g_sub [1] (lv' := [(1, .int x1)]) rfl ?_
      exact hk42 x1 h
    · have h := hif.2 c
      clear hif
      refine g_iload_n C 1 dX12_isAsOther_11 (q := 12) rfl rfl rfl ?_
      have hif := g_if h
      clear h
      refine g_if_eq C dX12_isAsOther_12 (q := 15) (tgt := 34) rfl (by decide) (fun c => ?_) (fun c => ?_)
      · have h := hif.1 c
        clear hif
        refine g_iconst C (v := 0) dX12_isAsOther_34 (q := 35) rfl (by decide) ?_
        refine g_istore_n C dX12_isAsOther_35 (q := 36) rfl rfl (by decide) (lv' := [(1, .int 0), (0, g_r Y 59), (2, .int x2)]) rfl ?_
        refine g_iinc C (k := 2) (v := x2 + 1) dX12_isAsOther_36 (q := 39) rfl rfl rfl (by decide) (lv' := [(2, .int (x2 + 1)), (1, .int 0), (0, g_r Y 59)]) rfl ?_
        refine g_goto C dX12_isAsOther_39 (tgt := 4) (by decide) ?_
        refine g_sub [2, 1, 0] (lv' := [(0, g_r Y 59), (1, .int 0), (2, .int (x2 + 1))]) rfl ?_
        exact ih 0 (x2 + 1) h
      · have h := hif.2 c
        clear hif
        refine g_aload_n C 0 dX12_isAsOther_15 (q := 16) rfl rfl rfl ?_
        refine g_get C (k := 59) (i := 18) (by decide) (gc_59 Y _ _) rfl kU_X12 (by decide) kF_X12_26 rfl dX12_isAsOther_16 (q := 19) rfl ?_
        refine g_iload_n C 2 dX12_isAsOther_19 (q := 20) rfl rfl rfl ?_
        obtain ⟨v1, hv1, h⟩ := g_bind h
        refine g_zald C (k := 65) (n := 1024) (by decide) (gc_65 Y _ _) hv1 dX12_isAsOther_20 (q := 21) rfl ?_
        refine g_aload_n C 0 dX12_isAsOther_21 (q := 22) rfl rfl rfl ?_
        refine g_get C (k := 59) (i := 17) (by decide) (gc_59 Y _ _) rfl kU_X12 (by decide) kF_X12_22 rfl dX12_isAsOther_22 (q := 25) rfl ?_
        refine g_iload_n C 2 dX12_isAsOther_25 (q := 26) rfl rfl rfl ?_
        obtain ⟨v2, hv2, h⟩ := g_bind h
        refine g_zald C (k := 64) (n := 1024) (by decide) (gc_64 Y _ _) hv2 dX12_isAsOther_26 (q := 27) rfl ?_
        have hif := g_if h
        clear h
        refine g_icmp_ne C dX12_isAsOther_27 (q := 30) (tgt := 34) rfl (by decide) (fun c => ?_) (fun c => ?_)
        · have h := hif.2 c
          clear hif
          refine g_iconst C (v := 0) dX12_isAsOther_34 (q := 35) rfl (by decide) ?_
          refine g_istore_n C dX12_isAsOther_35 (q := 36) rfl rfl (by decide) (lv' := [(1, .int 0), (0, g_r Y 59), (2, .int x2)]) rfl ?_
          refine g_iinc C (k := 2) (v := x2 + 1) dX12_isAsOther_36 (q := 39) rfl rfl rfl (by decide) (lv' := [(2, .int (x2 + 1)), (1, .int 0), (0, g_r Y 59)]) rfl ?_
          refine g_goto C dX12_isAsOther_39 (tgt := 4) (by decide) ?_
          refine g_sub [2, 1, 0] (lv' := [(0, g_r Y 59), (1, .int 0), (2, .int (x2 + 1))]) rfl ?_
          exact ih 0 (x2 + 1) h
        · have h := hif.1 c
          clear hif
          refine g_iconst C (v := 1) dX12_isAsOther_30 (q := 31) rfl (by decide) ?_
          refine g_goto C dX12_isAsOther_31 (tgt := 35) (by decide) ?_
          refine g_istore_n C dX12_isAsOther_35 (q := 36) rfl rfl (by decide) (lv' := [(1, .int 1), (0, g_r Y 59), (2, .int x2)]) rfl ?_
          refine g_iinc C (k := 2) (v := x2 + 1) dX12_isAsOther_36 (q := 39) rfl rfl rfl (by decide) (lv' := [(2, .int (x2 + 1)), (1, .int 1), (0, g_r Y 59)]) rfl ?_
          refine g_goto C dX12_isAsOther_39 (tgt := 4) (by decide) ?_
          refine g_sub [2, 1, 0] (lv' := [(0, g_r Y 59), (1, .int 1), (2, .int (x2 + 1))]) rfl ?_
          exact ih 1 (x2 + 1) h
def f_X12_isAsOther (M : g_M) : Option (Int32) :=
  g_lq2 (F_X12_isAsOther_4 M (fun (x1 : Int32) => (g_bz x1).bind fun z3 => some z3)) 20000000 1 0
set_option maxRecDepth 100000 in
theorem m_X12_isAsOther {l : Launch} {Y : g_Y} {M : g_M} {p : Int32} (h : f_X12_isAsOther M = some p) : g_R l Y (0) yX12_isAsOther cX12_isAsOther 3 (some .boolean) [g_r Y 59] M (some (.int p)) M := by
  unfold f_X12_isAsOther at h
  refine g_R_of kP_X12 rfl (Nat.le_of_ble_eq_true rfl) (fun X C E => ?_)
  show g_G 3 X Y 0 [(0, g_r Y 59)] [] M
  refine g_iconst C (v := 1) dX12_isAsOther_0 (q := 1) rfl (by decide) ?_
  refine g_istore_n C dX12_isAsOther_1 (q := 2) rfl rfl (by decide) (lv' := [(1, .int 1), (0, g_r Y 59)]) rfl ?_
  refine g_iconst C (v := 0) dX12_isAsOther_2 (q := 3) rfl (by decide) ?_
  refine g_istore_n C dX12_isAsOther_3 (q := 4) rfl rfl (by decide) (lv' := [(2, .int 0), (1, .int 1), (0, g_r Y 59)]) rfl ?_
  refine g_sub [2, 1, 0] (lv' := [(0, g_r Y 59), (1, .int 1), (2, .int 0)]) rfl ?_
  refine t_X12_isAsOther_4 C E ?_ 20000000 1 0 h
  · intro x1 h
    try dsimp only at h
    refine g_iload_n C 0 dX12_isAsOther_42 (q := 43) rfl rfl rfl ?_
    obtain ⟨z3, hz3, h⟩ := g_bind h
    obtain rfl := Option.some.inj h
    exact g_zret C hz3 E dX12_isAsOther_43
def f_X12_same_16 (M : g_M) : Option (Int32 × g_M) :=
  (f_X12_finding 0 M).bind fun p2 => some (p2.1, p2.2)
set_option maxRecDepth 100000 in
theorem t_X12_same_16 {l : Launch} {X : g_X} {Y : g_Y} {p : Int32 × g_M} (C : g_C l (g_rm (5)) RX12 cX12_same 3 X Y) (E : g_E (some .int) X Y (some (.int p.1)) p.2) (M : g_M) (h : f_X12_same_16 M = some p) : g_G 3 X Y 16 [(0, g_r Y 59)] [] M := by
  unfold f_X12_same_16 at h
  refine g_aload_n C 0 dX12_same_16 (q := 17) rfl rfl rfl ?_
  refine g_iconst C (v := 0) dX12_same_17 (q := 18) rfl (by decide) ?_
  obtain ⟨p2, hp2, h⟩ := g_bind h
  refine g_callV C (k := 59) (as := [.int 0]) (st := []) (m_X12_finding hp2) (g_hR (by decide)) (by decide) (by decide) (gc_59 Y _ _) rfl kM_X12_190 kI_X12_finding kS_X12_finding kN_X12 kC_X12_finding kD_X12_finding rfl (Nat.le_of_ble_eq_true rfl) dX12_same_18 (q := 21) rfl ?_
  show g_G 3 X Y 21 [(0, g_r Y 59)] [.int p2.1] p2.2
  obtain rfl := Option.some.inj h
  exact g_iret C E dX12_same_21
theorem r_X12_same_16 {p : Int32 × g_M} (M : g_M) (h : f_X12_same_16 M = some p) : g_fr [63, 64, 65, 68, 69] [] M p.2 := by
  unfold f_X12_same_16 at h
  have hf := g_fr.rfl (S := [63, 64, 65, 68, 69]) (T := []) (M := M)
  obtain ⟨p2, hp2, h⟩ := g_bind h
  have hf := hf.trans ((r_X12_finding hp2).mono (by decide) (by decide))
  obtain rfl := Option.some.inj h
  exact hf
def f_X12_same (x1 : Int32) (x2 : Int32) (M : g_M) : Option (Int32 × g_M) :=
  (f_X12_isHanging x1 M).bind fun p1 => (if p1 = 0 then (f_X12_same_16 M) else ((f_X12_isHanging x2 M).bind fun p3 => (if p3 = 0 then (f_X12_same_16 M) else ((f_X12_findOpens x1 M).bind fun p4 => (f_X12_keepOther p4).bind fun p5 => (f_X12_findOpens x2 p5).bind fun p6 => (f_X12_isAsOther p6).bind fun p7 => (if p7 = 0 then (some (0, p6)) else (some (1, p6)))))))
set_option maxRecDepth 100000 in
theorem m_X12_same {l : Launch} {Y : g_Y} {x1 : Int32} {x2 : Int32} {M : g_M} {p : Int32 × g_M} (h : f_X12_same x1 x2 M = some p) : g_R l Y (5) yX12_same cX12_same 3 (some .int) [g_r Y 59, .int x1, .int x2] M (some (.int p.1)) p.2 := by
  unfold f_X12_same at h
  refine g_R_of kP_X12 rfl (Nat.le_of_ble_eq_true rfl) (fun X C E => ?_)
  show g_G 3 X Y 0 [(0, g_r Y 59), (1, .int x1), (2, .int x2)] [] M
  refine g_aload_n C 0 dX12_same_0 (q := 1) rfl rfl rfl ?_
  refine g_iload_n C 1 dX12_same_1 (q := 2) rfl rfl rfl ?_
  obtain ⟨p1, hp1, h⟩ := g_bind h
  refine g_callV C (k := 59) (as := [.int x1]) (st := []) (m_X12_isHanging hp1) (g_hR (by decide)) (by decide) (by decide) (gc_59 Y _ _) rfl kM_X12_242 kI_X12_isHanging kS_X12_isHanging kN_X12 kC_X12_isHanging kD_X12_isHanging rfl (Nat.le_of_ble_eq_true rfl) dX12_same_2 (q := 5) rfl ?_
  show g_G 3 X Y 5 [(0, g_r Y 59), (1, .int x1), (2, .int x2)] [.int p1] M
  have hif := g_if h
  clear h
  refine g_if_eq C dX12_same_5 (q := 8) (tgt := 16) rfl (by decide) (fun c => ?_) (fun c => ?_)
  · have h := hif.1 c
    clear hif
    refine g_sub [0] (lv' := [(0, g_r Y 59)]) rfl ?_
    exact t_X12_same_16 C E M h
  · have h := hif.2 c
    clear hif
    refine g_aload_n C 0 dX12_same_8 (q := 9) rfl rfl rfl ?_
    refine g_iload_n C 2 dX12_same_9 (q := 10) rfl rfl rfl ?_
    obtain ⟨p3, hp3, h⟩ := g_bind h
    refine g_callV C (k := 59) (as := [.int x2]) (st := []) (m_X12_isHanging hp3) (g_hR (by decide)) (by decide) (by decide) (gc_59 Y _ _) rfl kM_X12_242 kI_X12_isHanging kS_X12_isHanging kN_X12 kC_X12_isHanging kD_X12_isHanging rfl (Nat.le_of_ble_eq_true rfl) dX12_same_10 (q := 13) rfl ?_
    show g_G 3 X Y 13 [(0, g_r Y 59), (1, .int x1), (2, .int x2)] [.int p3] M
    have hif := g_if h
    clear h
    refine g_if_ne C dX12_same_13 (q := 16) (tgt := 22) rfl (by decide) (fun c => ?_) (fun c => ?_)
    · have h := hif.2 c
      clear hif
      refine g_aload_n C 0 dX12_same_22 (q := 23) rfl rfl rfl ?_
      refine g_iload_n C 1 dX12_same_23 (q := 24) rfl rfl rfl ?_
      obtain ⟨p4, hp4, h⟩ := g_bind h
      refine g_callV C (k := 59) (as := [.int x1]) (st := []) (m_X12_findOpens hp4) (g_hR (by decide)) (by decide) (by decide) (gc_59 Y _ _) rfl kM_X12_264 kI_X12_findOpens kS_X12_findOpens kN_X12 kC_X12_findOpens kD_X12_findOpens rfl (Nat.le_of_ble_eq_true rfl) dX12_same_24 (q := 27) rfl ?_
      show g_G 3 X Y 27 [(0, g_r Y 59), (1, .int x1), (2, .int x2)] [] p4
      refine g_aload_n C 0 dX12_same_27 (q := 28) rfl rfl rfl ?_
      obtain ⟨p5, hp5, h⟩ := g_bind h
      refine g_callV C (k := 59) (as := []) (st := []) (m_X12_keepOther hp5) (g_hR (by decide)) (by decide) (by decide) (gc_59 Y _ _) rfl kM_X12_278 kI_X12_keepOther kS_X12_keepOther kN_X12 kC_X12_keepOther kD_X12_keepOther rfl (Nat.le_of_ble_eq_true rfl) dX12_same_28 (q := 31) rfl ?_
      show g_G 3 X Y 31 [(0, g_r Y 59), (1, .int x1), (2, .int x2)] [] p5
      refine g_aload_n C 0 dX12_same_31 (q := 32) rfl rfl rfl ?_
      refine g_iload_n C 2 dX12_same_32 (q := 33) rfl rfl rfl ?_
      obtain ⟨p6, hp6, h⟩ := g_bind h
      refine g_callV C (k := 59) (as := [.int x2]) (st := []) (m_X12_findOpens hp6) (g_hR (by decide)) (by decide) (by decide) (gc_59 Y _ _) rfl kM_X12_264 kI_X12_findOpens kS_X12_findOpens kN_X12 kC_X12_findOpens kD_X12_findOpens rfl (Nat.le_of_ble_eq_true rfl) dX12_same_33 (q := 36) rfl ?_
      show g_G 3 X Y 36 [(0, g_r Y 59), (1, .int x1), (2, .int x2)] [] p6
      refine g_aload_n C 0 dX12_same_36 (q := 37) rfl rfl rfl ?_
      obtain ⟨p7, hp7, h⟩ := g_bind h
      refine g_callV C (k := 59) (as := []) (st := []) (m_X12_isAsOther hp7) (g_hR (by decide)) (by decide) (by decide) (gc_59 Y _ _) rfl kM_X12_281 kI_X12_isAsOther kS_X12_isAsOther kN_X12 kC_X12_isAsOther kD_X12_isAsOther rfl (Nat.le_of_ble_eq_true rfl) dX12_same_37 (q := 40) rfl ?_
      show g_G 3 X Y 40 [(0, g_r Y 59), (1, .int x1), (2, .int x2)] [.int p7] p6
      have hif := g_if h
      clear h
      refine g_if_eq C dX12_same_40 (q := 43) (tgt := 47) rfl (by decide) (fun c => ?_) (fun c => ?_)
      · have h := hif.1 c
        clear hif
        refine g_iconst C (v := 0) dX12_same_47 (q := 48) rfl (by decide) ?_
        obtain rfl := Option.some.inj h
        exact g_iret C E dX12_same_48
      · have h := hif.2 c
        clear hif
        refine g_iconst C (v := 1) dX12_same_43 (q := 44) rfl (by decide) ?_
        refine g_goto C dX12_same_44 (tgt := 48) (by decide) ?_
        obtain rfl := Option.some.inj h
        exact g_iret C E dX12_same_48
    · have h := hif.1 c
      clear hif
      refine g_sub [0] (lv' := [(0, g_r Y 59)]) rfl ?_
      exact t_X12_same_16 C E M h
theorem r_X12_same {x1 : Int32} {x2 : Int32} {M : g_M} {p : Int32 × g_M} (h : f_X12_same x1 x2 M = some p) : g_fr [63, 64, 65, 68, 69] [] M p.2 := by
  unfold f_X12_same at h
  have hf := g_fr.rfl (S := [63, 64, 65, 68, 69]) (T := []) (M := M)
  obtain ⟨p1, -, h⟩ := g_bind h
  rcases g_ifs h with h | h
  · exact hf.trans (r_X12_same_16 M h)
  · obtain ⟨p3, -, h⟩ := g_bind h
    rcases g_ifs h with h | h
    · exact hf.trans (r_X12_same_16 M h)
    · obtain ⟨p4, hp4, h⟩ := g_bind h
      have hf := hf.trans ((r_X12_findOpens hp4).mono (by decide) (by decide))
      obtain ⟨p5, hp5, h⟩ := g_bind h
      have hf := hf.trans ((r_X12_keepOther hp5).mono (by decide) (by decide))
      obtain ⟨p6, hp6, h⟩ := g_bind h
      have hf := hf.trans ((r_X12_findOpens hp6).mono (by decide) (by decide))
      obtain ⟨p7, -, h⟩ := g_bind h
      rcases g_ifs h with h | h
      · obtain rfl := Option.some.inj h
        exact hf
      · obtain rfl := Option.some.inj h
        exact hf
def f_X12_bears_25 (M : g_M) : Option (Int32 × g_M) :=
  (f_X12_finding 0 M).bind fun p3 => some (p3.1, p3.2)
set_option maxRecDepth 100000 in
theorem t_X12_bears_25 {l : Launch} {X : g_X} {Y : g_Y} {p : Int32 × g_M} (C : g_C l (g_rm (5)) RX12 cX12_bears 7 X Y) (E : g_E (some .int) X Y (some (.int p.1)) p.2) (M : g_M) (h : f_X12_bears_25 M = some p) : g_G 7 X Y 25 [(0, g_r Y 59)] [] M := by
  unfold f_X12_bears_25 at h
  refine g_aload_n C 0 dX12_bears_25 (q := 26) rfl rfl rfl ?_
  refine g_iconst C (v := 0) dX12_bears_26 (q := 27) rfl (by decide) ?_
  obtain ⟨p3, hp3, h⟩ := g_bind h
  refine g_callV C (k := 59) (as := [.int 0]) (st := []) (m_X12_finding hp3) (g_hR (by decide)) (by decide) (by decide) (gc_59 Y _ _) rfl kM_X12_190 kI_X12_finding kS_X12_finding kN_X12 kC_X12_finding kD_X12_finding rfl (Nat.le_of_ble_eq_true rfl) dX12_bears_27 (q := 30) rfl ?_
  show g_G 7 X Y 30 [(0, g_r Y 59)] [.int p3.1] p3.2
  obtain rfl := Option.some.inj h
  exact g_iret C E dX12_bears_30
theorem r_X12_bears_25 {p : Int32 × g_M} (M : g_M) (h : f_X12_bears_25 M = some p) : g_fr [63, 64, 68, 69] [] M p.2 := by
  unfold f_X12_bears_25 at h
  have hf := g_fr.rfl (S := [63, 64, 68, 69]) (T := []) (M := M)
  obtain ⟨p3, hp3, h⟩ := g_bind h
  have hf := hf.trans ((r_X12_finding hp3).mono (by decide) (by decide))
  obtain rfl := Option.some.inj h
  exact hf
def f_X12_bears_78 (k : Int32 → Int32 → Int32 → Int32 → g_M → Option (Int32 × g_M)) (x2 : Int32) (x3 : Int32) (x4 : Int32) (x5 : Int32) (s0 : Int32) (M : g_M) : Option (Int32 × g_M) :=
  (if x4 = 0 then (k x2 x3 0 (x5 + 1) M) else ((if s0 = 0 then (k x2 x3 1 (x5 + 1) M) else ((g_ld M 64 1024 x5).bind fun v8 => (if v8 = 0 then (k x2 x3 0 (x5 + 1) M) else (k x2 x3 1 (x5 + 1) M))))))
set_option maxRecDepth 100000 in
theorem t_X12_bears_78 {l : Launch} {X : g_X} {Y : g_Y} {p : Int32 × g_M} {k : Int32 → Int32 → Int32 → Int32 → g_M → Option (Int32 × g_M)} (C : g_C l (g_rm (5)) RX12 cX12_bears 7 X Y) (E : g_E (some .int) X Y (some (.int p.1)) p.2) (ih : ∀ (x2 : Int32) (x3 : Int32) (x4 : Int32) (x5 : Int32) (M : g_M), k x2 x3 x4 x5 M = some p → g_G 7 X Y 42 [(0, g_r Y 59), (2, .int x2), (3, .int x3), (4, .int x4), (5, .int x5)] [] M) (x2 : Int32) (x3 : Int32) (x4 : Int32) (x5 : Int32) (s0 : Int32) (M : g_M) (h : f_X12_bears_78 k x2 x3 x4 x5 s0 M = some p) : g_G 7 X Y 78 [(0, g_r Y 59), (2, .int x2), (3, .int x3), (4, .int x4), (5, .int x5)] [.int s0] M := by
  unfold f_X12_bears_78 at h
  refine g_istore C dX12_bears_78 (q := 80) rfl (by decide) (lv' := [(6, .int s0), (0, g_r Y 59), (2, .int x2), (3, .int x3), (4, .int x4), (5, .int x5)]) rfl ?_
  refine g_iload C 4 dX12_bears_80 (q := 82) rfl rfl ?_
  have hif := g_if h
  clear h
  refine g_if_eq C dX12_bears_82 (q := 85) (tgt := 104) rfl (by decide) (fun c => ?_) (fun c => ?_)
  · have h := hif.1 c
    clear hif
    refine g_iconst C (v := 0) dX12_bears_104 (q := 105) rfl (by decide) ?_
    refine g_istore C dX12_bears_105 (q := 107) rfl (by decide) (lv' := [(4, .int 0), (6, .int s0), (0, g_r Y 59), (2, .int x2), (3, .int x3), (5, .int x5)]) rfl ?_
    refine g_iinc C (k := 5) (v := x5 + 1) dX12_bears_107 (q := 110) rfl rfl rfl (by decide) (lv' := [(5, .int (x5 + 1)), (4, .int 0), (6, .int s0), (0, g_r Y 59), (2, .int x2), (3, .int x3)]) rfl ?_
    refine g_goto C dX12_bears_110 (tgt := 42) (by decide) ?_
    refine g_sub [3, 4, 5, 1, 0] (lv' := [(0, g_r Y 59), (2, .int x2), (3, .int x3), (4, .int 0), (5, .int (x5 + 1))]) rfl ?_
    exact ih x2 x3 0 (x5 + 1) M h
  · have h := hif.2 c
    clear hif
    refine g_iload C 0 dX12_bears_85 (q := 87) rfl rfl ?_
    have hif := g_if h
    clear h
    refine g_if_eq C dX12_bears_87 (q := 90) (tgt := 100) rfl (by decide) (fun c => ?_) (fun c => ?_)
    · have h := hif.1 c
      clear hif
      refine g_iconst C (v := 1) dX12_bears_100 (q := 101) rfl (by decide) ?_
      refine g_goto C dX12_bears_101 (tgt := 105) (by decide) ?_
      refine g_istore C dX12_bears_105 (q := 107) rfl (by decide) (lv' := [(4, .int 1), (6, .int s0), (0, g_r Y 59), (2, .int x2), (3, .int x3), (5, .int x5)]) rfl ?_
      refine g_iinc C (k := 5) (v := x5 + 1) dX12_bears_107 (q := 110) rfl rfl rfl (by decide) (lv' := [(5, .int (x5 + 1)), (4, .int 1), (6, .int s0), (0, g_r Y 59), (2, .int x2), (3, .int x3)]) rfl ?_
      refine g_goto C dX12_bears_110 (tgt := 42) (by decide) ?_
      refine g_sub [3, 4, 5, 1, 0] (lv' := [(0, g_r Y 59), (2, .int x2), (3, .int x3), (4, .int 1), (5, .int (x5 + 1))]) rfl ?_
      exact ih x2 x3 1 (x5 + 1) M h
    · have h := hif.2 c
      clear hif
      refine g_aload_n C 1 dX12_bears_90 (q := 91) rfl rfl rfl ?_
      refine g_get C (k := 59) (i := 17) (by decide) (gc_59 Y _ _) rfl kU_X12 (by decide) kF_X12_22 rfl dX12_bears_91 (q := 94) rfl ?_
      refine g_iload C 5 dX12_bears_94 (q := 96) rfl rfl ?_
      obtain ⟨v8, hv8, h⟩ := g_bind h
      refine g_zald C (k := 64) (n := 1024) (by decide) (gc_64 Y _ _) hv8 dX12_bears_96 (q := 97) rfl ?_
      have hif := g_if h
      clear h
      refine g_if_eq C dX12_bears_97 (q := 100) (tgt := 104) rfl (by decide) (fun c => ?_) (fun c => ?_)
      · have h := hif.1 c
        clear hif
        refine g_iconst C (v := 0) dX12_bears_104 (q := 105) rfl (by decide) ?_
        refine g_istore C dX12_bears_105 (q := 107) rfl (by decide) (lv' := [(4, .int 0), (6, .int s0), (0, g_r Y 59), (2, .int x2), (3, .int x3), (5, .int x5)]) rfl ?_
        refine g_iinc C (k := 5) (v := x5 + 1) dX12_bears_107 (q := 110) rfl rfl rfl (by decide) (lv' := [(5, .int (x5 + 1)), (4, .int 0), (6, .int s0), (0, g_r Y 59), (2, .int x2), (3, .int x3)]) rfl ?_
        refine g_goto C dX12_bears_110 (tgt := 42) (by decide) ?_
        refine g_sub [3, 4, 5, 1, 0] (lv' := [(0, g_r Y 59), (2, .int x2), (3, .int x3), (4, .int 0), (5, .int (x5 + 1))]) rfl ?_
        exact ih x2 x3 0 (x5 + 1) M h
      · have h := hif.2 c
        clear hif
        refine g_iconst C (v := 1) dX12_bears_100 (q := 101) rfl (by decide) ?_
        refine g_goto C dX12_bears_101 (tgt := 105) (by decide) ?_
        refine g_istore C dX12_bears_105 (q := 107) rfl (by decide) (lv' := [(4, .int 1), (6, .int s0), (0, g_r Y 59), (2, .int x2), (3, .int x3), (5, .int x5)]) rfl ?_
        refine g_iinc C (k := 5) (v := x5 + 1) dX12_bears_107 (q := 110) rfl rfl rfl (by decide) (lv' := [(5, .int (x5 + 1)), (4, .int 1), (6, .int s0), (0, g_r Y 59), (2, .int x2), (3, .int x3)]) rfl ?_
        refine g_goto C dX12_bears_110 (tgt := 42) (by decide) ?_
        refine g_sub [3, 4, 5, 1, 0] (lv' := [(0, g_r Y 59), (2, .int x2), (3, .int x3), (4, .int 1), (5, .int (x5 + 1))]) rfl ?_
        exact ih x2 x3 1 (x5 + 1) M h
theorem r_X12_bears_78 {p : Int32 × g_M} {k : Int32 → Int32 → Int32 → Int32 → g_M → Option (Int32 × g_M)} (ih : ∀ (x2 : Int32) (x3 : Int32) (x4 : Int32) (x5 : Int32) (M : g_M), k x2 x3 x4 x5 M = some p → g_fr [63, 64, 68, 69] [] M p.2) (x2 : Int32) (x3 : Int32) (x4 : Int32) (x5 : Int32) (s0 : Int32) (M : g_M) (h : f_X12_bears_78 k x2 x3 x4 x5 s0 M = some p) : g_fr [63, 64, 68, 69] [] M p.2 := by
  unfold f_X12_bears_78 at h
  have hf := g_fr.rfl (S := [63, 64, 68, 69]) (T := []) (M := M)
  rcases g_ifs h with h | h
  · exact hf.trans (ih x2 x3 0 (x5 + 1) M h)
  · rcases g_ifs h with h | h
    · exact hf.trans (ih x2 x3 1 (x5 + 1) M h)
    · obtain ⟨v8, -, h⟩ := g_bind h
      rcases g_ifs h with h | h
      · exact hf.trans (ih x2 x3 0 (x5 + 1) M h)
      · exact hf.trans (ih x2 x3 1 (x5 + 1) M h)
def f_X12_bears_77 (k : Int32 → Int32 → Int32 → Int32 → g_M → Option (Int32 × g_M)) (x2 : Int32) (x3 : Int32) (x4 : Int32) (x5 : Int32) (M : g_M) : Option (Int32 × g_M) :=
  f_X12_bears_78 k x2 x3 x4 x5 0 M
set_option maxRecDepth 100000 in
theorem t_X12_bears_77 {l : Launch} {X : g_X} {Y : g_Y} {p : Int32 × g_M} {k : Int32 → Int32 → Int32 → Int32 → g_M → Option (Int32 × g_M)} (C : g_C l (g_rm (5)) RX12 cX12_bears 7 X Y) (E : g_E (some .int) X Y (some (.int p.1)) p.2) (ih : ∀ (x2 : Int32) (x3 : Int32) (x4 : Int32) (x5 : Int32) (M : g_M), k x2 x3 x4 x5 M = some p → g_G 7 X Y 42 [(0, g_r Y 59), (2, .int x2), (3, .int x3), (4, .int x4), (5, .int x5)] [] M) (x2 : Int32) (x3 : Int32) (x4 : Int32) (x5 : Int32) (M : g_M) (h : f_X12_bears_77 k x2 x3 x4 x5 M = some p) : g_G 7 X Y 77 [(0, g_r Y 59), (2, .int x2), (3, .int x3), (4, .int x4), (5, .int x5)] [] M := by
  unfold f_X12_bears_77 at h
  refine g_iconst C (v := 0) dX12_bears_77 (q := 78) rfl (by decide) ?_
  refine g_sub [0, 1, 2, 3, 4] (lv' := [(0, g_r Y 59), (2, .int x2), (3, .int x3), (4, .int x4), (5, .int x5)]) rfl ?_
  exact t_X12_bears_78 C E ih x2 x3 x4 x5 0 M h
theorem r_X12_bears_77 {p : Int32 × g_M} {k : Int32 → Int32 → Int32 → Int32 → g_M → Option (Int32 × g_M)} (ih : ∀ (x2 : Int32) (x3 : Int32) (x4 : Int32) (x5 : Int32) (M : g_M), k x2 x3 x4 x5 M = some p → g_fr [63, 64, 68, 69] [] M p.2) (x2 : Int32) (x3 : Int32) (x4 : Int32) (x5 : Int32) (M : g_M) (h : f_X12_bears_77 k x2 x3 x4 x5 M = some p) : g_fr [63, 64, 68, 69] [] M p.2 := by
  unfold f_X12_bears_77 at h
  have hf := g_fr.rfl (S := [63, 64, 68, 69]) (T := []) (M := M)
  exact hf.trans (r_X12_bears_78 ih x2 x3 x4 x5 0 M h)
def f_X12_bears_78_b (k : Int32 → Int32 → Int32 → Int32 → g_M → Option (Int32 × g_M)) (x2 : Int32) (x3 : Int32) (x4 : Int32) (x5 : Int32) (s0 : Int32) (M : g_M) : Option (Int32 × g_M) :=
  (if x4 = 0 then (k x2 x3 0 (x5 + 1) M) else ((if s0 = 0 then (k x2 x3 1 (x5 + 1) M) else ((g_ld M 64 1024 x5).bind fun v11 => (if v11 = 0 then (k x2 x3 0 (x5 + 1) M) else (k x2 x3 1 (x5 + 1) M))))))
set_option maxRecDepth 100000 in
theorem t_X12_bears_78_b {l : Launch} {X : g_X} {Y : g_Y} {p : Int32 × g_M} {k : Int32 → Int32 → Int32 → Int32 → g_M → Option (Int32 × g_M)} (C : g_C l (g_rm (5)) RX12 cX12_bears 7 X Y) (E : g_E (some .int) X Y (some (.int p.1)) p.2) (ih : ∀ (x2 : Int32) (x3 : Int32) (x4 : Int32) (x5 : Int32) (M : g_M), k x2 x3 x4 x5 M = some p → g_G 7 X Y 42 [(0, g_r Y 59), (2, .int x2), (3, .int x3), (4, .int x4), (5, .int x5)] [] M) (x2 : Int32) (x3 : Int32) (x4 : Int32) (x5 : Int32) (s0 : Int32) (M : g_M) (h : f_X12_bears_78_b k x2 x3 x4 x5 s0 M = some p) : g_G 7 X Y 78 [(0, g_r Y 59), (2, .int x2), (3, .int x3), (4, .int x4), (5, .int x5)] [.int s0] M := by
  unfold f_X12_bears_78_b at h
  refine g_istore C dX12_bears_78 (q := 80) rfl (by decide) (lv' := [(6, .int s0), (0, g_r Y 59), (2, .int x2), (3, .int x3), (4, .int x4), (5, .int x5)]) rfl ?_
  refine g_iload C 4 dX12_bears_80 (q := 82) rfl rfl ?_
  have hif := g_if h
  clear h
  refine g_if_eq C dX12_bears_82 (q := 85) (tgt := 104) rfl (by decide) (fun c => ?_) (fun c => ?_)
  · have h := hif.1 c
    clear hif
    refine g_iconst C (v := 0) dX12_bears_104 (q := 105) rfl (by decide) ?_
    refine g_istore C dX12_bears_105 (q := 107) rfl (by decide) (lv' := [(4, .int 0), (6, .int s0), (0, g_r Y 59), (2, .int x2), (3, .int x3), (5, .int x5)]) rfl ?_
    refine g_iinc C (k := 5) (v := x5 + 1) dX12_bears_107 (q := 110) rfl rfl rfl (by decide) (lv' := [(5, .int (x5 + 1)), (4, .int 0), (6, .int s0), (0, g_r Y 59), (2, .int x2), (3, .int x3)]) rfl ?_
    refine g_goto C dX12_bears_110 (tgt := 42) (by decide) ?_
    refine g_sub [3, 4, 5, 1, 0] (lv' := [(0, g_r Y 59), (2, .int x2), (3, .int x3), (4, .int 0), (5, .int (x5 + 1))]) rfl ?_
    exact ih x2 x3 0 (x5 + 1) M h
  · have h := hif.2 c
    clear hif
    refine g_iload C 0 dX12_bears_85 (q := 87) rfl rfl ?_
    have hif := g_if h
    clear h
    refine g_if_eq C dX12_bears_87 (q := 90) (tgt := 100) rfl (by decide) (fun c => ?_) (fun c => ?_)
    · have h := hif.1 c
      clear hif
      refine g_iconst C (v := 1) dX12_bears_100 (q := 101) rfl (by decide) ?_
      refine g_goto C dX12_bears_101 (tgt := 105) (by decide) ?_
      refine g_istore C dX12_bears_105 (q := 107) rfl (by decide) (lv' := [(4, .int 1), (6, .int s0), (0, g_r Y 59), (2, .int x2), (3, .int x3), (5, .int x5)]) rfl ?_
      refine g_iinc C (k := 5) (v := x5 + 1) dX12_bears_107 (q := 110) rfl rfl rfl (by decide) (lv' := [(5, .int (x5 + 1)), (4, .int 1), (6, .int s0), (0, g_r Y 59), (2, .int x2), (3, .int x3)]) rfl ?_
      refine g_goto C dX12_bears_110 (tgt := 42) (by decide) ?_
      refine g_sub [3, 4, 5, 1, 0] (lv' := [(0, g_r Y 59), (2, .int x2), (3, .int x3), (4, .int 1), (5, .int (x5 + 1))]) rfl ?_
      exact ih x2 x3 1 (x5 + 1) M h
    · have h := hif.2 c
      clear hif
      refine g_aload_n C 1 dX12_bears_90 (q := 91) rfl rfl rfl ?_
      refine g_get C (k := 59) (i := 17) (by decide) (gc_59 Y _ _) rfl kU_X12 (by decide) kF_X12_22 rfl dX12_bears_91 (q := 94) rfl ?_
      refine g_iload C 5 dX12_bears_94 (q := 96) rfl rfl ?_
      obtain ⟨v11, hv11, h⟩ := g_bind h
      refine g_zald C (k := 64) (n := 1024) (by decide) (gc_64 Y _ _) hv11 dX12_bears_96 (q := 97) rfl ?_
      have hif := g_if h
      clear h
      refine g_if_eq C dX12_bears_97 (q := 100) (tgt := 104) rfl (by decide) (fun c => ?_) (fun c => ?_)
      · have h := hif.1 c
        clear hif
        refine g_iconst C (v := 0) dX12_bears_104 (q := 105) rfl (by decide) ?_
        refine g_istore C dX12_bears_105 (q := 107) rfl (by decide) (lv' := [(4, .int 0), (6, .int s0), (0, g_r Y 59), (2, .int x2), (3, .int x3), (5, .int x5)]) rfl ?_
        refine g_iinc C (k := 5) (v := x5 + 1) dX12_bears_107 (q := 110) rfl rfl rfl (by decide) (lv' := [(5, .int (x5 + 1)), (4, .int 0), (6, .int s0), (0, g_r Y 59), (2, .int x2), (3, .int x3)]) rfl ?_
        refine g_goto C dX12_bears_110 (tgt := 42) (by decide) ?_
        refine g_sub [3, 4, 5, 1, 0] (lv' := [(0, g_r Y 59), (2, .int x2), (3, .int x3), (4, .int 0), (5, .int (x5 + 1))]) rfl ?_
        exact ih x2 x3 0 (x5 + 1) M h
      · have h := hif.2 c
        clear hif
        refine g_iconst C (v := 1) dX12_bears_100 (q := 101) rfl (by decide) ?_
        refine g_goto C dX12_bears_101 (tgt := 105) (by decide) ?_
        refine g_istore C dX12_bears_105 (q := 107) rfl (by decide) (lv' := [(4, .int 1), (6, .int s0), (0, g_r Y 59), (2, .int x2), (3, .int x3), (5, .int x5)]) rfl ?_
        refine g_iinc C (k := 5) (v := x5 + 1) dX12_bears_107 (q := 110) rfl rfl rfl (by decide) (lv' := [(5, .int (x5 + 1)), (4, .int 1), (6, .int s0), (0, g_r Y 59), (2, .int x2), (3, .int x3)]) rfl ?_
        refine g_goto C dX12_bears_110 (tgt := 42) (by decide) ?_
        refine g_sub [3, 4, 5, 1, 0] (lv' := [(0, g_r Y 59), (2, .int x2), (3, .int x3), (4, .int 1), (5, .int (x5 + 1))]) rfl ?_
        exact ih x2 x3 1 (x5 + 1) M h
theorem r_X12_bears_78_b {p : Int32 × g_M} {k : Int32 → Int32 → Int32 → Int32 → g_M → Option (Int32 × g_M)} (ih : ∀ (x2 : Int32) (x3 : Int32) (x4 : Int32) (x5 : Int32) (M : g_M), k x2 x3 x4 x5 M = some p → g_fr [63, 64, 68, 69] [] M p.2) (x2 : Int32) (x3 : Int32) (x4 : Int32) (x5 : Int32) (s0 : Int32) (M : g_M) (h : f_X12_bears_78_b k x2 x3 x4 x5 s0 M = some p) : g_fr [63, 64, 68, 69] [] M p.2 := by
  unfold f_X12_bears_78_b at h
  have hf := g_fr.rfl (S := [63, 64, 68, 69]) (T := []) (M := M)
  rcases g_ifs h with h | h
  · exact hf.trans (ih x2 x3 0 (x5 + 1) M h)
  · rcases g_ifs h with h | h
    · exact hf.trans (ih x2 x3 1 (x5 + 1) M h)
    · obtain ⟨v11, -, h⟩ := g_bind h
      rcases g_ifs h with h | h
      · exact hf.trans (ih x2 x3 0 (x5 + 1) M h)
      · exact hf.trans (ih x2 x3 1 (x5 + 1) M h)
def F_X12_bears_42 (k113 : Int32 → g_M → Option (Int32 × g_M)) (k : Int32 → Int32 → Int32 → Int32 → g_M → Option (Int32 × g_M)) (x2 : Int32) (x3 : Int32) (x4 : Int32) (x5 : Int32) (M : g_M) : Option (Int32 × g_M) :=
  (if 1024 ≤ x5 then (k113 x4 M) else ((f_X12_isPart x5 M).bind fun p7 => (if p7 = 0 then (f_X12_bears_77 k x2 x3 x4 x5 M) else ((f_X12_many x5 M).bind fun p9 => (f_X12_many x3 M).bind fun p10 => (if p9 = (p10 - x2) then (f_X12_bears_78_b k x2 x3 x4 x5 1 M) else (f_X12_bears_77 k x2 x3 x4 x5 M))))))
set_option maxRecDepth 100000 in
theorem t_X12_bears_42 {l : Launch} {X : g_X} {Y : g_Y} {p : Int32 × g_M} {k113 : Int32 → g_M → Option (Int32 × g_M)} (C : g_C l (g_rm (5)) RX12 cX12_bears 7 X Y) (E : g_E (some .int) X Y (some (.int p.1)) p.2) (hk113 : ∀ (x4 : Int32) (M : g_M), k113 x4 M = some p → g_G 7 X Y 113 [(4, .int x4)] [] M) (n : Nat) : ∀ (x2 : Int32) (x3 : Int32) (x4 : Int32) (x5 : Int32) (M : g_M), g_lp4 (F_X12_bears_42 k113) n x2 x3 x4 x5 M = some p → g_G 7 X Y 42 [(0, g_r Y 59), (2, .int x2), (3, .int x3), (4, .int x4), (5, .int x5)] [] M := by
  induction n with
  | zero => intro x2 x3 x4 x5 M h; exact (g_nn h).elim
  | succ n ih =>
    intro x2 x3 x4 x5 M h
    have h : F_X12_bears_42 k113 (g_lp4 (F_X12_bears_42 k113) n) x2 x3 x4 x5 M = some p := h
    generalize g_lp4 (F_X12_bears_42 k113) n = k at h ih
    unfold F_X12_bears_42 at h
    refine g_iload C 4 dX12_bears_42 (q := 44) rfl rfl ?_
    refine g_sipush C (v := 1024) dX12_bears_44 (q := 47) rfl (by decide) ?_
    have hif := g_if h
    clear h
    refine g_icmp_ge C dX12_bears_47 (q := 50) (tgt := 113) rfl (by decide) (fun c => ?_) (fun c => ?_)
    · have h := hif.1 c
      clear hif
      refine g_sub [3] (lv' := [(4, .int x4)]) rfl ?_
      exact hk113 x4 M h
    · have h := hif.2 c
      clear hif
      refine g_aload_n C 0 dX12_bears_50 (q := 51) rfl rfl rfl ?_
      refine g_iload C 4 dX12_bears_51 (q := 53) rfl rfl ?_
      obtain ⟨p7, hp7, h⟩ := g_bind h
      refine g_callV C (k := 59) (as := [.int x5]) (st := []) (m_X12_isPart hp7) (g_hR (by decide)) (by decide) (by decide) (gc_59 Y _ _) rfl kM_X12_271 kI_X12_isPart kS_X12_isPart kN_X12 kC_X12_isPart kD_X12_isPart rfl (Nat.le_of_ble_eq_true rfl) dX12_bears_53 (q := 56) rfl ?_
      show g_G 7 X Y 56 [(0, g_r Y 59), (2, .int x2), (3, .int x3), (4, .int x4), (5, .int x5)] [.int p7] M
      have hif := g_if h
      clear h
      refine g_if_eq C dX12_bears_56 (q := 59) (tgt := 77) rfl (by decide) (fun c => ?_) (fun c => ?_)
      · have h := hif.1 c
        clear hif
        refine g_sub [0, 1, 2, 3, 4] (lv' := [(0, g_r Y 59), (2, .int x2), (3, .int x3), (4, .int x4), (5, .int x5)]) rfl ?_
        exact t_X12_bears_77 C E ih x2 x3 x4 x5 M h
      · have h := hif.2 c
        clear hif
        refine g_iload C 4 dX12_bears_59 (q := 61) rfl rfl ?_
        obtain ⟨p9, hp9, h⟩ := g_bind h
        refine g_callS C (as := [.int x5]) (st := []) (m_X12_many hp9) (g_hR (by decide)) (by decide) kM_X12_147 kT_X12_many kN_X12 kC_X12_many kD_X12_many rfl (Nat.le_of_ble_eq_true rfl) dX12_bears_61 (q := 64) rfl ?_
        show g_G 7 X Y 64 [(0, g_r Y 59), (2, .int x2), (3, .int x3), (4, .int x4), (5, .int x5)] [.int p9] M
        refine g_iload_n C 2 dX12_bears_64 (q := 65) rfl rfl rfl ?_
        obtain ⟨p10, hp10, h⟩ := g_bind h
        refine g_callS C (as := [.int x3]) (st := [.int p9]) (m_X12_many hp10) (g_hR (by decide)) (by decide) kM_X12_147 kT_X12_many kN_X12 kC_X12_many kD_X12_many rfl (Nat.le_of_ble_eq_true rfl) dX12_bears_65 (q := 68) rfl ?_
        show g_G 7 X Y 68 [(0, g_r Y 59), (2, .int x2), (3, .int x3), (4, .int x4), (5, .int x5)] [.int p10, .int p9] M
        refine g_iload_n C 1 dX12_bears_68 (q := 69) rfl rfl rfl ?_
        refine g_isub C dX12_bears_69 (q := 70) rfl ?_
        have hif := g_if h
        clear h
        refine g_icmp_ne C dX12_bears_70 (q := 73) (tgt := 77) rfl (by decide) (fun c => ?_) (fun c => ?_)
        · have h := hif.2 c
          clear hif
          refine g_sub [0, 1, 2, 3, 4] (lv' := [(0, g_r Y 59), (2, .int x2), (3, .int x3), (4, .int x4), (5, .int x5)]) rfl ?_
          exact t_X12_bears_77 C E ih x2 x3 x4 x5 M h
        · have h := hif.1 c
          clear hif
          refine g_iconst C (v := 1) dX12_bears_73 (q := 74) rfl (by decide) ?_
          refine g_goto C dX12_bears_74 (tgt := 78) (by decide) ?_
          refine g_sub [0, 1, 2, 3, 4] (lv' := [(0, g_r Y 59), (2, .int x2), (3, .int x3), (4, .int x4), (5, .int x5)]) rfl ?_
          exact t_X12_bears_78_b C E ih x2 x3 x4 x5 1 M h
theorem r_X12_bears_42 {p : Int32 × g_M} {k113 : Int32 → g_M → Option (Int32 × g_M)} (hk113 : ∀ (x4 : Int32) (M : g_M), k113 x4 M = some p → g_fr [63, 64, 68, 69] [] M p.2) (n : Nat) : ∀ (x2 : Int32) (x3 : Int32) (x4 : Int32) (x5 : Int32) (M : g_M), g_lp4 (F_X12_bears_42 k113) n x2 x3 x4 x5 M = some p → g_fr [63, 64, 68, 69] [] M p.2 := by
  induction n with
  | zero => intro x2 x3 x4 x5 M h; exact (g_nn h).elim
  | succ n ih =>
    intro x2 x3 x4 x5 M h
    have h : F_X12_bears_42 k113 (g_lp4 (F_X12_bears_42 k113) n) x2 x3 x4 x5 M = some p := h
    generalize g_lp4 (F_X12_bears_42 k113) n = k at h ih
    unfold F_X12_bears_42 at h
    have hf := g_fr.rfl (S := [63, 64, 68, 69]) (T := []) (M := M)
    rcases g_ifs h with h | h
    · exact hf.trans (hk113 x4 M h)
    · obtain ⟨p7, -, h⟩ := g_bind h
      rcases g_ifs h with h | h
      · exact hf.trans (r_X12_bears_77 ih x2 x3 x4 x5 M h)
      · obtain ⟨p9, -, h⟩ := g_bind h
        obtain ⟨p10, -, h⟩ := g_bind h
        rcases g_ifs h with h | h
        · exact hf.trans (r_X12_bears_78_b ih x2 x3 x4 x5 1 M h)
        · exact hf.trans (r_X12_bears_77 ih x2 x3 x4 x5 M h)
def f_X12_bears (x1 : Int32) (x2 : Int32) (M : g_M) : Option (Int32 × g_M) :=
  (f_X12_all M).bind fun p1 => (f_X12_isHanging x1 M).bind fun p2 => (if p2 = 0 then (f_X12_bears_25 M) else ((f_X12_many p1 M).bind fun p4 => (f_X12_in x2 0 p4 M).bind fun p5 => (if p5 = 0 then (f_X12_bears_25 M) else ((f_X12_findOpens x1 M).bind fun p6 => g_lp4 (F_X12_bears_42 (fun (x4 : Int32) (M : g_M) => (if x4 = 0 then (some (0, M)) else (some (1, M))))) 20000000 x2 p1 1 0 p6))))
set_option maxRecDepth 100000 in
theorem m_X12_bears {l : Launch} {Y : g_Y} {x1 : Int32} {x2 : Int32} {M : g_M} {p : Int32 × g_M} (h : f_X12_bears x1 x2 M = some p) : g_R l Y (5) yX12_bears cX12_bears 7 (some .int) [g_r Y 59, .int x1, .int x2] M (some (.int p.1)) p.2 := by
  unfold f_X12_bears at h
  refine g_R_of kP_X12 rfl (Nat.le_of_ble_eq_true rfl) (fun X C E => ?_)
  show g_G 7 X Y 0 [(0, g_r Y 59), (1, .int x1), (2, .int x2)] [] M
  refine g_aload_n C 0 dX12_bears_0 (q := 1) rfl rfl rfl ?_
  obtain ⟨p1, hp1, h⟩ := g_bind h
  refine g_callV C (k := 59) (as := []) (st := []) (m_X12_all hp1) (g_hR (by decide)) (by decide) (by decide) (gc_59 Y _ _) rfl kM_X12_181 kI_X12_all kS_X12_all kN_X12 kC_X12_all kD_X12_all rfl (Nat.le_of_ble_eq_true rfl) dX12_bears_1 (q := 4) rfl ?_
  show g_G 7 X Y 4 [(0, g_r Y 59), (1, .int x1), (2, .int x2)] [.int p1] M
  refine g_istore_n C dX12_bears_4 (q := 5) rfl rfl (by decide) (lv' := [(3, .int p1), (0, g_r Y 59), (1, .int x1), (2, .int x2)]) rfl ?_
  refine g_aload_n C 1 dX12_bears_5 (q := 6) rfl rfl rfl ?_
  refine g_iload_n C 2 dX12_bears_6 (q := 7) rfl rfl rfl ?_
  obtain ⟨p2, hp2, h⟩ := g_bind h
  refine g_callV C (k := 59) (as := [.int x1]) (st := []) (m_X12_isHanging hp2) (g_hR (by decide)) (by decide) (by decide) (gc_59 Y _ _) rfl kM_X12_242 kI_X12_isHanging kS_X12_isHanging kN_X12 kC_X12_isHanging kD_X12_isHanging rfl (Nat.le_of_ble_eq_true rfl) dX12_bears_7 (q := 10) rfl ?_
  show g_G 7 X Y 10 [(3, .int p1), (0, g_r Y 59), (1, .int x1), (2, .int x2)] [.int p2] M
  have hif := g_if h
  clear h
  refine g_if_eq C dX12_bears_10 (q := 13) (tgt := 25) rfl (by decide) (fun c => ?_) (fun c => ?_)
  · have h := hif.1 c
    clear hif
    refine g_sub [1] (lv' := [(0, g_r Y 59)]) rfl ?_
    exact t_X12_bears_25 C E M h
  · have h := hif.2 c
    clear hif
    refine g_iload_n C 3 dX12_bears_13 (q := 14) rfl rfl rfl ?_
    refine g_iconst C (v := 0) dX12_bears_14 (q := 15) rfl (by decide) ?_
    refine g_iload_n C 0 dX12_bears_15 (q := 16) rfl rfl rfl ?_
    obtain ⟨p4, hp4, h⟩ := g_bind h
    refine g_callS C (as := [.int p1]) (st := [.int 0, .int x2]) (m_X12_many hp4) (g_hR (by decide)) (by decide) kM_X12_147 kT_X12_many kN_X12 kC_X12_many kD_X12_many rfl (Nat.le_of_ble_eq_true rfl) dX12_bears_16 (q := 19) rfl ?_
    show g_G 7 X Y 19 [(3, .int p1), (0, g_r Y 59), (1, .int x1), (2, .int x2)] [.int p4, .int 0, .int x2] M
    obtain ⟨p5, hp5, h⟩ := g_bind h
    refine g_callS C (as := [.int x2, .int 0, .int p4]) (st := []) (m_X12_in hp5) (g_hR (by decide)) (by decide) kM_X12_64 kT_X12_in kN_X12 kC_X12_in kD_X12_in rfl (Nat.le_of_ble_eq_true rfl) dX12_bears_19 (q := 22) rfl ?_
    show g_G 7 X Y 22 [(3, .int p1), (0, g_r Y 59), (1, .int x1), (2, .int x2)] [.int p5] M
    have hif := g_if h
    clear h
    refine g_if_ne C dX12_bears_22 (q := 25) (tgt := 31) rfl (by decide) (fun c => ?_) (fun c => ?_)
    · have h := hif.2 c
      clear hif
      refine g_aload_n C 1 dX12_bears_31 (q := 32) rfl rfl rfl ?_
      refine g_iload_n C 2 dX12_bears_32 (q := 33) rfl rfl rfl ?_
      obtain ⟨p6, hp6, h⟩ := g_bind h
      refine g_callV C (k := 59) (as := [.int x1]) (st := []) (m_X12_findOpens hp6) (g_hR (by decide)) (by decide) (by decide) (gc_59 Y _ _) rfl kM_X12_264 kI_X12_findOpens kS_X12_findOpens kN_X12 kC_X12_findOpens kD_X12_findOpens rfl (Nat.le_of_ble_eq_true rfl) dX12_bears_33 (q := 36) rfl ?_
      show g_G 7 X Y 36 [(3, .int p1), (0, g_r Y 59), (1, .int x1), (2, .int x2)] [] p6
      refine g_iconst C (v := 1) dX12_bears_36 (q := 37) rfl (by decide) ?_
      refine g_istore C dX12_bears_37 (q := 39) rfl (by decide) (lv' := [(4, .int 1), (3, .int p1), (0, g_r Y 59), (1, .int x1), (2, .int x2)]) rfl ?_
      refine g_iconst C (v := 0) dX12_bears_39 (q := 40) rfl (by decide) ?_
      refine g_istore C dX12_bears_40 (q := 42) rfl (by decide) (lv' := [(5, .int 0), (4, .int 1), (3, .int p1), (0, g_r Y 59), (1, .int x1), (2, .int x2)]) rfl ?_
      refine g_sub [3, 5, 2, 1, 0] (lv' := [(0, g_r Y 59), (2, .int x2), (3, .int p1), (4, .int 1), (5, .int 0)]) rfl ?_
      refine t_X12_bears_42 C E ?_ 20000000 x2 p1 1 0 p6 h
      · intro x4 M h
        try dsimp only at h
        refine g_iload C 0 dX12_bears_113 (q := 115) rfl rfl ?_
        have hif := g_if h
        clear h
        refine g_if_eq C dX12_bears_115 (q := 118) (tgt := 122) rfl (by decide) (fun c => ?_) (fun c => ?_)
        · have h := hif.1 c
          clear hif
          refine g_iconst C (v := 0) dX12_bears_122 (q := 123) rfl (by decide) ?_
          obtain rfl := Option.some.inj h
          exact g_iret C E dX12_bears_123
        · have h := hif.2 c
          clear hif
          refine g_iconst C (v := 1) dX12_bears_118 (q := 119) rfl (by decide) ?_
          refine g_goto C dX12_bears_119 (tgt := 123) (by decide) ?_
          obtain rfl := Option.some.inj h
          exact g_iret C E dX12_bears_123
    · have h := hif.1 c
      clear hif
      refine g_sub [1] (lv' := [(0, g_r Y 59)]) rfl ?_
      exact t_X12_bears_25 C E M h
theorem r_X12_bears {x1 : Int32} {x2 : Int32} {M : g_M} {p : Int32 × g_M} (h : f_X12_bears x1 x2 M = some p) : g_fr [63, 64, 68, 69] [] M p.2 := by
  unfold f_X12_bears at h
  have hf := g_fr.rfl (S := [63, 64, 68, 69]) (T := []) (M := M)
  obtain ⟨p1, -, h⟩ := g_bind h
  obtain ⟨p2, -, h⟩ := g_bind h
  rcases g_ifs h with h | h
  · exact hf.trans (r_X12_bears_25 M h)
  · obtain ⟨p4, -, h⟩ := g_bind h
    obtain ⟨p5, -, h⟩ := g_bind h
    rcases g_ifs h with h | h
    · exact hf.trans (r_X12_bears_25 M h)
    · obtain ⟨p6, hp6, h⟩ := g_bind h
      have hf := hf.trans ((r_X12_findOpens hp6).mono (by decide) (by decide))
      refine hf.trans (r_X12_bears_42 ?_ 20000000 x2 p1 1 0 p6 h)
      · intro x4 M h
        try dsimp only at h
        have hf := g_fr.rfl (S := [63, 64, 68, 69]) (T := []) (M := M)
        rcases g_ifs h with h | h
        · obtain rfl := Option.some.inj h
          exact hf
        · obtain rfl := Option.some.inj h
          exact hf
def f_X12_need__16 (M : g_M) : Option (Int32 × g_M) :=
  (f_X12_finding 0 M).bind fun p2 => some (p2.1, p2.2)
set_option maxRecDepth 100000 in
theorem t_X12_need__16 {l : Launch} {X : g_X} {Y : g_Y} {p : Int32 × g_M} (C : g_C l (g_rm (4)) RX12 cX12_need_ 10 X Y) (E : g_E (some .int) X Y (some (.int p.1)) p.2) (M : g_M) (h : f_X12_need__16 M = some p) : g_G 10 X Y 16 [(0, g_r Y 59)] [] M := by
  unfold f_X12_need__16 at h
  refine g_aload_n C 0 dX12_need__16 (q := 17) rfl rfl rfl ?_
  refine g_iconst C (v := 0) dX12_need__17 (q := 18) rfl (by decide) ?_
  obtain ⟨p2, hp2, h⟩ := g_bind h
  refine g_callV C (k := 59) (as := [.int 0]) (st := []) (m_X12_finding hp2) (g_hR (by decide)) (by decide) (by decide) (gc_59 Y _ _) rfl kM_X12_190 kI_X12_finding kS_X12_finding kN_X12 kC_X12_finding kD_X12_finding rfl (Nat.le_of_ble_eq_true rfl) dX12_need__18 (q := 21) rfl ?_
  show g_G 10 X Y 21 [(0, g_r Y 59)] [.int p2.1] p2.2
  obtain rfl := Option.some.inj h
  exact g_iret C E dX12_need__21
theorem r_X12_need__16 {p : Int32 × g_M} (M : g_M) (h : f_X12_need__16 M = some p) : g_fr [63, 68, 69] [] M p.2 := by
  unfold f_X12_need__16 at h
  have hf := g_fr.rfl (S := [63, 68, 69]) (T := []) (M := M)
  obtain ⟨p2, hp2, h⟩ := g_bind h
  have hf := hf.trans ((r_X12_finding hp2).mono (by decide) (by decide))
  obtain rfl := Option.some.inj h
  exact hf
def f_X12_need__167 (k : Int32 → Int32 → Int32 → Int32 → Int32 → Int32 → Int32 → g_M → Option (Int32 × g_M)) (x1 : Int32) (x3 : Int32) (x4 : Int32) (x6 : Int32) (x7 : Int32) (x8 : Int32) (s0 : Int32) (s1 : Int32) (M : g_M) : Option (Int32 × g_M) :=
  (f_X12_opensBy x1 (x3 ||| (s1 ||| s0)) M).bind fun p6 => (if p6.1 = 0 then (k x1 x3 x4 0 x6 x7 (x8 + 1) p6.2) else (k x1 x3 x4 (s1 ||| s0) x6 x7 (x8 + 1) p6.2))
set_option maxRecDepth 100000 in
theorem t_X12_need__167 {l : Launch} {X : g_X} {Y : g_Y} {p : Int32 × g_M} {k : Int32 → Int32 → Int32 → Int32 → Int32 → Int32 → Int32 → g_M → Option (Int32 × g_M)} (C : g_C l (g_rm (4)) RX12 cX12_need_ 10 X Y) (E : g_E (some .int) X Y (some (.int p.1)) p.2) (ih : ∀ (x1 : Int32) (x3 : Int32) (x4 : Int32) (x5 : Int32) (x6 : Int32) (x7 : Int32) (x8 : Int32) (M : g_M), k x1 x3 x4 x5 x6 x7 x8 M = some p → g_G 10 X Y 114 [(0, g_r Y 59), (1, .int x1), (3, .int x3), (4, .int x4), (5, .int x5), (6, .int x6), (7, .int x7), (8, .int x8)] [] M) (x1 : Int32) (x3 : Int32) (x4 : Int32) (x6 : Int32) (x7 : Int32) (x8 : Int32) (s0 : Int32) (s1 : Int32) (M : g_M) (h : f_X12_need__167 k x1 x3 x4 x6 x7 x8 s0 s1 M = some p) : g_G 10 X Y 167 [(0, g_r Y 59), (1, .int x1), (3, .int x3), (4, .int x4), (6, .int x6), (7, .int x7), (8, .int x8)] [.int s0, .int s1] M := by
  unfold f_X12_need__167 at h
  refine g_ior C dX12_need__167 (q := 168) rfl ?_
  refine g_istore C dX12_need__168 (q := 170) rfl (by decide) (lv' := [(9, .int (s1 ||| s0)), (0, g_r Y 59), (1, .int x1), (3, .int x3), (4, .int x4), (6, .int x6), (7, .int x7), (8, .int x8)]) rfl ?_
  refine g_aload_n C 1 dX12_need__170 (q := 171) rfl rfl rfl ?_
  refine g_iload_n C 2 dX12_need__171 (q := 172) rfl rfl rfl ?_
  refine g_iload_n C 3 dX12_need__172 (q := 173) rfl rfl rfl ?_
  refine g_iload C 0 dX12_need__173 (q := 175) rfl rfl ?_
  refine g_ior C dX12_need__175 (q := 176) rfl ?_
  obtain ⟨p6, hp6, h⟩ := g_bind h
  refine g_callV C (k := 59) (as := [.int x1, .int (x3 ||| (s1 ||| s0))]) (st := []) (m_X12_opensBy hp6) (g_hR (by decide)) (by decide) (by decide) (gc_59 Y _ _) rfl kM_X12_261 kI_X12_opensBy kS_X12_opensBy kN_X12 kC_X12_opensBy kD_X12_opensBy rfl (Nat.le_of_ble_eq_true rfl) dX12_need__176 (q := 179) rfl ?_
  show g_G 10 X Y 179 [(9, .int (s1 ||| s0)), (0, g_r Y 59), (1, .int x1), (3, .int x3), (4, .int x4), (6, .int x6), (7, .int x7), (8, .int x8)] [.int p6.1] p6.2
  have hif := g_if h
  clear h
  refine g_if_eq C dX12_need__179 (q := 182) (tgt := 187) rfl (by decide) (fun c => ?_) (fun c => ?_)
  · have h := hif.1 c
    clear hif
    refine g_iconst C (v := 0) dX12_need__187 (q := 188) rfl (by decide) ?_
    refine g_istore C dX12_need__188 (q := 190) rfl (by decide) (lv' := [(5, .int 0), (9, .int (s1 ||| s0)), (0, g_r Y 59), (1, .int x1), (3, .int x3), (4, .int x4), (6, .int x6), (7, .int x7), (8, .int x8)]) rfl ?_
    refine g_iinc C (k := 8) (v := x8 + 1) dX12_need__190 (q := 193) rfl rfl rfl (by decide) (lv' := [(8, .int (x8 + 1)), (5, .int 0), (9, .int (s1 ||| s0)), (0, g_r Y 59), (1, .int x1), (3, .int x3), (4, .int x4), (6, .int x6), (7, .int x7)]) rfl ?_
    refine g_goto C dX12_need__193 (tgt := 114) (by decide) ?_
    refine g_sub [3, 4, 5, 6, 1, 7, 8, 0] (lv' := [(0, g_r Y 59), (1, .int x1), (3, .int x3), (4, .int x4), (5, .int 0), (6, .int x6), (7, .int x7), (8, .int (x8 + 1))]) rfl ?_
    exact ih x1 x3 x4 0 x6 x7 (x8 + 1) p6.2 h
  · have h := hif.2 c
    clear hif
    refine g_iload C 0 dX12_need__182 (q := 184) rfl rfl ?_
    refine g_goto C dX12_need__184 (tgt := 188) (by decide) ?_
    refine g_istore C dX12_need__188 (q := 190) rfl (by decide) (lv' := [(5, .int (s1 ||| s0)), (9, .int (s1 ||| s0)), (0, g_r Y 59), (1, .int x1), (3, .int x3), (4, .int x4), (6, .int x6), (7, .int x7), (8, .int x8)]) rfl ?_
    refine g_iinc C (k := 8) (v := x8 + 1) dX12_need__190 (q := 193) rfl rfl rfl (by decide) (lv' := [(8, .int (x8 + 1)), (5, .int (s1 ||| s0)), (9, .int (s1 ||| s0)), (0, g_r Y 59), (1, .int x1), (3, .int x3), (4, .int x4), (6, .int x6), (7, .int x7)]) rfl ?_
    refine g_goto C dX12_need__193 (tgt := 114) (by decide) ?_
    refine g_sub [3, 4, 5, 6, 1, 7, 8, 0] (lv' := [(0, g_r Y 59), (1, .int x1), (3, .int x3), (4, .int x4), (5, .int (s1 ||| s0)), (6, .int x6), (7, .int x7), (8, .int (x8 + 1))]) rfl ?_
    exact ih x1 x3 x4 (s1 ||| s0) x6 x7 (x8 + 1) p6.2 h
theorem r_X12_need__167 {p : Int32 × g_M} {k : Int32 → Int32 → Int32 → Int32 → Int32 → Int32 → Int32 → g_M → Option (Int32 × g_M)} (ih : ∀ (x1 : Int32) (x3 : Int32) (x4 : Int32) (x5 : Int32) (x6 : Int32) (x7 : Int32) (x8 : Int32) (M : g_M), k x1 x3 x4 x5 x6 x7 x8 M = some p → g_fr [63, 68, 69] [] M p.2) (x1 : Int32) (x3 : Int32) (x4 : Int32) (x6 : Int32) (x7 : Int32) (x8 : Int32) (s0 : Int32) (s1 : Int32) (M : g_M) (h : f_X12_need__167 k x1 x3 x4 x6 x7 x8 s0 s1 M = some p) : g_fr [63, 68, 69] [] M p.2 := by
  unfold f_X12_need__167 at h
  have hf := g_fr.rfl (S := [63, 68, 69]) (T := []) (M := M)
  obtain ⟨p6, hp6, h⟩ := g_bind h
  have hf := hf.trans ((r_X12_opensBy hp6).mono (by decide) (by decide))
  rcases g_ifs h with h | h
  · exact hf.trans (ih x1 x3 x4 0 x6 x7 (x8 + 1) p6.2 h)
  · exact hf.trans (ih x1 x3 x4 (s1 ||| s0) x6 x7 (x8 + 1) p6.2 h)
def f_X12_need__153 (k : Int32 → Int32 → Int32 → Int32 → Int32 → Int32 → Int32 → g_M → Option (Int32 × g_M)) (x1 : Int32) (x3 : Int32) (x4 : Int32) (x6 : Int32) (x7 : Int32) (x8 : Int32) (s0 : Int32) (s1 : Int32) (M : g_M) : Option (Int32 × g_M) :=
  (if 0 ≤ x8 then (f_X12_need__167 k x1 x3 x4 x6 x7 x8 ((1 : Int32) <<< (x8 &&& 31)) (s1 ||| s0) M) else (f_X12_need__167 k x1 x3 x4 x6 x7 x8 0 (s1 ||| s0) M))
set_option maxRecDepth 100000 in
theorem t_X12_need__153 {l : Launch} {X : g_X} {Y : g_Y} {p : Int32 × g_M} {k : Int32 → Int32 → Int32 → Int32 → Int32 → Int32 → Int32 → g_M → Option (Int32 × g_M)} (C : g_C l (g_rm (4)) RX12 cX12_need_ 10 X Y) (E : g_E (some .int) X Y (some (.int p.1)) p.2) (ih : ∀ (x1 : Int32) (x3 : Int32) (x4 : Int32) (x5 : Int32) (x6 : Int32) (x7 : Int32) (x8 : Int32) (M : g_M), k x1 x3 x4 x5 x6 x7 x8 M = some p → g_G 10 X Y 114 [(0, g_r Y 59), (1, .int x1), (3, .int x3), (4, .int x4), (5, .int x5), (6, .int x6), (7, .int x7), (8, .int x8)] [] M) (x1 : Int32) (x3 : Int32) (x4 : Int32) (x6 : Int32) (x7 : Int32) (x8 : Int32) (s0 : Int32) (s1 : Int32) (M : g_M) (h : f_X12_need__153 k x1 x3 x4 x6 x7 x8 s0 s1 M = some p) : g_G 10 X Y 153 [(0, g_r Y 59), (1, .int x1), (3, .int x3), (4, .int x4), (6, .int x6), (7, .int x7), (8, .int x8)] [.int s0, .int s1] M := by
  unfold f_X12_need__153 at h
  refine g_ior C dX12_need__153 (q := 154) rfl ?_
  refine g_iload C 6 dX12_need__154 (q := 156) rfl rfl ?_
  have hif := g_if h
  clear h
  refine g_if_ge C dX12_need__156 (q := 159) (tgt := 163) rfl (by decide) (fun c => ?_) (fun c => ?_)
  · have h := hif.1 c
    clear hif
    refine g_iconst C (v := 1) dX12_need__163 (q := 164) rfl (by decide) ?_
    refine g_iload C 6 dX12_need__164 (q := 166) rfl rfl ?_
    refine g_ishl C dX12_need__166 (q := 167) rfl ?_
    refine g_sub [0, 1, 2, 3, 4, 5, 6] (lv' := [(0, g_r Y 59), (1, .int x1), (3, .int x3), (4, .int x4), (6, .int x6), (7, .int x7), (8, .int x8)]) rfl ?_
    exact t_X12_need__167 C E ih x1 x3 x4 x6 x7 x8 ((1 : Int32) <<< (x8 &&& 31)) (s1 ||| s0) M h
  · have h := hif.2 c
    clear hif
    refine g_iconst C (v := 0) dX12_need__159 (q := 160) rfl (by decide) ?_
    refine g_goto C dX12_need__160 (tgt := 167) (by decide) ?_
    refine g_sub [0, 1, 2, 3, 4, 5, 6] (lv' := [(0, g_r Y 59), (1, .int x1), (3, .int x3), (4, .int x4), (6, .int x6), (7, .int x7), (8, .int x8)]) rfl ?_
    exact t_X12_need__167 C E ih x1 x3 x4 x6 x7 x8 0 (s1 ||| s0) M h
theorem r_X12_need__153 {p : Int32 × g_M} {k : Int32 → Int32 → Int32 → Int32 → Int32 → Int32 → Int32 → g_M → Option (Int32 × g_M)} (ih : ∀ (x1 : Int32) (x3 : Int32) (x4 : Int32) (x5 : Int32) (x6 : Int32) (x7 : Int32) (x8 : Int32) (M : g_M), k x1 x3 x4 x5 x6 x7 x8 M = some p → g_fr [63, 68, 69] [] M p.2) (x1 : Int32) (x3 : Int32) (x4 : Int32) (x6 : Int32) (x7 : Int32) (x8 : Int32) (s0 : Int32) (s1 : Int32) (M : g_M) (h : f_X12_need__153 k x1 x3 x4 x6 x7 x8 s0 s1 M = some p) : g_fr [63, 68, 69] [] M p.2 := by
  unfold f_X12_need__153 at h
  have hf := g_fr.rfl (S := [63, 68, 69]) (T := []) (M := M)
  rcases g_ifs h with h | h
  · exact hf.trans (r_X12_need__167 ih x1 x3 x4 x6 x7 x8 ((1 : Int32) <<< (x8 &&& 31)) (s1 ||| s0) M h)
  · exact hf.trans (r_X12_need__167 ih x1 x3 x4 x6 x7 x8 0 (s1 ||| s0) M h)
def f_X12_need__128 (k : Int32 → Int32 → Int32 → Int32 → Int32 → Int32 → Int32 → g_M → Option (Int32 × g_M)) (k196 : Int32 → Int32 → Int32 → Int32 → Int32 → Int32 → g_M → Option (Int32 × g_M)) (x1 : Int32) (x3 : Int32) (x4 : Int32) (x5 : Int32) (x6 : Int32) (x7 : Int32) (x8 : Int32) (s0 : Int32) (s1 : Int32) (M : g_M) : Option (Int32 × g_M) :=
  (if s0 ≤ s1 then (k196 x1 x3 x4 x5 x6 x7 M) else ((if x5 = 0 then ((if 0 ≤ x7 then (f_X12_need__153 k x1 x3 x4 x6 x7 x8 ((1 : Int32) <<< (x7 &&& 31)) ((1 : Int32) <<< (x6 &&& 31)) M) else (f_X12_need__153 k x1 x3 x4 x6 x7 x8 0 ((1 : Int32) <<< (x6 &&& 31)) M))) else (k196 x1 x3 x4 x5 x6 x7 M))))
set_option maxRecDepth 100000 in
theorem t_X12_need__128 {l : Launch} {X : g_X} {Y : g_Y} {p : Int32 × g_M} {k : Int32 → Int32 → Int32 → Int32 → Int32 → Int32 → Int32 → g_M → Option (Int32 × g_M)} {k196 : Int32 → Int32 → Int32 → Int32 → Int32 → Int32 → g_M → Option (Int32 × g_M)} (C : g_C l (g_rm (4)) RX12 cX12_need_ 10 X Y) (E : g_E (some .int) X Y (some (.int p.1)) p.2) (ih : ∀ (x1 : Int32) (x3 : Int32) (x4 : Int32) (x5 : Int32) (x6 : Int32) (x7 : Int32) (x8 : Int32) (M : g_M), k x1 x3 x4 x5 x6 x7 x8 M = some p → g_G 10 X Y 114 [(0, g_r Y 59), (1, .int x1), (3, .int x3), (4, .int x4), (5, .int x5), (6, .int x6), (7, .int x7), (8, .int x8)] [] M) (hk196 : ∀ (x1 : Int32) (x3 : Int32) (x4 : Int32) (x5 : Int32) (x6 : Int32) (x7 : Int32) (M : g_M), k196 x1 x3 x4 x5 x6 x7 M = some p → g_G 10 X Y 196 [(0, g_r Y 59), (1, .int x1), (3, .int x3), (4, .int x4), (5, .int x5), (6, .int x6), (7, .int x7)] [] M) (x1 : Int32) (x3 : Int32) (x4 : Int32) (x5 : Int32) (x6 : Int32) (x7 : Int32) (x8 : Int32) (s0 : Int32) (s1 : Int32) (M : g_M) (h : f_X12_need__128 k k196 x1 x3 x4 x5 x6 x7 x8 s0 s1 M = some p) : g_G 10 X Y 128 [(0, g_r Y 59), (1, .int x1), (3, .int x3), (4, .int x4), (5, .int x5), (6, .int x6), (7, .int x7), (8, .int x8)] [.int s0, .int s1] M := by
  unfold f_X12_need__128 at h
  have hif := g_if h
  clear h
  refine g_icmp_ge C dX12_need__128 (q := 131) (tgt := 196) rfl (by decide) (fun c => ?_) (fun c => ?_)
  · have h := hif.1 c
    clear hif
    refine g_sub [0, 1, 2, 3, 4, 5, 6] (lv' := [(0, g_r Y 59), (1, .int x1), (3, .int x3), (4, .int x4), (5, .int x5), (6, .int x6), (7, .int x7)]) rfl ?_
    exact hk196 x1 x3 x4 x5 x6 x7 M h
  · have h := hif.2 c
    clear hif
    refine g_iload C 4 dX12_need__131 (q := 133) rfl rfl ?_
    have hif := g_if h
    clear h
    refine g_if_ne C dX12_need__133 (q := 136) (tgt := 196) rfl (by decide) (fun c => ?_) (fun c => ?_)
    · have h := hif.2 c
      clear hif
      refine g_sub [0, 1, 2, 3, 4, 5, 6] (lv' := [(0, g_r Y 59), (1, .int x1), (3, .int x3), (4, .int x4), (5, .int x5), (6, .int x6), (7, .int x7)]) rfl ?_
      exact hk196 x1 x3 x4 x5 x6 x7 M h
    · have h := hif.1 c
      clear hif
      refine g_iconst C (v := 1) dX12_need__136 (q := 137) rfl (by decide) ?_
      refine g_iload C 5 dX12_need__137 (q := 139) rfl rfl ?_
      refine g_ishl C dX12_need__139 (q := 140) rfl ?_
      refine g_iload C 6 dX12_need__140 (q := 142) rfl rfl ?_
      have hif := g_if h
      clear h
      refine g_if_ge C dX12_need__142 (q := 145) (tgt := 149) rfl (by decide) (fun c => ?_) (fun c => ?_)
      · have h := hif.1 c
        clear hif
        refine g_iconst C (v := 1) dX12_need__149 (q := 150) rfl (by decide) ?_
        refine g_iload C 6 dX12_need__150 (q := 152) rfl rfl ?_
        refine g_ishl C dX12_need__152 (q := 153) rfl ?_
        refine g_sub [0, 1, 2, 3, 5, 6, 7] (lv' := [(0, g_r Y 59), (1, .int x1), (3, .int x3), (4, .int x4), (6, .int x6), (7, .int x7), (8, .int x8)]) rfl ?_
        exact t_X12_need__153 C E ih x1 x3 x4 x6 x7 x8 ((1 : Int32) <<< (x7 &&& 31)) ((1 : Int32) <<< (x6 &&& 31)) M h
      · have h := hif.2 c
        clear hif
        refine g_iconst C (v := 0) dX12_need__145 (q := 146) rfl (by decide) ?_
        refine g_goto C dX12_need__146 (tgt := 153) (by decide) ?_
        refine g_sub [0, 1, 2, 3, 5, 6, 7] (lv' := [(0, g_r Y 59), (1, .int x1), (3, .int x3), (4, .int x4), (6, .int x6), (7, .int x7), (8, .int x8)]) rfl ?_
        exact t_X12_need__153 C E ih x1 x3 x4 x6 x7 x8 0 ((1 : Int32) <<< (x6 &&& 31)) M h
theorem r_X12_need__128 {p : Int32 × g_M} {k : Int32 → Int32 → Int32 → Int32 → Int32 → Int32 → Int32 → g_M → Option (Int32 × g_M)} {k196 : Int32 → Int32 → Int32 → Int32 → Int32 → Int32 → g_M → Option (Int32 × g_M)} (ih : ∀ (x1 : Int32) (x3 : Int32) (x4 : Int32) (x5 : Int32) (x6 : Int32) (x7 : Int32) (x8 : Int32) (M : g_M), k x1 x3 x4 x5 x6 x7 x8 M = some p → g_fr [63, 68, 69] [] M p.2) (hk196 : ∀ (x1 : Int32) (x3 : Int32) (x4 : Int32) (x5 : Int32) (x6 : Int32) (x7 : Int32) (M : g_M), k196 x1 x3 x4 x5 x6 x7 M = some p → g_fr [63, 68, 69] [] M p.2) (x1 : Int32) (x3 : Int32) (x4 : Int32) (x5 : Int32) (x6 : Int32) (x7 : Int32) (x8 : Int32) (s0 : Int32) (s1 : Int32) (M : g_M) (h : f_X12_need__128 k k196 x1 x3 x4 x5 x6 x7 x8 s0 s1 M = some p) : g_fr [63, 68, 69] [] M p.2 := by
  unfold f_X12_need__128 at h
  have hf := g_fr.rfl (S := [63, 68, 69]) (T := []) (M := M)
  rcases g_ifs h with h | h
  · exact hf.trans (hk196 x1 x3 x4 x5 x6 x7 M h)
  · rcases g_ifs h with h | h
    · rcases g_ifs h with h | h
      · exact hf.trans (r_X12_need__153 ih x1 x3 x4 x6 x7 x8 ((1 : Int32) <<< (x7 &&& 31)) ((1 : Int32) <<< (x6 &&& 31)) M h)
      · exact hf.trans (r_X12_need__153 ih x1 x3 x4 x6 x7 x8 0 ((1 : Int32) <<< (x6 &&& 31)) M h)
    · exact hf.trans (hk196 x1 x3 x4 x5 x6 x7 M h)
def F_X12_need__114 (k196 : Int32 → Int32 → Int32 → Int32 → Int32 → Int32 → g_M → Option (Int32 × g_M)) (k : Int32 → Int32 → Int32 → Int32 → Int32 → Int32 → Int32 → g_M → Option (Int32 × g_M)) (x1 : Int32) (x3 : Int32) (x4 : Int32) (x5 : Int32) (x6 : Int32) (x7 : Int32) (x8 : Int32) (M : g_M) : Option (Int32 × g_M) :=
  (if x4 ≤ 2 then (f_X12_need__128 k k196 x1 x3 x4 x5 x6 x7 x8 0 x8 M) else (f_X12_need__128 k k196 x1 x3 x4 x5 x6 x7 x8 x7 x8 M))
set_option maxRecDepth 100000 in
theorem t_X12_need__114 {l : Launch} {X : g_X} {Y : g_Y} {p : Int32 × g_M} {k196 : Int32 → Int32 → Int32 → Int32 → Int32 → Int32 → g_M → Option (Int32 × g_M)} (C : g_C l (g_rm (4)) RX12 cX12_need_ 10 X Y) (E : g_E (some .int) X Y (some (.int p.1)) p.2) (hk196 : ∀ (x1 : Int32) (x3 : Int32) (x4 : Int32) (x5 : Int32) (x6 : Int32) (x7 : Int32) (M : g_M), k196 x1 x3 x4 x5 x6 x7 M = some p → g_G 10 X Y 196 [(0, g_r Y 59), (1, .int x1), (3, .int x3), (4, .int x4), (5, .int x5), (6, .int x6), (7, .int x7)] [] M) (n : Nat) : ∀ (x1 : Int32) (x3 : Int32) (x4 : Int32) (x5 : Int32) (x6 : Int32) (x7 : Int32) (x8 : Int32) (M : g_M), g_lp7 (F_X12_need__114 k196) n x1 x3 x4 x5 x6 x7 x8 M = some p → g_G 10 X Y 114 [(0, g_r Y 59), (1, .int x1), (3, .int x3), (4, .int x4), (5, .int x5), (6, .int x6), (7, .int x7), (8, .int x8)] [] M := by
  induction n with
  | zero => intro x1 x3 x4 x5 x6 x7 x8 M h; exact (g_nn h).elim
  | succ n ih =>
    intro x1 x3 x4 x5 x6 x7 x8 M h
    have h : F_X12_need__114 k196 (g_lp7 (F_X12_need__114 k196) n) x1 x3 x4 x5 x6 x7 x8 M = some p := h
    generalize g_lp7 (F_X12_need__114 k196) n = k at h ih
    unfold F_X12_need__114 at h
    refine g_iload C 7 dX12_need__114 (q := 116) rfl rfl ?_
    refine g_iload C 3 dX12_need__116 (q := 118) rfl rfl ?_
    refine g_iconst C (v := 2) dX12_need__118 (q := 119) rfl (by decide) ?_
    have hif := g_if h
    clear h
    refine g_icmp_le C dX12_need__119 (q := 122) (tgt := 127) rfl (by decide) (fun c => ?_) (fun c => ?_)
    · have h := hif.1 c
      clear hif
      refine g_iconst C (v := 0) dX12_need__127 (q := 128) rfl (by decide) ?_
      refine g_sub [0, 1, 2, 3, 4, 5, 6, 7] (lv' := [(0, g_r Y 59), (1, .int x1), (3, .int x3), (4, .int x4), (5, .int x5), (6, .int x6), (7, .int x7), (8, .int x8)]) rfl ?_
      exact t_X12_need__128 C E ih hk196 x1 x3 x4 x5 x6 x7 x8 0 x8 M h
    · have h := hif.2 c
      clear hif
      refine g_iload C 6 dX12_need__122 (q := 124) rfl rfl ?_
      refine g_goto C dX12_need__124 (tgt := 128) (by decide) ?_
      refine g_sub [0, 1, 2, 3, 4, 5, 6, 7] (lv' := [(0, g_r Y 59), (1, .int x1), (3, .int x3), (4, .int x4), (5, .int x5), (6, .int x6), (7, .int x7), (8, .int x8)]) rfl ?_
      exact t_X12_need__128 C E ih hk196 x1 x3 x4 x5 x6 x7 x8 x7 x8 M h
theorem r_X12_need__114 {p : Int32 × g_M} {k196 : Int32 → Int32 → Int32 → Int32 → Int32 → Int32 → g_M → Option (Int32 × g_M)} (hk196 : ∀ (x1 : Int32) (x3 : Int32) (x4 : Int32) (x5 : Int32) (x6 : Int32) (x7 : Int32) (M : g_M), k196 x1 x3 x4 x5 x6 x7 M = some p → g_fr [63, 68, 69] [] M p.2) (n : Nat) : ∀ (x1 : Int32) (x3 : Int32) (x4 : Int32) (x5 : Int32) (x6 : Int32) (x7 : Int32) (x8 : Int32) (M : g_M), g_lp7 (F_X12_need__114 k196) n x1 x3 x4 x5 x6 x7 x8 M = some p → g_fr [63, 68, 69] [] M p.2 := by
  induction n with
  | zero => intro x1 x3 x4 x5 x6 x7 x8 M h; exact (g_nn h).elim
  | succ n ih =>
    intro x1 x3 x4 x5 x6 x7 x8 M h
    have h : F_X12_need__114 k196 (g_lp7 (F_X12_need__114 k196) n) x1 x3 x4 x5 x6 x7 x8 M = some p := h
    generalize g_lp7 (F_X12_need__114 k196) n = k at h ih
    unfold F_X12_need__114 at h
    have hf := g_fr.rfl (S := [63, 68, 69]) (T := []) (M := M)
    rcases g_ifs h with h | h
    · exact hf.trans (r_X12_need__128 ih hk196 x1 x3 x4 x5 x6 x7 x8 0 x8 M h)
    · exact hf.trans (r_X12_need__128 ih hk196 x1 x3 x4 x5 x6 x7 x8 x7 x8 M h)
def f_X12_need__93 (k : Int32 → Int32 → Int32 → Int32 → Int32 → Int32 → g_M → Option (Int32 × g_M)) (k202 : Int32 → Int32 → Int32 → Int32 → Int32 → g_M → Option (Int32 × g_M)) (x1 : Int32) (x3 : Int32) (x4 : Int32) (x5 : Int32) (x6 : Int32) (x7 : Int32) (s0 : Int32) (s1 : Int32) (M : g_M) : Option (Int32 × g_M) :=
  (if s0 ≤ s1 then (k202 x1 x3 x4 x5 x6 M) else ((if x5 = 0 then ((if x4 ≤ 2 then (g_lp7 (F_X12_need__114 (fun (x1 : Int32) (x3 : Int32) (x4 : Int32) (x5 : Int32) (x6 : Int32) (x7 : Int32) (M : g_M) => k x1 x3 x4 x5 x6 (x7 + 1) M)) 20000000 x1 x3 x4 x5 x6 x7 (-1) M) else (g_lp7 (F_X12_need__114 (fun (x1 : Int32) (x3 : Int32) (x4 : Int32) (x5 : Int32) (x6 : Int32) (x7 : Int32) (M : g_M) => k x1 x3 x4 x5 x6 (x7 + 1) M)) 20000000 x1 x3 x4 x5 x6 x7 0 M))) else (k202 x1 x3 x4 x5 x6 M))))
set_option maxRecDepth 100000 in
theorem t_X12_need__93 {l : Launch} {X : g_X} {Y : g_Y} {p : Int32 × g_M} {k : Int32 → Int32 → Int32 → Int32 → Int32 → Int32 → g_M → Option (Int32 × g_M)} {k202 : Int32 → Int32 → Int32 → Int32 → Int32 → g_M → Option (Int32 × g_M)} (C : g_C l (g_rm (4)) RX12 cX12_need_ 10 X Y) (E : g_E (some .int) X Y (some (.int p.1)) p.2) (ih : ∀ (x1 : Int32) (x3 : Int32) (x4 : Int32) (x5 : Int32) (x6 : Int32) (x7 : Int32) (M : g_M), k x1 x3 x4 x5 x6 x7 M = some p → g_G 10 X Y 79 [(0, g_r Y 59), (1, .int x1), (3, .int x3), (4, .int x4), (5, .int x5), (6, .int x6), (7, .int x7)] [] M) (hk202 : ∀ (x1 : Int32) (x3 : Int32) (x4 : Int32) (x5 : Int32) (x6 : Int32) (M : g_M), k202 x1 x3 x4 x5 x6 M = some p → g_G 10 X Y 202 [(0, g_r Y 59), (1, .int x1), (3, .int x3), (4, .int x4), (5, .int x5), (6, .int x6)] [] M) (x1 : Int32) (x3 : Int32) (x4 : Int32) (x5 : Int32) (x6 : Int32) (x7 : Int32) (s0 : Int32) (s1 : Int32) (M : g_M) (h : f_X12_need__93 k k202 x1 x3 x4 x5 x6 x7 s0 s1 M = some p) : g_G 10 X Y 93 [(0, g_r Y 59), (1, .int x1), (3, .int x3), (4, .int x4), (5, .int x5), (6, .int x6), (7, .int x7)] [.int s0, .int s1] M := by
  unfold f_X12_need__93 at h
  have hif := g_if h
  clear h
  refine g_icmp_ge C dX12_need__93 (q := 96) (tgt := 202) rfl (by decide) (fun c => ?_) (fun c => ?_)
  · have h := hif.1 c
    clear hif
    refine g_sub [0, 1, 2, 3, 4, 5] (lv' := [(0, g_r Y 59), (1, .int x1), (3, .int x3), (4, .int x4), (5, .int x5), (6, .int x6)]) rfl ?_
    exact hk202 x1 x3 x4 x5 x6 M h
  · have h := hif.2 c
    clear hif
    refine g_iload C 4 dX12_need__96 (q := 98) rfl rfl ?_
    have hif := g_if h
    clear h
    refine g_if_ne C dX12_need__98 (q := 101) (tgt := 202) rfl (by decide) (fun c => ?_) (fun c => ?_)
    · have h := hif.2 c
      clear hif
      refine g_sub [0, 1, 2, 3, 4, 5] (lv' := [(0, g_r Y 59), (1, .int x1), (3, .int x3), (4, .int x4), (5, .int x5), (6, .int x6)]) rfl ?_
      exact hk202 x1 x3 x4 x5 x6 M h
    · have h := hif.1 c
      clear hif
      refine g_iload C 3 dX12_need__101 (q := 103) rfl rfl ?_
      refine g_iconst C (v := 2) dX12_need__103 (q := 104) rfl (by decide) ?_
      have hif := g_if h
      clear h
      refine g_icmp_le C dX12_need__104 (q := 107) (tgt := 111) rfl (by decide) (fun c => ?_) (fun c => ?_)
      · have h := hif.1 c
        clear hif
        refine g_iconst C (v := (-1)) dX12_need__111 (q := 112) rfl (by decide) ?_
        refine g_istore C dX12_need__112 (q := 114) rfl (by decide) (lv' := [(8, .int (-1)), (0, g_r Y 59), (1, .int x1), (3, .int x3), (4, .int x4), (5, .int x5), (6, .int x6), (7, .int x7)]) rfl ?_
        refine g_sub [1, 2, 3, 4, 5, 6, 7, 0] (lv' := [(0, g_r Y 59), (1, .int x1), (3, .int x3), (4, .int x4), (5, .int x5), (6, .int x6), (7, .int x7), (8, .int (-1))]) rfl ?_
        refine t_X12_need__114 C E ?_ 20000000 x1 x3 x4 x5 x6 x7 (-1) M h
        · intro x1 x3 x4 x5 x6 x7 M h
          try dsimp only at h
          refine g_iinc C (k := 6) (v := x7 + 1) dX12_need__196 (q := 199) rfl rfl rfl (by decide) (lv' := [(7, .int (x7 + 1)), (0, g_r Y 59), (1, .int x1), (3, .int x3), (4, .int x4), (5, .int x5), (6, .int x6)]) rfl ?_
          refine g_goto C dX12_need__199 (tgt := 79) (by decide) ?_
          refine g_sub [1, 2, 3, 4, 5, 6, 0] (lv' := [(0, g_r Y 59), (1, .int x1), (3, .int x3), (4, .int x4), (5, .int x5), (6, .int x6), (7, .int (x7 + 1))]) rfl ?_
          exact ih x1 x3 x4 x5 x6 (x7 + 1) M h
      · have h := hif.2 c
        clear hif
        refine g_iconst C (v := 0) dX12_need__107 (q := 108) rfl (by decide) ?_
        refine g_goto C dX12_need__108 (tgt := 112) (by decide) ?_
        refine g_istore C dX12_need__112 (q := 114) rfl (by decide) (lv' := [(8, .int 0), (0, g_r Y 59), (1, .int x1), (3, .int x3), (4, .int x4), (5, .int x5), (6, .int x6), (7, .int x7)]) rfl ?_
        refine g_sub [1, 2, 3, 4, 5, 6, 7, 0] (lv' := [(0, g_r Y 59), (1, .int x1), (3, .int x3), (4, .int x4), (5, .int x5), (6, .int x6), (7, .int x7), (8, .int 0)]) rfl ?_
        refine t_X12_need__114 C E ?_ 20000000 x1 x3 x4 x5 x6 x7 0 M h
        · intro x1 x3 x4 x5 x6 x7 M h
          try dsimp only at h
          refine g_iinc C (k := 6) (v := x7 + 1) dX12_need__196 (q := 199) rfl rfl rfl (by decide) (lv' := [(7, .int (x7 + 1)), (0, g_r Y 59), (1, .int x1), (3, .int x3), (4, .int x4), (5, .int x5), (6, .int x6)]) rfl ?_
          refine g_goto C dX12_need__199 (tgt := 79) (by decide) ?_
          refine g_sub [1, 2, 3, 4, 5, 6, 0] (lv' := [(0, g_r Y 59), (1, .int x1), (3, .int x3), (4, .int x4), (5, .int x5), (6, .int x6), (7, .int (x7 + 1))]) rfl ?_
          exact ih x1 x3 x4 x5 x6 (x7 + 1) M h
theorem r_X12_need__93 {p : Int32 × g_M} {k : Int32 → Int32 → Int32 → Int32 → Int32 → Int32 → g_M → Option (Int32 × g_M)} {k202 : Int32 → Int32 → Int32 → Int32 → Int32 → g_M → Option (Int32 × g_M)} (ih : ∀ (x1 : Int32) (x3 : Int32) (x4 : Int32) (x5 : Int32) (x6 : Int32) (x7 : Int32) (M : g_M), k x1 x3 x4 x5 x6 x7 M = some p → g_fr [63, 68, 69] [] M p.2) (hk202 : ∀ (x1 : Int32) (x3 : Int32) (x4 : Int32) (x5 : Int32) (x6 : Int32) (M : g_M), k202 x1 x3 x4 x5 x6 M = some p → g_fr [63, 68, 69] [] M p.2) (x1 : Int32) (x3 : Int32) (x4 : Int32) (x5 : Int32) (x6 : Int32) (x7 : Int32) (s0 : Int32) (s1 : Int32) (M : g_M) (h : f_X12_need__93 k k202 x1 x3 x4 x5 x6 x7 s0 s1 M = some p) : g_fr [63, 68, 69] [] M p.2 := by
  unfold f_X12_need__93 at h
  have hf := g_fr.rfl (S := [63, 68, 69]) (T := []) (M := M)
  rcases g_ifs h with h | h
  · exact hf.trans (hk202 x1 x3 x4 x5 x6 M h)
  · rcases g_ifs h with h | h
    · rcases g_ifs h with h | h
      · refine hf.trans (r_X12_need__114 ?_ 20000000 x1 x3 x4 x5 x6 x7 (-1) M h)
        · intro x1 x3 x4 x5 x6 x7 M h
          try dsimp only at h
          have hf := g_fr.rfl (S := [63, 68, 69]) (T := []) (M := M)
          exact hf.trans (ih x1 x3 x4 x5 x6 (x7 + 1) M h)
      · refine hf.trans (r_X12_need__114 ?_ 20000000 x1 x3 x4 x5 x6 x7 0 M h)
        · intro x1 x3 x4 x5 x6 x7 M h
          try dsimp only at h
          have hf := g_fr.rfl (S := [63, 68, 69]) (T := []) (M := M)
          exact hf.trans (ih x1 x3 x4 x5 x6 (x7 + 1) M h)
    · exact hf.trans (hk202 x1 x3 x4 x5 x6 M h)
def F_X12_need__79 (k202 : Int32 → Int32 → Int32 → Int32 → Int32 → g_M → Option (Int32 × g_M)) (k : Int32 → Int32 → Int32 → Int32 → Int32 → Int32 → g_M → Option (Int32 × g_M)) (x1 : Int32) (x3 : Int32) (x4 : Int32) (x5 : Int32) (x6 : Int32) (x7 : Int32) (M : g_M) : Option (Int32 × g_M) :=
  (if x4 ≤ 1 then (f_X12_need__93 k k202 x1 x3 x4 x5 x6 x7 0 x7 M) else (f_X12_need__93 k k202 x1 x3 x4 x5 x6 x7 x6 x7 M))
set_option maxRecDepth 100000 in
theorem t_X12_need__79 {l : Launch} {X : g_X} {Y : g_Y} {p : Int32 × g_M} {k202 : Int32 → Int32 → Int32 → Int32 → Int32 → g_M → Option (Int32 × g_M)} (C : g_C l (g_rm (4)) RX12 cX12_need_ 10 X Y) (E : g_E (some .int) X Y (some (.int p.1)) p.2) (hk202 : ∀ (x1 : Int32) (x3 : Int32) (x4 : Int32) (x5 : Int32) (x6 : Int32) (M : g_M), k202 x1 x3 x4 x5 x6 M = some p → g_G 10 X Y 202 [(0, g_r Y 59), (1, .int x1), (3, .int x3), (4, .int x4), (5, .int x5), (6, .int x6)] [] M) (n : Nat) : ∀ (x1 : Int32) (x3 : Int32) (x4 : Int32) (x5 : Int32) (x6 : Int32) (x7 : Int32) (M : g_M), g_lp6 (F_X12_need__79 k202) n x1 x3 x4 x5 x6 x7 M = some p → g_G 10 X Y 79 [(0, g_r Y 59), (1, .int x1), (3, .int x3), (4, .int x4), (5, .int x5), (6, .int x6), (7, .int x7)] [] M := by
  induction n with
  | zero => intro x1 x3 x4 x5 x6 x7 M h; exact (g_nn h).elim
  | succ n ih =>
    intro x1 x3 x4 x5 x6 x7 M h
    have h : F_X12_need__79 k202 (g_lp6 (F_X12_need__79 k202) n) x1 x3 x4 x5 x6 x7 M = some p := h
    generalize g_lp6 (F_X12_need__79 k202) n = k at h ih
    unfold F_X12_need__79 at h
    refine g_iload C 6 dX12_need__79 (q := 81) rfl rfl ?_
    refine g_iload C 3 dX12_need__81 (q := 83) rfl rfl ?_
    refine g_iconst C (v := 1) dX12_need__83 (q := 84) rfl (by decide) ?_
    have hif := g_if h
    clear h
    refine g_icmp_le C dX12_need__84 (q := 87) (tgt := 92) rfl (by decide) (fun c => ?_) (fun c => ?_)
    · have h := hif.1 c
      clear hif
      refine g_iconst C (v := 0) dX12_need__92 (q := 93) rfl (by decide) ?_
      refine g_sub [0, 1, 2, 3, 4, 5, 6] (lv' := [(0, g_r Y 59), (1, .int x1), (3, .int x3), (4, .int x4), (5, .int x5), (6, .int x6), (7, .int x7)]) rfl ?_
      exact t_X12_need__93 C E ih hk202 x1 x3 x4 x5 x6 x7 0 x7 M h
    · have h := hif.2 c
      clear hif
      refine g_iload C 5 dX12_need__87 (q := 89) rfl rfl ?_
      refine g_goto C dX12_need__89 (tgt := 93) (by decide) ?_
      refine g_sub [0, 1, 2, 3, 4, 5, 6] (lv' := [(0, g_r Y 59), (1, .int x1), (3, .int x3), (4, .int x4), (5, .int x5), (6, .int x6), (7, .int x7)]) rfl ?_
      exact t_X12_need__93 C E ih hk202 x1 x3 x4 x5 x6 x7 x6 x7 M h
theorem r_X12_need__79 {p : Int32 × g_M} {k202 : Int32 → Int32 → Int32 → Int32 → Int32 → g_M → Option (Int32 × g_M)} (hk202 : ∀ (x1 : Int32) (x3 : Int32) (x4 : Int32) (x5 : Int32) (x6 : Int32) (M : g_M), k202 x1 x3 x4 x5 x6 M = some p → g_fr [63, 68, 69] [] M p.2) (n : Nat) : ∀ (x1 : Int32) (x3 : Int32) (x4 : Int32) (x5 : Int32) (x6 : Int32) (x7 : Int32) (M : g_M), g_lp6 (F_X12_need__79 k202) n x1 x3 x4 x5 x6 x7 M = some p → g_fr [63, 68, 69] [] M p.2 := by
  induction n with
  | zero => intro x1 x3 x4 x5 x6 x7 M h; exact (g_nn h).elim
  | succ n ih =>
    intro x1 x3 x4 x5 x6 x7 M h
    have h : F_X12_need__79 k202 (g_lp6 (F_X12_need__79 k202) n) x1 x3 x4 x5 x6 x7 M = some p := h
    generalize g_lp6 (F_X12_need__79 k202) n = k at h ih
    unfold F_X12_need__79 at h
    have hf := g_fr.rfl (S := [63, 68, 69]) (T := []) (M := M)
    rcases g_ifs h with h | h
    · exact hf.trans (r_X12_need__93 ih hk202 x1 x3 x4 x5 x6 x7 0 x7 M h)
    · exact hf.trans (r_X12_need__93 ih hk202 x1 x3 x4 x5 x6 x7 x6 x7 M h)
def F_X12_need__54 (k208 : Int32 → Int32 → Int32 → Int32 → g_M → Option (Int32 × g_M)) (k : Int32 → Int32 → Int32 → Int32 → Int32 → g_M → Option (Int32 × g_M)) (x1 : Int32) (x3 : Int32) (x4 : Int32) (x5 : Int32) (x6 : Int32) (M : g_M) : Option (Int32 × g_M) :=
  (if 24 ≤ x6 then (k208 x1 x3 x4 x5 M) else ((if x5 = 0 then ((if x4 ≤ 1 then (g_lp6 (F_X12_need__79 (fun (x1 : Int32) (x3 : Int32) (x4 : Int32) (x5 : Int32) (x6 : Int32) (M : g_M) => k x1 x3 x4 x5 (x6 + 1) M)) 20000000 x1 x3 x4 x5 x6 (-1) M) else (g_lp6 (F_X12_need__79 (fun (x1 : Int32) (x3 : Int32) (x4 : Int32) (x5 : Int32) (x6 : Int32) (M : g_M) => k x1 x3 x4 x5 (x6 + 1) M)) 20000000 x1 x3 x4 x5 x6 0 M))) else (k208 x1 x3 x4 x5 M))))
set_option maxRecDepth 100000 in
theorem t_X12_need__54 {l : Launch} {X : g_X} {Y : g_Y} {p : Int32 × g_M} {k208 : Int32 → Int32 → Int32 → Int32 → g_M → Option (Int32 × g_M)} (C : g_C l (g_rm (4)) RX12 cX12_need_ 10 X Y) (E : g_E (some .int) X Y (some (.int p.1)) p.2) (hk208 : ∀ (x1 : Int32) (x3 : Int32) (x4 : Int32) (x5 : Int32) (M : g_M), k208 x1 x3 x4 x5 M = some p → g_G 10 X Y 208 [(0, g_r Y 59), (1, .int x1), (3, .int x3), (4, .int x4), (5, .int x5)] [] M) (n : Nat) : ∀ (x1 : Int32) (x3 : Int32) (x4 : Int32) (x5 : Int32) (x6 : Int32) (M : g_M), g_lp5 (F_X12_need__54 k208) n x1 x3 x4 x5 x6 M = some p → g_G 10 X Y 54 [(0, g_r Y 59), (1, .int x1), (3, .int x3), (4, .int x4), (5, .int x5), (6, .int x6)] [] M := by
  induction n with
  | zero => intro x1 x3 x4 x5 x6 M h; exact (g_nn h).elim
  | succ n ih =>
    intro x1 x3 x4 x5 x6 M h
    have h : F_X12_need__54 k208 (g_lp5 (F_X12_need__54 k208) n) x1 x3 x4 x5 x6 M = some p := h
    generalize g_lp5 (F_X12_need__54 k208) n = k at h ih
    unfold F_X12_need__54 at h
    refine g_iload C 5 dX12_need__54 (q := 56) rfl rfl ?_
    refine g_bipush C (v := 24) dX12_need__56 (q := 58) rfl (by decide) ?_
    have hif := g_if h
    clear h
    refine g_icmp_ge C dX12_need__58 (q := 61) (tgt := 208) rfl (by decide) (fun c => ?_) (fun c => ?_)
    · have h := hif.1 c
      clear hif
      refine g_sub [0, 1, 2, 3, 4] (lv' := [(0, g_r Y 59), (1, .int x1), (3, .int x3), (4, .int x4), (5, .int x5)]) rfl ?_
      exact hk208 x1 x3 x4 x5 M h
    · have h := hif.2 c
      clear hif
      refine g_iload C 4 dX12_need__61 (q := 63) rfl rfl ?_
      have hif := g_if h
      clear h
      refine g_if_ne C dX12_need__63 (q := 66) (tgt := 208) rfl (by decide) (fun c => ?_) (fun c => ?_)
      · have h := hif.2 c
        clear hif
        refine g_sub [0, 1, 2, 3, 4] (lv' := [(0, g_r Y 59), (1, .int x1), (3, .int x3), (4, .int x4), (5, .int x5)]) rfl ?_
        exact hk208 x1 x3 x4 x5 M h
      · have h := hif.1 c
        clear hif
        refine g_iload C 3 dX12_need__66 (q := 68) rfl rfl ?_
        refine g_iconst C (v := 1) dX12_need__68 (q := 69) rfl (by decide) ?_
        have hif := g_if h
        clear h
        refine g_icmp_le C dX12_need__69 (q := 72) (tgt := 76) rfl (by decide) (fun c => ?_) (fun c => ?_)
        · have h := hif.1 c
          clear hif
          refine g_iconst C (v := (-1)) dX12_need__76 (q := 77) rfl (by decide) ?_
          refine g_istore C dX12_need__77 (q := 79) rfl (by decide) (lv' := [(7, .int (-1)), (0, g_r Y 59), (1, .int x1), (3, .int x3), (4, .int x4), (5, .int x5), (6, .int x6)]) rfl ?_
          refine g_sub [1, 2, 3, 4, 5, 6, 0] (lv' := [(0, g_r Y 59), (1, .int x1), (3, .int x3), (4, .int x4), (5, .int x5), (6, .int x6), (7, .int (-1))]) rfl ?_
          refine t_X12_need__79 C E ?_ 20000000 x1 x3 x4 x5 x6 (-1) M h
          · intro x1 x3 x4 x5 x6 M h
            try dsimp only at h
            refine g_iinc C (k := 5) (v := x6 + 1) dX12_need__202 (q := 205) rfl rfl rfl (by decide) (lv' := [(6, .int (x6 + 1)), (0, g_r Y 59), (1, .int x1), (3, .int x3), (4, .int x4), (5, .int x5)]) rfl ?_
            refine g_goto C dX12_need__205 (tgt := 54) (by decide) ?_
            refine g_sub [1, 2, 3, 4, 5, 0] (lv' := [(0, g_r Y 59), (1, .int x1), (3, .int x3), (4, .int x4), (5, .int x5), (6, .int (x6 + 1))]) rfl ?_
            exact ih x1 x3 x4 x5 (x6 + 1) M h
        · have h := hif.2 c
          clear hif
          refine g_iconst C (v := 0) dX12_need__72 (q := 73) rfl (by decide) ?_
          refine g_goto C dX12_need__73 (tgt := 77) (by decide) ?_
          refine g_istore C dX12_need__77 (q := 79) rfl (by decide) (lv' := [(7, .int 0), (0, g_r Y 59), (1, .int x1), (3, .int x3), (4, .int x4), (5, .int x5), (6, .int x6)]) rfl ?_
          refine g_sub [1, 2, 3, 4, 5, 6, 0] (lv' := [(0, g_r Y 59), (1, .int x1), (3, .int x3), (4, .int x4), (5, .int x5), (6, .int x6), (7, .int 0)]) rfl ?_
          refine t_X12_need__79 C E ?_ 20000000 x1 x3 x4 x5 x6 0 M h
          · intro x1 x3 x4 x5 x6 M h
            try dsimp only at h
            refine g_iinc C (k := 5) (v := x6 + 1) dX12_need__202 (q := 205) rfl rfl rfl (by decide) (lv' := [(6, .int (x6 + 1)), (0, g_r Y 59), (1, .int x1), (3, .int x3), (4, .int x4), (5, .int x5)]) rfl ?_
            refine g_goto C dX12_need__205 (tgt := 54) (by decide) ?_
            refine g_sub [1, 2, 3, 4, 5, 0] (lv' := [(0, g_r Y 59), (1, .int x1), (3, .int x3), (4, .int x4), (5, .int x5), (6, .int (x6 + 1))]) rfl ?_
            exact ih x1 x3 x4 x5 (x6 + 1) M h
theorem r_X12_need__54 {p : Int32 × g_M} {k208 : Int32 → Int32 → Int32 → Int32 → g_M → Option (Int32 × g_M)} (hk208 : ∀ (x1 : Int32) (x3 : Int32) (x4 : Int32) (x5 : Int32) (M : g_M), k208 x1 x3 x4 x5 M = some p → g_fr [63, 68, 69] [] M p.2) (n : Nat) : ∀ (x1 : Int32) (x3 : Int32) (x4 : Int32) (x5 : Int32) (x6 : Int32) (M : g_M), g_lp5 (F_X12_need__54 k208) n x1 x3 x4 x5 x6 M = some p → g_fr [63, 68, 69] [] M p.2 := by
  induction n with
  | zero => intro x1 x3 x4 x5 x6 M h; exact (g_nn h).elim
  | succ n ih =>
    intro x1 x3 x4 x5 x6 M h
    have h : F_X12_need__54 k208 (g_lp5 (F_X12_need__54 k208) n) x1 x3 x4 x5 x6 M = some p := h
    generalize g_lp5 (F_X12_need__54 k208) n = k at h ih
    unfold F_X12_need__54 at h
    have hf := g_fr.rfl (S := [63, 68, 69]) (T := []) (M := M)
    rcases g_ifs h with h | h
    · exact hf.trans (hk208 x1 x3 x4 x5 M h)
    · rcases g_ifs h with h | h
      · rcases g_ifs h with h | h
        · refine hf.trans (r_X12_need__79 ?_ 20000000 x1 x3 x4 x5 x6 (-1) M h)
          · intro x1 x3 x4 x5 x6 M h
            try dsimp only at h
            have hf := g_fr.rfl (S := [63, 68, 69]) (T := []) (M := M)
            exact hf.trans (ih x1 x3 x4 x5 (x6 + 1) M h)
        · refine hf.trans (r_X12_need__79 ?_ 20000000 x1 x3 x4 x5 x6 0 M h)
          · intro x1 x3 x4 x5 x6 M h
            try dsimp only at h
            have hf := g_fr.rfl (S := [63, 68, 69]) (T := []) (M := M)
            exact hf.trans (ih x1 x3 x4 x5 (x6 + 1) M h)
      · exact hf.trans (hk208 x1 x3 x4 x5 M h)
def f_X12_need__208 (k : Int32 → Int32 → Int32 → g_M → Option (Int32 × g_M)) (k213 : Int32 → g_M → Option (Int32 × g_M)) (x1 : Int32) (x3 : Int32) (x4 : Int32) (x5 : Int32) (M : g_M) : Option (Int32 × g_M) :=
  (if x5 = 0 then (k x1 x3 (x4 + 1) M) else (k213 x5 M))
set_option maxRecDepth 100000 in
theorem t_X12_need__208 {l : Launch} {X : g_X} {Y : g_Y} {p : Int32 × g_M} {k : Int32 → Int32 → Int32 → g_M → Option (Int32 × g_M)} {k213 : Int32 → g_M → Option (Int32 × g_M)} (C : g_C l (g_rm (4)) RX12 cX12_need_ 10 X Y) (E : g_E (some .int) X Y (some (.int p.1)) p.2) (ih : ∀ (x1 : Int32) (x3 : Int32) (x4 : Int32) (M : g_M), k x1 x3 x4 M = some p → g_G 10 X Y 42 [(0, g_r Y 59), (1, .int x1), (3, .int x3), (4, .int x4)] [] M) (hk213 : ∀ (x5 : Int32) (M : g_M), k213 x5 M = some p → g_G 10 X Y 213 [(5, .int x5)] [] M) (x1 : Int32) (x3 : Int32) (x4 : Int32) (x5 : Int32) (M : g_M) (h : f_X12_need__208 k k213 x1 x3 x4 x5 M = some p) : g_G 10 X Y 208 [(0, g_r Y 59), (1, .int x1), (3, .int x3), (4, .int x4), (5, .int x5)] [] M := by
  unfold f_X12_need__208 at h
  refine g_iload C 4 dX12_need__208 (q := 210) rfl rfl ?_
  have hif := g_if h
  clear h
  refine g_if_eq C dX12_need__210 (q := 213) (tgt := 216) rfl (by decide) (fun c => ?_) (fun c => ?_)
  · have h := hif.1 c
    clear hif
    refine g_iinc C (k := 3) (v := x4 + 1) dX12_need__216 (q := 219) rfl rfl rfl (by decide) (lv' := [(4, .int (x4 + 1)), (0, g_r Y 59), (1, .int x1), (3, .int x3), (5, .int x5)]) rfl ?_
    refine g_goto C dX12_need__219 (tgt := 42) (by decide) ?_
    refine g_sub [1, 2, 3, 0] (lv' := [(0, g_r Y 59), (1, .int x1), (3, .int x3), (4, .int (x4 + 1))]) rfl ?_
    exact ih x1 x3 (x4 + 1) M h
  · have h := hif.2 c
    clear hif
    refine g_sub [4] (lv' := [(5, .int x5)]) rfl ?_
    exact hk213 x5 M h
theorem r_X12_need__208 {p : Int32 × g_M} {k : Int32 → Int32 → Int32 → g_M → Option (Int32 × g_M)} {k213 : Int32 → g_M → Option (Int32 × g_M)} (ih : ∀ (x1 : Int32) (x3 : Int32) (x4 : Int32) (M : g_M), k x1 x3 x4 M = some p → g_fr [63, 68, 69] [] M p.2) (hk213 : ∀ (x5 : Int32) (M : g_M), k213 x5 M = some p → g_fr [63, 68, 69] [] M p.2) (x1 : Int32) (x3 : Int32) (x4 : Int32) (x5 : Int32) (M : g_M) (h : f_X12_need__208 k k213 x1 x3 x4 x5 M = some p) : g_fr [63, 68, 69] [] M p.2 := by
  unfold f_X12_need__208 at h
  have hf := g_fr.rfl (S := [63, 68, 69]) (T := []) (M := M)
  rcases g_ifs h with h | h
  · exact hf.trans (ih x1 x3 (x4 + 1) M h)
  · exact hf.trans (hk213 x5 M h)
def F_X12_need__42 (k213 : Int32 → g_M → Option (Int32 × g_M)) (k222 : g_M → Option (Int32 × g_M)) (k : Int32 → Int32 → Int32 → g_M → Option (Int32 × g_M)) (x1 : Int32) (x3 : Int32) (x4 : Int32) (M : g_M) : Option (Int32 × g_M) :=
  (if 3 < x4 then (k222 M) else (g_lp5 (F_X12_need__54 (fun (x1 : Int32) (x3 : Int32) (x4 : Int32) (x5 : Int32) (M : g_M) => f_X12_need__208 k k213 x1 x3 x4 x5 M)) 20000000 x1 x3 x4 0 0 M))
set_option maxRecDepth 100000 in
theorem t_X12_need__42 {l : Launch} {X : g_X} {Y : g_Y} {p : Int32 × g_M} {k213 : Int32 → g_M → Option (Int32 × g_M)} {k222 : g_M → Option (Int32 × g_M)} (C : g_C l (g_rm (4)) RX12 cX12_need_ 10 X Y) (E : g_E (some .int) X Y (some (.int p.1)) p.2) (hk213 : ∀ (x5 : Int32) (M : g_M), k213 x5 M = some p → g_G 10 X Y 213 [(5, .int x5)] [] M) (hk222 : ∀ (M : g_M), k222 M = some p → g_G 10 X Y 222 [(0, g_r Y 59)] [] M) (n : Nat) : ∀ (x1 : Int32) (x3 : Int32) (x4 : Int32) (M : g_M), g_lp3 (F_X12_need__42 k213 k222) n x1 x3 x4 M = some p → g_G 10 X Y 42 [(0, g_r Y 59), (1, .int x1), (3, .int x3), (4, .int x4)] [] M := by
  induction n with
  | zero => intro x1 x3 x4 M h; exact (g_nn h).elim
  | succ n ih =>
    intro x1 x3 x4 M h
    have h : F_X12_need__42 k213 k222 (g_lp3 (F_X12_need__42 k213 k222) n) x1 x3 x4 M = some p := h
    generalize g_lp3 (F_X12_need__42 k213 k222) n = k at h ih
    unfold F_X12_need__42 at h
    refine g_iload C 3 dX12_need__42 (q := 44) rfl rfl ?_
    refine g_iconst C (v := 3) dX12_need__44 (q := 45) rfl (by decide) ?_
    have hif := g_if h
    clear h
    refine g_icmp_gt C dX12_need__45 (q := 48) (tgt := 222) rfl (by decide) (fun c => ?_) (fun c => ?_)
    · have h := hif.1 c
      clear hif
      refine g_sub [0] (lv' := [(0, g_r Y 59)]) rfl ?_
      exact hk222 M h
    · have h := hif.2 c
      clear hif
      refine g_iconst C (v := 0) dX12_need__48 (q := 49) rfl (by decide) ?_
      refine g_istore C dX12_need__49 (q := 51) rfl (by decide) (lv' := [(5, .int 0), (0, g_r Y 59), (1, .int x1), (3, .int x3), (4, .int x4)]) rfl ?_
      refine g_iconst C (v := 0) dX12_need__51 (q := 52) rfl (by decide) ?_
      refine g_istore C dX12_need__52 (q := 54) rfl (by decide) (lv' := [(6, .int 0), (5, .int 0), (0, g_r Y 59), (1, .int x1), (3, .int x3), (4, .int x4)]) rfl ?_
      refine g_sub [2, 3, 4, 5, 1, 0] (lv' := [(0, g_r Y 59), (1, .int x1), (3, .int x3), (4, .int x4), (5, .int 0), (6, .int 0)]) rfl ?_
      refine t_X12_need__54 C E ?_ 20000000 x1 x3 x4 0 0 M h
      · intro x1 x3 x4 x5 M h
        try dsimp only at h
        refine g_sub [0, 1, 2, 3, 4] (lv' := [(0, g_r Y 59), (1, .int x1), (3, .int x3), (4, .int x4), (5, .int x5)]) rfl ?_
        exact t_X12_need__208 C E ih hk213 x1 x3 x4 x5 M h
theorem r_X12_need__42 {p : Int32 × g_M} {k213 : Int32 → g_M → Option (Int32 × g_M)} {k222 : g_M → Option (Int32 × g_M)} (hk213 : ∀ (x5 : Int32) (M : g_M), k213 x5 M = some p → g_fr [63, 68, 69] [] M p.2) (hk222 : ∀ (M : g_M), k222 M = some p → g_fr [63, 68, 69] [] M p.2) (n : Nat) : ∀ (x1 : Int32) (x3 : Int32) (x4 : Int32) (M : g_M), g_lp3 (F_X12_need__42 k213 k222) n x1 x3 x4 M = some p → g_fr [63, 68, 69] [] M p.2 := by
  induction n with
  | zero => intro x1 x3 x4 M h; exact (g_nn h).elim
  | succ n ih =>
    intro x1 x3 x4 M h
    have h : F_X12_need__42 k213 k222 (g_lp3 (F_X12_need__42 k213 k222) n) x1 x3 x4 M = some p := h
    generalize g_lp3 (F_X12_need__42 k213 k222) n = k at h ih
    unfold F_X12_need__42 at h
    have hf := g_fr.rfl (S := [63, 68, 69]) (T := []) (M := M)
    rcases g_ifs h with h | h
    · exact hf.trans (hk222 M h)
    · refine hf.trans (r_X12_need__54 ?_ 20000000 x1 x3 x4 0 0 M h)
      · intro x1 x3 x4 x5 M h
        try dsimp only at h
        have hf := g_fr.rfl (S := [63, 68, 69]) (T := []) (M := M)
        exact hf.trans (r_X12_need__208 ih hk213 x1 x3 x4 x5 M h)
def f_X12_need_ (x1 : Int32) (x2 : Int32) (M : g_M) : Option (Int32 × g_M) :=
  (f_X12_isHanging x1 M).bind fun p1 => (if p1 = 0 then (f_X12_need__16 M) else ((f_X12_isSet x2 M).bind fun p3 => (if p3 = 0 then (f_X12_need__16 M) else ((f_X12_keysOf x2 M).bind fun p4 => (f_X12_opensBy x1 p4 M).bind fun p5 => (if p5.1 = 0 then (g_lp3 (F_X12_need__42 (fun (x5 : Int32) (M : g_M) => some (x5, M)) (fun (M : g_M) => (f_X12_finding 3 M).bind fun p7 => some (p7.1, p7.2))) 20000000 x1 p4 1 p5.2) else (some (0, p5.2)))))))
set_option maxRecDepth 100000 in
theorem m_X12_need_ {l : Launch} {Y : g_Y} {x1 : Int32} {x2 : Int32} {M : g_M} {p : Int32 × g_M} (h : f_X12_need_ x1 x2 M = some p) : g_R l Y (4) yX12_need_ cX12_need_ 10 (some .int) [g_r Y 59, .int x1, .int x2] M (some (.int p.1)) p.2 := by
  unfold f_X12_need_ at h
  refine g_R_of kP_X12 rfl (Nat.le_of_ble_eq_true rfl) (fun X C E => ?_)
  show g_G 10 X Y 0 [(0, g_r Y 59), (1, .int x1), (2, .int x2)] [] M
  refine g_aload_n C 0 dX12_need__0 (q := 1) rfl rfl rfl ?_
  refine g_iload_n C 1 dX12_need__1 (q := 2) rfl rfl rfl ?_
  obtain ⟨p1, hp1, h⟩ := g_bind h
  refine g_callV C (k := 59) (as := [.int x1]) (st := []) (m_X12_isHanging hp1) (g_hR (by decide)) (by decide) (by decide) (gc_59 Y _ _) rfl kM_X12_242 kI_X12_isHanging kS_X12_isHanging kN_X12 kC_X12_isHanging kD_X12_isHanging rfl (Nat.le_of_ble_eq_true rfl) dX12_need__2 (q := 5) rfl ?_
  show g_G 10 X Y 5 [(0, g_r Y 59), (1, .int x1), (2, .int x2)] [.int p1] M
  have hif := g_if h
  clear h
  refine g_if_eq C dX12_need__5 (q := 8) (tgt := 16) rfl (by decide) (fun c => ?_) (fun c => ?_)
  · have h := hif.1 c
    clear hif
    refine g_sub [0] (lv' := [(0, g_r Y 59)]) rfl ?_
    exact t_X12_need__16 C E M h
  · have h := hif.2 c
    clear hif
    refine g_aload_n C 0 dX12_need__8 (q := 9) rfl rfl rfl ?_
    refine g_iload_n C 2 dX12_need__9 (q := 10) rfl rfl rfl ?_
    obtain ⟨p3, hp3, h⟩ := g_bind h
    refine g_callV C (k := 59) (as := [.int x2]) (st := []) (m_X12_isSet hp3) (g_hR (by decide)) (by decide) (by decide) (gc_59 Y _ _) rfl kM_X12_202 kI_X12_isSet kS_X12_isSet kN_X12 kC_X12_isSet kD_X12_isSet rfl (Nat.le_of_ble_eq_true rfl) dX12_need__10 (q := 13) rfl ?_
    show g_G 10 X Y 13 [(0, g_r Y 59), (1, .int x1), (2, .int x2)] [.int p3] M
    have hif := g_if h
    clear h
    refine g_if_ne C dX12_need__13 (q := 16) (tgt := 22) rfl (by decide) (fun c => ?_) (fun c => ?_)
    · have h := hif.2 c
      clear hif
      refine g_aload_n C 0 dX12_need__22 (q := 23) rfl rfl rfl ?_
      refine g_iload_n C 2 dX12_need__23 (q := 24) rfl rfl rfl ?_
      obtain ⟨p4, hp4, h⟩ := g_bind h
      refine g_callV C (k := 59) (as := [.int x2]) (st := []) (m_X12_keysOf hp4) (g_hR (by decide)) (by decide) (by decide) (gc_59 Y _ _) rfl kM_X12_258 kI_X12_keysOf kS_X12_keysOf kN_X12 kC_X12_keysOf kD_X12_keysOf rfl (Nat.le_of_ble_eq_true rfl) dX12_need__24 (q := 27) rfl ?_
      show g_G 10 X Y 27 [(0, g_r Y 59), (1, .int x1), (2, .int x2)] [.int p4] M
      refine g_istore_n C dX12_need__27 (q := 28) rfl rfl (by decide) (lv' := [(3, .int p4), (0, g_r Y 59), (1, .int x1), (2, .int x2)]) rfl ?_
      refine g_aload_n C 1 dX12_need__28 (q := 29) rfl rfl rfl ?_
      refine g_iload_n C 2 dX12_need__29 (q := 30) rfl rfl rfl ?_
      refine g_iload_n C 0 dX12_need__30 (q := 31) rfl rfl rfl ?_
      obtain ⟨p5, hp5, h⟩ := g_bind h
      refine g_callV C (k := 59) (as := [.int x1, .int p4]) (st := []) (m_X12_opensBy hp5) (g_hR (by decide)) (by decide) (by decide) (gc_59 Y _ _) rfl kM_X12_261 kI_X12_opensBy kS_X12_opensBy kN_X12 kC_X12_opensBy kD_X12_opensBy rfl (Nat.le_of_ble_eq_true rfl) dX12_need__31 (q := 34) rfl ?_
      show g_G 10 X Y 34 [(3, .int p4), (0, g_r Y 59), (1, .int x1), (2, .int x2)] [.int p5.1] p5.2
      have hif := g_if h
      clear h
      refine g_if_eq C dX12_need__34 (q := 37) (tgt := 39) rfl (by decide) (fun c => ?_) (fun c => ?_)
      · have h := hif.1 c
        clear hif
        refine g_iconst C (v := 1) dX12_need__39 (q := 40) rfl (by decide) ?_
        refine g_istore C dX12_need__40 (q := 42) rfl (by decide) (lv' := [(4, .int 1), (3, .int p4), (0, g_r Y 59), (1, .int x1), (2, .int x2)]) rfl ?_
        refine g_sub [2, 3, 1, 0] (lv' := [(0, g_r Y 59), (1, .int x1), (3, .int p4), (4, .int 1)]) rfl ?_
        refine t_X12_need__42 C E ?_ ?_ 20000000 x1 p4 1 p5.2 h
        · intro x5 M h
          try dsimp only at h
          refine g_iload C 0 dX12_need__213 (q := 215) rfl rfl ?_
          obtain rfl := Option.some.inj h
          exact g_iret C E dX12_need__215
        · intro M h
          try dsimp only at h
          refine g_aload_n C 0 dX12_need__222 (q := 223) rfl rfl rfl ?_
          refine g_iconst C (v := 3) dX12_need__223 (q := 224) rfl (by decide) ?_
          obtain ⟨p7, hp7, h⟩ := g_bind h
          refine g_callV C (k := 59) (as := [.int 3]) (st := []) (m_X12_finding hp7) (g_hR (by decide)) (by decide) (by decide) (gc_59 Y _ _) rfl kM_X12_190 kI_X12_finding kS_X12_finding kN_X12 kC_X12_finding kD_X12_finding rfl (Nat.le_of_ble_eq_true rfl) dX12_need__224 (q := 227) rfl ?_
          show g_G 10 X Y 227 [(0, g_r Y 59)] [.int p7.1] p7.2
          obtain rfl := Option.some.inj h
          exact g_iret C E dX12_need__227
      · have h := hif.2 c
        clear hif
        refine g_iconst C (v := 0) dX12_need__37 (q := 38) rfl (by decide) ?_
        obtain rfl := Option.some.inj h
        exact g_iret C E dX12_need__38
    · have h := hif.1 c
      clear hif
      refine g_sub [0] (lv' := [(0, g_r Y 59)]) rfl ?_
      exact t_X12_need__16 C E M h
theorem r_X12_need_ {x1 : Int32} {x2 : Int32} {M : g_M} {p : Int32 × g_M} (h : f_X12_need_ x1 x2 M = some p) : g_fr [63, 68, 69] [] M p.2 := by
  unfold f_X12_need_ at h
  have hf := g_fr.rfl (S := [63, 68, 69]) (T := []) (M := M)
  obtain ⟨p1, -, h⟩ := g_bind h
  rcases g_ifs h with h | h
  · exact hf.trans (r_X12_need__16 M h)
  · obtain ⟨p3, -, h⟩ := g_bind h
    rcases g_ifs h with h | h
    · exact hf.trans (r_X12_need__16 M h)
    · obtain ⟨p4, -, h⟩ := g_bind h
      obtain ⟨p5, hp5, h⟩ := g_bind h
      have hf := hf.trans ((r_X12_opensBy hp5).mono (by decide) (by decide))
      rcases g_ifs h with h | h
      · refine hf.trans (r_X12_need__42 ?_ ?_ 20000000 x1 p4 1 p5.2 h)
        · intro x5 M h
          try dsimp only at h
          have hf := g_fr.rfl (S := [63, 68, 69]) (T := []) (M := M)
          obtain rfl := Option.some.inj h
          exact hf
        · intro M h
          try dsimp only at h
          have hf := g_fr.rfl (S := [63, 68, 69]) (T := []) (M := M)
          obtain ⟨p7, hp7, h⟩ := g_bind h
          have hf := hf.trans ((r_X12_finding hp7).mono (by decide) (by decide))
          obtain rfl := Option.some.inj h
          exact hf
      · obtain rfl := Option.some.inj h
        exact hf
def F_X12_could_42 (k102 : Int32 → Int32 → Int32 → Int32 → g_M → Option (Int32 × g_M)) (k : Int32 → Int32 → Int32 → Int32 → Int32 → g_M → Option (Int32 × g_M)) (x1 : Int32) (x2 : Int32) (x3 : Int32) (x4 : Int32) (x5 : Int32) (M : g_M) : Option (Int32 × g_M) :=
  (g_ld M 60 1208 4).bind fun v4 => (if v4 ≤ x5 then (k102 x1 x2 x3 x4 M) else ((g_ld M 60 1208 (200 + (2 * x5))).bind fun v5 => (if v5 = x3 then ((g_ld M 60 1208 ((200 + (2 * x5)) + 1)).bind fun v6 => (some (x4 ||| ((1 : Int32) <<< (v6 &&& 31)))).bind fun y7 => k x1 x2 x3 y7 (x5 + 1) M) else (k x1 x2 x3 (x4 ||| 0) (x5 + 1) M))))
set_option maxRecDepth 100000 in
theorem t_X12_could_42 {l : Launch} {X : g_X} {Y : g_Y} {p : Int32 × g_M} {k102 : Int32 → Int32 → Int32 → Int32 → g_M → Option (Int32 × g_M)} (C : g_C l (g_rm (4)) RX12 cX12_could 6 X Y) (E : g_E (some .int) X Y (some (.int p.1)) p.2) (hk102 : ∀ (x1 : Int32) (x2 : Int32) (x3 : Int32) (x4 : Int32) (M : g_M), k102 x1 x2 x3 x4 M = some p → g_G 6 X Y 102 [(0, g_r Y 59), (1, .int x1), (2, .int x2), (3, .int x3), (4, .int x4)] [] M) (n : Nat) : ∀ (x1 : Int32) (x2 : Int32) (x3 : Int32) (x4 : Int32) (x5 : Int32) (M : g_M), g_lp5 (F_X12_could_42 k102) n x1 x2 x3 x4 x5 M = some p → g_G 6 X Y 42 [(0, g_r Y 59), (1, .int x1), (2, .int x2), (3, .int x3), (4, .int x4), (5, .int x5)] [] M := by
  induction n with
  | zero => intro x1 x2 x3 x4 x5 M h; exact (g_nn h).elim
  | succ n ih =>
    intro x1 x2 x3 x4 x5 M h
    have h : F_X12_could_42 k102 (g_lp5 (F_X12_could_42 k102) n) x1 x2 x3 x4 x5 M = some p := h
    generalize g_lp5 (F_X12_could_42 k102) n = k at h ih
    unfold F_X12_could_42 at h
    refine g_iload C 5 dX12_could_42 (q := 44) rfl rfl ?_
    refine g_aload_n C 0 dX12_could_44 (q := 45) rfl rfl rfl ?_
    refine g_get C (k := 59) (i := 0) (by decide) (gc_59 Y _ _) rfl kU_X12 (by decide) kF_X12_7 rfl dX12_could_45 (q := 48) rfl ?_
    refine g_iconst C (v := 4) dX12_could_48 (q := 49) rfl (by decide) ?_
    obtain ⟨v4, hv4, h⟩ := g_bind h
    refine g_iald C (k := 60) (n := 1208) (by decide) (gc_60 Y _ _) hv4 dX12_could_49 (q := 50) rfl ?_
    have hif := g_if h
    clear h
    refine g_icmp_ge C dX12_could_50 (q := 53) (tgt := 102) rfl (by decide) (fun c => ?_) (fun c => ?_)
    · have h := hif.1 c
      clear hif
      refine g_sub [0, 1, 2, 3, 4] (lv' := [(0, g_r Y 59), (1, .int x1), (2, .int x2), (3, .int x3), (4, .int x4)]) rfl ?_
      exact hk102 x1 x2 x3 x4 M h
    · have h := hif.2 c
      clear hif
      refine g_iload C 4 dX12_could_53 (q := 55) rfl rfl ?_
      refine g_aload_n C 0 dX12_could_55 (q := 56) rfl rfl rfl ?_
      refine g_get C (k := 59) (i := 0) (by decide) (gc_59 Y _ _) rfl kU_X12 (by decide) kF_X12_7 rfl dX12_could_56 (q := 59) rfl ?_
      refine g_sipush C (v := 200) dX12_could_59 (q := 62) rfl (by decide) ?_
      refine g_iconst C (v := 2) dX12_could_62 (q := 63) rfl (by decide) ?_
      refine g_iload C 5 dX12_could_63 (q := 65) rfl rfl ?_
      refine g_imul C dX12_could_65 (q := 66) rfl ?_
      refine g_iadd C dX12_could_66 (q := 67) rfl ?_
      obtain ⟨v5, hv5, h⟩ := g_bind h
      refine g_iald C (k := 60) (n := 1208) (by decide) (gc_60 Y _ _) hv5 dX12_could_67 (q := 68) rfl ?_
      refine g_iload_n C 3 dX12_could_68 (q := 69) rfl rfl rfl ?_
      have hif := g_if h
      clear h
      refine g_icmp_ne C dX12_could_69 (q := 72) (tgt := 92) rfl (by decide) (fun c => ?_) (fun c => ?_)
      · have h := hif.2 c
        clear hif
        refine g_iconst C (v := 0) dX12_could_92 (q := 93) rfl (by decide) ?_
        refine g_ior C dX12_could_93 (q := 94) rfl ?_
        refine g_istore C dX12_could_94 (q := 96) rfl (by decide) (lv' := [(4, .int (x4 ||| 0)), (0, g_r Y 59), (1, .int x1), (2, .int x2), (3, .int x3), (5, .int x5)]) rfl ?_
        refine g_iinc C (k := 5) (v := x5 + 1) dX12_could_96 (q := 99) rfl rfl rfl (by decide) (lv' := [(5, .int (x5 + 1)), (4, .int (x4 ||| 0)), (0, g_r Y 59), (1, .int x1), (2, .int x2), (3, .int x3)]) rfl ?_
        refine g_goto C dX12_could_99 (tgt := 42) (by decide) ?_
        refine g_sub [2, 3, 4, 5, 1, 0] (lv' := [(0, g_r Y 59), (1, .int x1), (2, .int x2), (3, .int x3), (4, .int (x4 ||| 0)), (5, .int (x5 + 1))]) rfl ?_
        exact ih x1 x2 x3 (x4 ||| 0) (x5 + 1) M h
      · have h := hif.1 c
        clear hif
        refine g_iconst C (v := 1) dX12_could_72 (q := 73) rfl (by decide) ?_
        refine g_aload_n C 0 dX12_could_73 (q := 74) rfl rfl rfl ?_
        refine g_get C (k := 59) (i := 0) (by decide) (gc_59 Y _ _) rfl kU_X12 (by decide) kF_X12_7 rfl dX12_could_74 (q := 77) rfl ?_
        refine g_sipush C (v := 200) dX12_could_77 (q := 80) rfl (by decide) ?_
        refine g_iconst C (v := 2) dX12_could_80 (q := 81) rfl (by decide) ?_
        refine g_iload C 5 dX12_could_81 (q := 83) rfl rfl ?_
        refine g_imul C dX12_could_83 (q := 84) rfl ?_
        refine g_iadd C dX12_could_84 (q := 85) rfl ?_
        refine g_iconst C (v := 1) dX12_could_85 (q := 86) rfl (by decide) ?_
        refine g_iadd C dX12_could_86 (q := 87) rfl ?_
        obtain ⟨v6, hv6, h⟩ := g_bind h
        refine g_iald C (k := 60) (n := 1208) (by decide) (gc_60 Y _ _) hv6 dX12_could_87 (q := 88) rfl ?_
        refine g_ishl C dX12_could_88 (q := 89) rfl ?_
        refine g_goto C dX12_could_89 (tgt := 93) (by decide) ?_
        refine g_ior C dX12_could_93 (q := 94) rfl ?_
        obtain ⟨y7, hy7, h⟩ := g_bind h
        refine g_top hy7 ?_
        refine g_istore C dX12_could_94 (q := 96) rfl (by decide) (lv' := [(4, .int y7), (0, g_r Y 59), (1, .int x1), (2, .int x2), (3, .int x3), (5, .int x5)]) rfl ?_
        refine g_iinc C (k := 5) (v := x5 + 1) dX12_could_96 (q := 99) rfl rfl rfl (by decide) (lv' := [(5, .int (x5 + 1)), (4, .int y7), (0, g_r Y 59), (1, .int x1), (2, .int x2), (3, .int x3)]) rfl ?_
        refine g_goto C dX12_could_99 (tgt := 42) (by decide) ?_
        refine g_sub [2, 3, 4, 5, 1, 0] (lv' := [(0, g_r Y 59), (1, .int x1), (2, .int x2), (3, .int x3), (4, .int y7), (5, .int (x5 + 1))]) rfl ?_
        exact ih x1 x2 x3 y7 (x5 + 1) M h
theorem r_X12_could_42 {p : Int32 × g_M} {k102 : Int32 → Int32 → Int32 → Int32 → g_M → Option (Int32 × g_M)} (hk102 : ∀ (x1 : Int32) (x2 : Int32) (x3 : Int32) (x4 : Int32) (M : g_M), k102 x1 x2 x3 x4 M = some p → g_fr [63, 68, 69] [] M p.2) (n : Nat) : ∀ (x1 : Int32) (x2 : Int32) (x3 : Int32) (x4 : Int32) (x5 : Int32) (M : g_M), g_lp5 (F_X12_could_42 k102) n x1 x2 x3 x4 x5 M = some p → g_fr [63, 68, 69] [] M p.2 := by
  induction n with
  | zero => intro x1 x2 x3 x4 x5 M h; exact (g_nn h).elim
  | succ n ih =>
    intro x1 x2 x3 x4 x5 M h
    have h : F_X12_could_42 k102 (g_lp5 (F_X12_could_42 k102) n) x1 x2 x3 x4 x5 M = some p := h
    generalize g_lp5 (F_X12_could_42 k102) n = k at h ih
    unfold F_X12_could_42 at h
    have hf := g_fr.rfl (S := [63, 68, 69]) (T := []) (M := M)
    obtain ⟨v4, -, h⟩ := g_bind h
    rcases g_ifs h with h | h
    · exact hf.trans (hk102 x1 x2 x3 x4 M h)
    · obtain ⟨v5, -, h⟩ := g_bind h
      rcases g_ifs h with h | h
      · obtain ⟨v6, -, h⟩ := g_bind h
        obtain ⟨y7, -, h⟩ := g_bind h
        exact hf.trans (ih x1 x2 x3 y7 (x5 + 1) M h)
      · exact hf.trans (ih x1 x2 x3 (x4 ||| 0) (x5 + 1) M h)
def F_X12_could_18 (k140 : Int32 → g_M → Option (Int32 × g_M)) (k : Int32 → Int32 → Int32 → g_M → Option (Int32 × g_M)) (x1 : Int32) (x2 : Int32) (x3 : Int32) (M : g_M) : Option (Int32 × g_M) :=
  (g_ld M 60 1208 0).bind fun v2 => (if v2 ≤ x3 then (k140 x2 M) else ((g_ld M 60 1208 (30 + x3)).bind fun v3 => g_lp5 (F_X12_could_42 (fun (x1 : Int32) (x2 : Int32) (x3 : Int32) (x4 : Int32) (M : g_M) => (g_ld M 60 1208 (20 + x3)).bind fun v8 => (if v8 = 0 then ((f_X12_opensBy x1 x4 M).bind fun p9 => (if p9.1 = 0 then (k x1 (x2 ||| 0) (x3 + 1) p9.2) else ((some (x2 ||| ((1 : Int32) <<< (x3 &&& 31)))).bind fun y10 => k x1 y10 (x3 + 1) p9.2))) else (k x1 (x2 ||| 0) (x3 + 1) M)))) 20000000 x1 x2 x3 v3 0 M))
set_option maxRecDepth 100000 in
theorem t_X12_could_18 {l : Launch} {X : g_X} {Y : g_Y} {p : Int32 × g_M} {k140 : Int32 → g_M → Option (Int32 × g_M)} (C : g_C l (g_rm (4)) RX12 cX12_could 6 X Y) (E : g_E (some .int) X Y (some (.int p.1)) p.2) (hk140 : ∀ (x2 : Int32) (M : g_M), k140 x2 M = some p → g_G 6 X Y 140 [(2, .int x2)] [] M) (n : Nat) : ∀ (x1 : Int32) (x2 : Int32) (x3 : Int32) (M : g_M), g_lp3 (F_X12_could_18 k140) n x1 x2 x3 M = some p → g_G 6 X Y 18 [(0, g_r Y 59), (1, .int x1), (2, .int x2), (3, .int x3)] [] M := by
  induction n with
  | zero => intro x1 x2 x3 M h; exact (g_nn h).elim
  | succ n ih =>
    intro x1 x2 x3 M h
    have h : F_X12_could_18 k140 (g_lp3 (F_X12_could_18 k140) n) x1 x2 x3 M = some p := h
    generalize g_lp3 (F_X12_could_18 k140) n = k at h ih
    unfold F_X12_could_18 at h
    refine g_iload_n C 3 dX12_could_18 (q := 19) rfl rfl rfl ?_
    refine g_aload_n C 0 dX12_could_19 (q := 20) rfl rfl rfl ?_
    refine g_get C (k := 59) (i := 0) (by decide) (gc_59 Y _ _) rfl kU_X12 (by decide) kF_X12_7 rfl dX12_could_20 (q := 23) rfl ?_
    refine g_iconst C (v := 0) dX12_could_23 (q := 24) rfl (by decide) ?_
    obtain ⟨v2, hv2, h⟩ := g_bind h
    refine g_iald C (k := 60) (n := 1208) (by decide) (gc_60 Y _ _) hv2 dX12_could_24 (q := 25) rfl ?_
    have hif := g_if h
    clear h
    refine g_icmp_ge C dX12_could_25 (q := 28) (tgt := 140) rfl (by decide) (fun c => ?_) (fun c => ?_)
    · have h := hif.1 c
      clear hif
      refine g_sub [2] (lv' := [(2, .int x2)]) rfl ?_
      exact hk140 x2 M h
    · have h := hif.2 c
      clear hif
      refine g_aload_n C 0 dX12_could_28 (q := 29) rfl rfl rfl ?_
      refine g_get C (k := 59) (i := 0) (by decide) (gc_59 Y _ _) rfl kU_X12 (by decide) kF_X12_7 rfl dX12_could_29 (q := 32) rfl ?_
      refine g_bipush C (v := 30) dX12_could_32 (q := 34) rfl (by decide) ?_
      refine g_iload_n C 3 dX12_could_34 (q := 35) rfl rfl rfl ?_
      refine g_iadd C dX12_could_35 (q := 36) rfl ?_
      obtain ⟨v3, hv3, h⟩ := g_bind h
      refine g_iald C (k := 60) (n := 1208) (by decide) (gc_60 Y _ _) hv3 dX12_could_36 (q := 37) rfl ?_
      refine g_istore C dX12_could_37 (q := 39) rfl (by decide) (lv' := [(4, .int v3), (0, g_r Y 59), (1, .int x1), (2, .int x2), (3, .int x3)]) rfl ?_
      refine g_iconst C (v := 0) dX12_could_39 (q := 40) rfl (by decide) ?_
      refine g_istore C dX12_could_40 (q := 42) rfl (by decide) (lv' := [(5, .int 0), (4, .int v3), (0, g_r Y 59), (1, .int x1), (2, .int x2), (3, .int x3)]) rfl ?_
      refine g_sub [2, 3, 4, 5, 1, 0] (lv' := [(0, g_r Y 59), (1, .int x1), (2, .int x2), (3, .int x3), (4, .int v3), (5, .int 0)]) rfl ?_
      refine t_X12_could_42 C E ?_ 20000000 x1 x2 x3 v3 0 M h
      · intro x1 x2 x3 x4 M h
        try dsimp only at h
        refine g_iload_n C 2 dX12_could_102 (q := 103) rfl rfl rfl ?_
        refine g_aload_n C 0 dX12_could_103 (q := 104) rfl rfl rfl ?_
        refine g_get C (k := 59) (i := 0) (by decide) (gc_59 Y _ _) rfl kU_X12 (by decide) kF_X12_7 rfl dX12_could_104 (q := 107) rfl ?_
        refine g_bipush C (v := 20) dX12_could_107 (q := 109) rfl (by decide) ?_
        refine g_iload_n C 3 dX12_could_109 (q := 110) rfl rfl rfl ?_
        refine g_iadd C dX12_could_110 (q := 111) rfl ?_
        obtain ⟨v8, hv8, h⟩ := g_bind h
        refine g_iald C (k := 60) (n := 1208) (by decide) (gc_60 Y _ _) hv8 dX12_could_111 (q := 112) rfl ?_
        have hif := g_if h
        clear h
        refine g_if_ne C dX12_could_112 (q := 115) (tgt := 131) rfl (by decide) (fun c => ?_) (fun c => ?_)
        · have h := hif.2 c
          clear hif
          refine g_iconst C (v := 0) dX12_could_131 (q := 132) rfl (by decide) ?_
          refine g_ior C dX12_could_132 (q := 133) rfl ?_
          refine g_istore_n C dX12_could_133 (q := 134) rfl rfl (by decide) (lv' := [(2, .int (x2 ||| 0)), (0, g_r Y 59), (1, .int x1), (3, .int x3), (4, .int x4)]) rfl ?_
          refine g_iinc C (k := 3) (v := x3 + 1) dX12_could_134 (q := 137) rfl rfl rfl (by decide) (lv' := [(3, .int (x3 + 1)), (2, .int (x2 ||| 0)), (0, g_r Y 59), (1, .int x1), (4, .int x4)]) rfl ?_
          refine g_goto C dX12_could_137 (tgt := 18) (by decide) ?_
          refine g_sub [2, 3, 1, 0] (lv' := [(0, g_r Y 59), (1, .int x1), (2, .int (x2 ||| 0)), (3, .int (x3 + 1))]) rfl ?_
          exact ih x1 (x2 ||| 0) (x3 + 1) M h
        · have h := hif.1 c
          clear hif
          refine g_aload_n C 0 dX12_could_115 (q := 116) rfl rfl rfl ?_
          refine g_iload_n C 1 dX12_could_116 (q := 117) rfl rfl rfl ?_
          refine g_iload C 4 dX12_could_117 (q := 119) rfl rfl ?_
          obtain ⟨p9, hp9, h⟩ := g_bind h
          refine g_callV C (k := 59) (as := [.int x1, .int x4]) (st := [.int x2]) (m_X12_opensBy hp9) (g_hR (by decide)) (by decide) (by decide) (gc_59 Y _ _) rfl kM_X12_261 kI_X12_opensBy kS_X12_opensBy kN_X12 kC_X12_opensBy kD_X12_opensBy rfl (Nat.le_of_ble_eq_true rfl) dX12_could_119 (q := 122) rfl ?_
          show g_G 6 X Y 122 [(0, g_r Y 59), (1, .int x1), (2, .int x2), (3, .int x3), (4, .int x4)] [.int p9.1, .int x2] p9.2
          have hif := g_if h
          clear h
          refine g_if_eq C dX12_could_122 (q := 125) (tgt := 131) rfl (by decide) (fun c => ?_) (fun c => ?_)
          · have h := hif.1 c
            clear hif
            refine g_iconst C (v := 0) dX12_could_131 (q := 132) rfl (by decide) ?_
            refine g_ior C dX12_could_132 (q := 133) rfl ?_
            refine g_istore_n C dX12_could_133 (q := 134) rfl rfl (by decide) (lv' := [(2, .int (x2 ||| 0)), (0, g_r Y 59), (1, .int x1), (3, .int x3), (4, .int x4)]) rfl ?_
            refine g_iinc C (k := 3) (v := x3 + 1) dX12_could_134 (q := 137) rfl rfl rfl (by decide) (lv' := [(3, .int (x3 + 1)), (2, .int (x2 ||| 0)), (0, g_r Y 59), (1, .int x1), (4, .int x4)]) rfl ?_
            refine g_goto C dX12_could_137 (tgt := 18) (by decide) ?_
            refine g_sub [2, 3, 1, 0] (lv' := [(0, g_r Y 59), (1, .int x1), (2, .int (x2 ||| 0)), (3, .int (x3 + 1))]) rfl ?_
            exact ih x1 (x2 ||| 0) (x3 + 1) p9.2 h
          · have h := hif.2 c
            clear hif
            refine g_iconst C (v := 1) dX12_could_125 (q := 126) rfl (by decide) ?_
            refine g_iload_n C 3 dX12_could_126 (q := 127) rfl rfl rfl ?_
            refine g_ishl C dX12_could_127 (q := 128) rfl ?_
            refine g_goto C dX12_could_128 (tgt := 132) (by decide) ?_
            refine g_ior C dX12_could_132 (q := 133) rfl ?_
            obtain ⟨y10, hy10, h⟩ := g_bind h
            refine g_top hy10 ?_
            refine g_istore_n C dX12_could_133 (q := 134) rfl rfl (by decide) (lv' := [(2, .int y10), (0, g_r Y 59), (1, .int x1), (3, .int x3), (4, .int x4)]) rfl ?_
            refine g_iinc C (k := 3) (v := x3 + 1) dX12_could_134 (q := 137) rfl rfl rfl (by decide) (lv' := [(3, .int (x3 + 1)), (2, .int y10), (0, g_r Y 59), (1, .int x1), (4, .int x4)]) rfl ?_
            refine g_goto C dX12_could_137 (tgt := 18) (by decide) ?_
            refine g_sub [2, 3, 1, 0] (lv' := [(0, g_r Y 59), (1, .int x1), (2, .int y10), (3, .int (x3 + 1))]) rfl ?_
            exact ih x1 y10 (x3 + 1) p9.2 h
theorem r_X12_could_18 {p : Int32 × g_M} {k140 : Int32 → g_M → Option (Int32 × g_M)} (hk140 : ∀ (x2 : Int32) (M : g_M), k140 x2 M = some p → g_fr [63, 68, 69] [] M p.2) (n : Nat) : ∀ (x1 : Int32) (x2 : Int32) (x3 : Int32) (M : g_M), g_lp3 (F_X12_could_18 k140) n x1 x2 x3 M = some p → g_fr [63, 68, 69] [] M p.2 := by
  induction n with
  | zero => intro x1 x2 x3 M h; exact (g_nn h).elim
  | succ n ih =>
    intro x1 x2 x3 M h
    have h : F_X12_could_18 k140 (g_lp3 (F_X12_could_18 k140) n) x1 x2 x3 M = some p := h
    generalize g_lp3 (F_X12_could_18 k140) n = k at h ih
    unfold F_X12_could_18 at h
    have hf := g_fr.rfl (S := [63, 68, 69]) (T := []) (M := M)
    obtain ⟨v2, -, h⟩ := g_bind h
    rcases g_ifs h with h | h
    · exact hf.trans (hk140 x2 M h)
    · obtain ⟨v3, -, h⟩ := g_bind h
      refine hf.trans (r_X12_could_42 ?_ 20000000 x1 x2 x3 v3 0 M h)
      · intro x1 x2 x3 x4 M h
        try dsimp only at h
        have hf := g_fr.rfl (S := [63, 68, 69]) (T := []) (M := M)
        obtain ⟨v8, -, h⟩ := g_bind h
        rcases g_ifs h with h | h
        · obtain ⟨p9, hp9, h⟩ := g_bind h
          have hf := hf.trans ((r_X12_opensBy hp9).mono (by decide) (by decide))
          rcases g_ifs h with h | h
          · exact hf.trans (ih x1 (x2 ||| 0) (x3 + 1) p9.2 h)
          · obtain ⟨y10, -, h⟩ := g_bind h
            exact hf.trans (ih x1 y10 (x3 + 1) p9.2 h)
        · exact hf.trans (ih x1 (x2 ||| 0) (x3 + 1) M h)
def f_X12_could (x1 : Int32) (M : g_M) : Option (Int32 × g_M) :=
  (f_X12_isHanging x1 M).bind fun p1 => (if p1 = 0 then ((f_X12_finding 0 M).bind fun p11 => some (p11.1, p11.2)) else (g_lp3 (F_X12_could_18 (fun (x2 : Int32) (M : g_M) => some (x2, M))) 20000000 x1 0 0 M))
set_option maxRecDepth 100000 in
theorem m_X12_could {l : Launch} {Y : g_Y} {x1 : Int32} {M : g_M} {p : Int32 × g_M} (h : f_X12_could x1 M = some p) : g_R l Y (4) yX12_could cX12_could 6 (some .int) [g_r Y 59, .int x1] M (some (.int p.1)) p.2 := by
  unfold f_X12_could at h
  refine g_R_of kP_X12 rfl (Nat.le_of_ble_eq_true rfl) (fun X C E => ?_)
  show g_G 6 X Y 0 [(0, g_r Y 59), (1, .int x1)] [] M
  refine g_aload_n C 0 dX12_could_0 (q := 1) rfl rfl rfl ?_
  refine g_iload_n C 1 dX12_could_1 (q := 2) rfl rfl rfl ?_
  obtain ⟨p1, hp1, h⟩ := g_bind h
  refine g_callV C (k := 59) (as := [.int x1]) (st := []) (m_X12_isHanging hp1) (g_hR (by decide)) (by decide) (by decide) (gc_59 Y _ _) rfl kM_X12_242 kI_X12_isHanging kS_X12_isHanging kN_X12 kC_X12_isHanging kD_X12_isHanging rfl (Nat.le_of_ble_eq_true rfl) dX12_could_2 (q := 5) rfl ?_
  show g_G 6 X Y 5 [(0, g_r Y 59), (1, .int x1)] [.int p1] M
  have hif := g_if h
  clear h
  refine g_if_ne C dX12_could_5 (q := 8) (tgt := 14) rfl (by decide) (fun c => ?_) (fun c => ?_)
  · have h := hif.2 c
    clear hif
    refine g_iconst C (v := 0) dX12_could_14 (q := 15) rfl (by decide) ?_
    refine g_istore_n C dX12_could_15 (q := 16) rfl rfl (by decide) (lv' := [(2, .int 0), (0, g_r Y 59), (1, .int x1)]) rfl ?_
    refine g_iconst C (v := 0) dX12_could_16 (q := 17) rfl (by decide) ?_
    refine g_istore_n C dX12_could_17 (q := 18) rfl rfl (by decide) (lv' := [(3, .int 0), (2, .int 0), (0, g_r Y 59), (1, .int x1)]) rfl ?_
    refine g_sub [2, 3, 1, 0] (lv' := [(0, g_r Y 59), (1, .int x1), (2, .int 0), (3, .int 0)]) rfl ?_
    refine t_X12_could_18 C E ?_ 20000000 x1 0 0 M h
    · intro x2 M h
      try dsimp only at h
      refine g_iload_n C 0 dX12_could_140 (q := 141) rfl rfl rfl ?_
      obtain rfl := Option.some.inj h
      exact g_iret C E dX12_could_141
  · have h := hif.1 c
    clear hif
    refine g_aload_n C 0 dX12_could_8 (q := 9) rfl rfl rfl ?_
    refine g_iconst C (v := 0) dX12_could_9 (q := 10) rfl (by decide) ?_
    obtain ⟨p11, hp11, h⟩ := g_bind h
    refine g_callV C (k := 59) (as := [.int 0]) (st := []) (m_X12_finding hp11) (g_hR (by decide)) (by decide) (by decide) (gc_59 Y _ _) rfl kM_X12_190 kI_X12_finding kS_X12_finding kN_X12 kC_X12_finding kD_X12_finding rfl (Nat.le_of_ble_eq_true rfl) dX12_could_10 (q := 13) rfl ?_
    show g_G 6 X Y 13 [(0, g_r Y 59), (1, .int x1)] [.int p11.1] p11.2
    obtain rfl := Option.some.inj h
    exact g_iret C E dX12_could_13
theorem r_X12_could {x1 : Int32} {M : g_M} {p : Int32 × g_M} (h : f_X12_could x1 M = some p) : g_fr [63, 68, 69] [] M p.2 := by
  unfold f_X12_could at h
  have hf := g_fr.rfl (S := [63, 68, 69]) (T := []) (M := M)
  obtain ⟨p1, -, h⟩ := g_bind h
  rcases g_ifs h with h | h
  · obtain ⟨p11, hp11, h⟩ := g_bind h
    have hf := hf.trans ((r_X12_finding hp11).mono (by decide) (by decide))
    obtain rfl := Option.some.inj h
    exact hf
  · refine hf.trans (r_X12_could_18 ?_ 20000000 x1 0 0 M h)
    · intro x2 M h
      try dsimp only at h
      have hf := g_fr.rfl (S := [63, 68, 69]) (T := []) (M := M)
      obtain rfl := Option.some.inj h
      exact hf
def f_X12_build_72 (M : g_M) : Option (Int32 × g_M) :=
  (f_X12_finding 1 M).bind fun p5 => some (p5.1, p5.2)
set_option maxRecDepth 100000 in
theorem t_X12_build_72 {l : Launch} {X : g_X} {Y : g_Y} {p : Int32 × g_M} (C : g_C l (g_rm (203)) RX12 cX12_build 7 X Y) (E : g_E (some .int) X Y (some (.int p.1)) p.2) (M : g_M) (h : f_X12_build_72 M = some p) : g_G 7 X Y 72 [(0, g_r Y 59)] [] M := by
  unfold f_X12_build_72 at h
  refine g_aload_n C 0 dX12_build_72 (q := 73) rfl rfl rfl ?_
  refine g_iconst C (v := 1) dX12_build_73 (q := 74) rfl (by decide) ?_
  obtain ⟨p5, hp5, h⟩ := g_bind h
  refine g_callV C (k := 59) (as := [.int 1]) (st := []) (m_X12_finding hp5) (g_hR (by decide)) (by decide) (by decide) (gc_59 Y _ _) rfl kM_X12_190 kI_X12_finding kS_X12_finding kN_X12 kC_X12_finding kD_X12_finding rfl (Nat.le_of_ble_eq_true rfl) dX12_build_74 (q := 77) rfl ?_
  show g_G 7 X Y 77 [(0, g_r Y 59)] [.int p5.1] p5.2
  obtain rfl := Option.some.inj h
  exact g_iret C E dX12_build_77
theorem r_X12_build_72 {p : Int32 × g_M} (M : g_M) (h : f_X12_build_72 M = some p) : g_fr [60, 63, 64, 70] [(59, 6), (59, 7), (59, 8), (59, 9), (59, 10), (59, 11), (59, 12), (59, 13), (59, 14), (59, 15), (59, 16)] M p.2 := by
  unfold f_X12_build_72 at h
  have hf := g_fr.rfl (S := [60, 63, 64, 70]) (T := [(59, 6), (59, 7), (59, 8), (59, 9), (59, 10), (59, 11), (59, 12), (59, 13), (59, 14), (59, 15), (59, 16)]) (M := M)
  obtain ⟨p5, hp5, h⟩ := g_bind h
  have hf := hf.trans ((r_X12_finding hp5).mono (by decide) (by decide))
  obtain rfl := Option.some.inj h
  exact hf
def F_X12_build_80 (k103 : Int32 → g_M → Option (Int32 × g_M)) (k : Int32 → Int32 → g_M → Option (Int32 × g_M)) (x1 : Int32) (x2 : Int32) (M : g_M) : Option (Int32 × g_M) :=
  (if x1 ≤ x2 then (k103 x1 M) else ((f_X12_find 1 x2 M).bind fun p7 => (g_st M 70 1024 x2 p7).bind fun M8 => k x1 (x2 + 1) M8))
set_option maxRecDepth 100000 in
theorem t_X12_build_80 {l : Launch} {X : g_X} {Y : g_Y} {p : Int32 × g_M} {k103 : Int32 → g_M → Option (Int32 × g_M)} (C : g_C l (g_rm (203)) RX12 cX12_build 7 X Y) (E : g_E (some .int) X Y (some (.int p.1)) p.2) (hk103 : ∀ (x1 : Int32) (M : g_M), k103 x1 M = some p → g_G 7 X Y 103 [(0, g_r Y 59), (1, .int x1)] [] M) (n : Nat) : ∀ (x1 : Int32) (x2 : Int32) (M : g_M), g_lp2 (F_X12_build_80 k103) n x1 x2 M = some p → g_G 7 X Y 80 [(0, g_r Y 59), (1, .int x1), (2, .int x2)] [] M := by
  induction n with
  | zero => intro x1 x2 M h; exact (g_nn h).elim
  | succ n ih =>
    intro x1 x2 M h
    have h : F_X12_build_80 k103 (g_lp2 (F_X12_build_80 k103) n) x1 x2 M = some p := h
    generalize g_lp2 (F_X12_build_80 k103) n = k at h ih
    unfold F_X12_build_80 at h
    refine g_iload_n C 2 dX12_build_80 (q := 81) rfl rfl rfl ?_
    refine g_iload_n C 1 dX12_build_81 (q := 82) rfl rfl rfl ?_
    have hif := g_if h
    clear h
    refine g_icmp_ge C dX12_build_82 (q := 85) (tgt := 103) rfl (by decide) (fun c => ?_) (fun c => ?_)
    · have h := hif.1 c
      clear hif
      refine g_sub [0, 1] (lv' := [(0, g_r Y 59), (1, .int x1)]) rfl ?_
      exact hk103 x1 M h
    · have h := hif.2 c
      clear hif
      refine g_aload_n C 0 dX12_build_85 (q := 86) rfl rfl rfl ?_
      refine g_get C (k := 59) (i := 23) (by decide) (gc_59 Y _ _) rfl kU_X12 (by decide) kF_X12_41 rfl dX12_build_86 (q := 89) rfl ?_
      refine g_iload_n C 2 dX12_build_89 (q := 90) rfl rfl rfl ?_
      refine g_aload_n C 0 dX12_build_90 (q := 91) rfl rfl rfl ?_
      refine g_iconst C (v := 1) dX12_build_91 (q := 92) rfl (by decide) ?_
      refine g_iload_n C 2 dX12_build_92 (q := 93) rfl rfl rfl ?_
      obtain ⟨p7, hp7, h⟩ := g_bind h
      refine g_callV C (k := 59) (as := [.int 1, .int x2]) (st := [.int x2, g_r Y 70]) (m_X12_find hp7) (g_hR (by decide)) (by decide) (by decide) (gc_59 Y _ _) rfl kM_X12_225 kI_X12_find kS_X12_find kN_X12 kC_X12_find kD_X12_find rfl (Nat.le_of_ble_eq_true rfl) dX12_build_93 (q := 96) rfl ?_
      show g_G 7 X Y 96 [(0, g_r Y 59), (1, .int x1), (2, .int x2)] [.int p7, .int x2, g_r Y 70] M
      obtain ⟨M8, hM8, h⟩ := g_bind h
      refine g_iast C (k := 70) (n := 1024) (by decide) (fun a => gc_70 Y a _) hM8 dX12_build_96 (q := 97) rfl ?_
      refine g_iinc C (k := 2) (v := x2 + 1) dX12_build_97 (q := 100) rfl rfl rfl (by decide) (lv' := [(2, .int (x2 + 1)), (0, g_r Y 59), (1, .int x1)]) rfl ?_
      refine g_goto C dX12_build_100 (tgt := 80) (by decide) ?_
      refine g_sub [1, 2, 0] (lv' := [(0, g_r Y 59), (1, .int x1), (2, .int (x2 + 1))]) rfl ?_
      exact ih x1 (x2 + 1) M8 h
theorem r_X12_build_80 {p : Int32 × g_M} {k103 : Int32 → g_M → Option (Int32 × g_M)} (hk103 : ∀ (x1 : Int32) (M : g_M), k103 x1 M = some p → g_fr [60, 63, 64, 70] [(59, 6), (59, 7), (59, 8), (59, 9), (59, 10), (59, 11), (59, 12), (59, 13), (59, 14), (59, 15), (59, 16)] M p.2) (n : Nat) : ∀ (x1 : Int32) (x2 : Int32) (M : g_M), g_lp2 (F_X12_build_80 k103) n x1 x2 M = some p → g_fr [60, 63, 64, 70] [(59, 6), (59, 7), (59, 8), (59, 9), (59, 10), (59, 11), (59, 12), (59, 13), (59, 14), (59, 15), (59, 16)] M p.2 := by
  induction n with
  | zero => intro x1 x2 M h; exact (g_nn h).elim
  | succ n ih =>
    intro x1 x2 M h
    have h : F_X12_build_80 k103 (g_lp2 (F_X12_build_80 k103) n) x1 x2 M = some p := h
    generalize g_lp2 (F_X12_build_80 k103) n = k at h ih
    unfold F_X12_build_80 at h
    have hf := g_fr.rfl (S := [60, 63, 64, 70]) (T := [(59, 6), (59, 7), (59, 8), (59, 9), (59, 10), (59, 11), (59, 12), (59, 13), (59, 14), (59, 15), (59, 16)]) (M := M)
    rcases g_ifs h with h | h
    · exact hf.trans (hk103 x1 M h)
    · obtain ⟨p7, -, h⟩ := g_bind h
      obtain ⟨M8, hM8, h⟩ := g_bind h
      have hf := hf.st hM8 (by decide)
      exact hf.trans (ih x1 (x2 + 1) M8 h)
def F_X12_build_105 (k127 : Int32 → g_M → Option (Int32 × g_M)) (k : Int32 → Int32 → g_M → Option (Int32 × g_M)) (x1 : Int32) (x2 : Int32) (M : g_M) : Option (Int32 × g_M) :=
  (if 10 ≤ x2 then (k127 x1 M) else ((g_st M 60 1208 (30 + x2) 0).bind fun M9 => k x1 (x2 + 1) M9))
set_option maxRecDepth 100000 in
theorem t_X12_build_105 {l : Launch} {X : g_X} {Y : g_Y} {p : Int32 × g_M} {k127 : Int32 → g_M → Option (Int32 × g_M)} (C : g_C l (g_rm (203)) RX12 cX12_build 7 X Y) (E : g_E (some .int) X Y (some (.int p.1)) p.2) (hk127 : ∀ (x1 : Int32) (M : g_M), k127 x1 M = some p → g_G 7 X Y 127 [(0, g_r Y 59), (1, .int x1)] [] M) (n : Nat) : ∀ (x1 : Int32) (x2 : Int32) (M : g_M), g_lp2 (F_X12_build_105 k127) n x1 x2 M = some p → g_G 7 X Y 105 [(0, g_r Y 59), (1, .int x1), (2, .int x2)] [] M := by
  induction n with
  | zero => intro x1 x2 M h; exact (g_nn h).elim
  | succ n ih =>
    intro x1 x2 M h
    have h : F_X12_build_105 k127 (g_lp2 (F_X12_build_105 k127) n) x1 x2 M = some p := h
    generalize g_lp2 (F_X12_build_105 k127) n = k at h ih
    unfold F_X12_build_105 at h
    refine g_iload_n C 2 dX12_build_105 (q := 106) rfl rfl rfl ?_
    refine g_bipush C (v := 10) dX12_build_106 (q := 108) rfl (by decide) ?_
    have hif := g_if h
    clear h
    refine g_icmp_ge C dX12_build_108 (q := 111) (tgt := 127) rfl (by decide) (fun c => ?_) (fun c => ?_)
    · have h := hif.1 c
      clear hif
      refine g_sub [0, 1] (lv' := [(0, g_r Y 59), (1, .int x1)]) rfl ?_
      exact hk127 x1 M h
    · have h := hif.2 c
      clear hif
      refine g_aload_n C 0 dX12_build_111 (q := 112) rfl rfl rfl ?_
      refine g_get C (k := 59) (i := 0) (by decide) (gc_59 Y _ _) rfl kU_X12 (by decide) kF_X12_7 rfl dX12_build_112 (q := 115) rfl ?_
      refine g_bipush C (v := 30) dX12_build_115 (q := 117) rfl (by decide) ?_
      refine g_iload_n C 2 dX12_build_117 (q := 118) rfl rfl rfl ?_
      refine g_iadd C dX12_build_118 (q := 119) rfl ?_
      refine g_iconst C (v := 0) dX12_build_119 (q := 120) rfl (by decide) ?_
      obtain ⟨M9, hM9, h⟩ := g_bind h
      refine g_iast C (k := 60) (n := 1208) (by decide) (fun a => gc_60 Y a _) hM9 dX12_build_120 (q := 121) rfl ?_
      refine g_iinc C (k := 2) (v := x2 + 1) dX12_build_121 (q := 124) rfl rfl rfl (by decide) (lv' := [(2, .int (x2 + 1)), (0, g_r Y 59), (1, .int x1)]) rfl ?_
      refine g_goto C dX12_build_124 (tgt := 105) (by decide) ?_
      refine g_sub [1, 2, 0] (lv' := [(0, g_r Y 59), (1, .int x1), (2, .int (x2 + 1))]) rfl ?_
      exact ih x1 (x2 + 1) M9 h
theorem r_X12_build_105 {p : Int32 × g_M} {k127 : Int32 → g_M → Option (Int32 × g_M)} (hk127 : ∀ (x1 : Int32) (M : g_M), k127 x1 M = some p → g_fr [60, 63, 64, 70] [(59, 6), (59, 7), (59, 8), (59, 9), (59, 10), (59, 11), (59, 12), (59, 13), (59, 14), (59, 15), (59, 16)] M p.2) (n : Nat) : ∀ (x1 : Int32) (x2 : Int32) (M : g_M), g_lp2 (F_X12_build_105 k127) n x1 x2 M = some p → g_fr [60, 63, 64, 70] [(59, 6), (59, 7), (59, 8), (59, 9), (59, 10), (59, 11), (59, 12), (59, 13), (59, 14), (59, 15), (59, 16)] M p.2 := by
  induction n with
  | zero => intro x1 x2 M h; exact (g_nn h).elim
  | succ n ih =>
    intro x1 x2 M h
    have h : F_X12_build_105 k127 (g_lp2 (F_X12_build_105 k127) n) x1 x2 M = some p := h
    generalize g_lp2 (F_X12_build_105 k127) n = k at h ih
    unfold F_X12_build_105 at h
    have hf := g_fr.rfl (S := [60, 63, 64, 70]) (T := [(59, 6), (59, 7), (59, 8), (59, 9), (59, 10), (59, 11), (59, 12), (59, 13), (59, 14), (59, 15), (59, 16)]) (M := M)
    rcases g_ifs h with h | h
    · exact hf.trans (hk127 x1 M h)
    · obtain ⟨M9, hM9, h⟩ := g_bind h
      have hf := hf.st hM9 (by decide)
      exact hf.trans (ih x1 (x2 + 1) M9 h)
def F_X12_build_162 (k211 : Int32 → Int32 → Int32 → Int32 → g_M → Option (Int32 × g_M)) (k : Int32 → Int32 → Int32 → Int32 → Int32 → g_M → Option (Int32 × g_M)) (x1 : Int32) (x2 : Int32) (x3 : Int32) (x4 : Int32) (x6 : Int32) (M : g_M) : Option (Int32 × g_M) :=
  (g_ld M 60 1208 0).bind fun v13 => (if v13 ≤ x6 then (k211 x1 x2 x3 x4 M) else ((g_ld M 60 1208 (30 + x6)).bind fun v14 => (g_ld M 70 1024 x4).bind fun v15 => (g_st M 60 1208 (30 + x6) (v14 ||| ((((x3 &&& (v15 ^^^ (-1))) >>> (x6 &&& 31)) &&& 1) <<< (x4 &&& 31)))).bind fun M16 => k x1 x2 x3 x4 (x6 + 1) M16))
set_option maxRecDepth 100000 in
theorem t_X12_build_162 {l : Launch} {X : g_X} {Y : g_Y} {p : Int32 × g_M} {k211 : Int32 → Int32 → Int32 → Int32 → g_M → Option (Int32 × g_M)} (C : g_C l (g_rm (203)) RX12 cX12_build 7 X Y) (E : g_E (some .int) X Y (some (.int p.1)) p.2) (hk211 : ∀ (x1 : Int32) (x2 : Int32) (x3 : Int32) (x4 : Int32) (M : g_M), k211 x1 x2 x3 x4 M = some p → g_G 7 X Y 211 [(0, g_r Y 59), (1, .int x1), (2, .int x2), (3, .int x3), (4, .int x4)] [] M) (n : Nat) : ∀ (x1 : Int32) (x2 : Int32) (x3 : Int32) (x4 : Int32) (x6 : Int32) (M : g_M), g_lp5 (F_X12_build_162 k211) n x1 x2 x3 x4 x6 M = some p → g_G 7 X Y 162 [(0, g_r Y 59), (1, .int x1), (2, .int x2), (3, .int x3), (4, .int x4), (6, .int x6)] [] M := by
  induction n with
  | zero => intro x1 x2 x3 x4 x6 M h; exact (g_nn h).elim
  | succ n ih =>
    intro x1 x2 x3 x4 x6 M h
    have h : F_X12_build_162 k211 (g_lp5 (F_X12_build_162 k211) n) x1 x2 x3 x4 x6 M = some p := h
    generalize g_lp5 (F_X12_build_162 k211) n = k at h ih
    unfold F_X12_build_162 at h
    refine g_iload C 5 dX12_build_162 (q := 164) rfl rfl ?_
    refine g_aload_n C 0 dX12_build_164 (q := 165) rfl rfl rfl ?_
    refine g_get C (k := 59) (i := 0) (by decide) (gc_59 Y _ _) rfl kU_X12 (by decide) kF_X12_7 rfl dX12_build_165 (q := 168) rfl ?_
    refine g_iconst C (v := 0) dX12_build_168 (q := 169) rfl (by decide) ?_
    obtain ⟨v13, hv13, h⟩ := g_bind h
    refine g_iald C (k := 60) (n := 1208) (by decide) (gc_60 Y _ _) hv13 dX12_build_169 (q := 170) rfl ?_
    have hif := g_if h
    clear h
    refine g_icmp_ge C dX12_build_170 (q := 173) (tgt := 211) rfl (by decide) (fun c => ?_) (fun c => ?_)
    · have h := hif.1 c
      clear hif
      refine g_sub [0, 1, 2, 3, 4] (lv' := [(0, g_r Y 59), (1, .int x1), (2, .int x2), (3, .int x3), (4, .int x4)]) rfl ?_
      exact hk211 x1 x2 x3 x4 M h
    · have h := hif.2 c
      clear hif
      refine g_aload_n C 0 dX12_build_173 (q := 174) rfl rfl rfl ?_
      refine g_get C (k := 59) (i := 0) (by decide) (gc_59 Y _ _) rfl kU_X12 (by decide) kF_X12_7 rfl dX12_build_174 (q := 177) rfl ?_
      refine g_bipush C (v := 30) dX12_build_177 (q := 179) rfl (by decide) ?_
      refine g_iload C 5 dX12_build_179 (q := 181) rfl rfl ?_
      refine g_iadd C dX12_build_181 (q := 182) rfl ?_
      refine g_dup2 C dX12_build_182 (q := 183) rfl rfl rfl ?_
      obtain ⟨v14, hv14, h⟩ := g_bind h
      refine g_iald C (k := 60) (n := 1208) (by decide) (gc_60 Y _ _) hv14 dX12_build_183 (q := 184) rfl ?_
      refine g_iload_n C 3 dX12_build_184 (q := 185) rfl rfl rfl ?_
      refine g_aload_n C 0 dX12_build_185 (q := 186) rfl rfl rfl ?_
      refine g_get C (k := 59) (i := 23) (by decide) (gc_59 Y _ _) rfl kU_X12 (by decide) kF_X12_41 rfl dX12_build_186 (q := 189) rfl ?_
      refine g_iload C 4 dX12_build_189 (q := 191) rfl rfl ?_
      obtain ⟨v15, hv15, h⟩ := g_bind h
      refine g_iald C (k := 70) (n := 1024) (by decide) (gc_70 Y _ _) hv15 dX12_build_191 (q := 192) rfl ?_
      refine g_iconst C (v := (-1)) dX12_build_192 (q := 193) rfl (by decide) ?_
      refine g_ixor C dX12_build_193 (q := 194) rfl ?_
      refine g_iand C dX12_build_194 (q := 195) rfl ?_
      refine g_iload C 5 dX12_build_195 (q := 197) rfl rfl ?_
      refine g_ishr C dX12_build_197 (q := 198) rfl ?_
      refine g_iconst C (v := 1) dX12_build_198 (q := 199) rfl (by decide) ?_
      refine g_iand C dX12_build_199 (q := 200) rfl ?_
      refine g_iload C 4 dX12_build_200 (q := 202) rfl rfl ?_
      refine g_ishl C dX12_build_202 (q := 203) rfl ?_
      refine g_ior C dX12_build_203 (q := 204) rfl ?_
      obtain ⟨M16, hM16, h⟩ := g_bind h
      refine g_iast C (k := 60) (n := 1208) (by decide) (fun a => gc_60 Y a _) hM16 dX12_build_204 (q := 205) rfl ?_
      refine g_iinc C (k := 5) (v := x6 + 1) dX12_build_205 (q := 208) rfl rfl rfl (by decide) (lv' := [(6, .int (x6 + 1)), (0, g_r Y 59), (1, .int x1), (2, .int x2), (3, .int x3), (4, .int x4)]) rfl ?_
      refine g_goto C dX12_build_208 (tgt := 162) (by decide) ?_
      refine g_sub [1, 2, 3, 4, 5, 0] (lv' := [(0, g_r Y 59), (1, .int x1), (2, .int x2), (3, .int x3), (4, .int x4), (6, .int (x6 + 1))]) rfl ?_
      exact ih x1 x2 x3 x4 (x6 + 1) M16 h
theorem r_X12_build_162 {p : Int32 × g_M} {k211 : Int32 → Int32 → Int32 → Int32 → g_M → Option (Int32 × g_M)} (hk211 : ∀ (x1 : Int32) (x2 : Int32) (x3 : Int32) (x4 : Int32) (M : g_M), k211 x1 x2 x3 x4 M = some p → g_fr [60, 63, 64, 70] [(59, 6), (59, 7), (59, 8), (59, 9), (59, 10), (59, 11), (59, 12), (59, 13), (59, 14), (59, 15), (59, 16)] M p.2) (n : Nat) : ∀ (x1 : Int32) (x2 : Int32) (x3 : Int32) (x4 : Int32) (x6 : Int32) (M : g_M), g_lp5 (F_X12_build_162 k211) n x1 x2 x3 x4 x6 M = some p → g_fr [60, 63, 64, 70] [(59, 6), (59, 7), (59, 8), (59, 9), (59, 10), (59, 11), (59, 12), (59, 13), (59, 14), (59, 15), (59, 16)] M p.2 := by
  induction n with
  | zero => intro x1 x2 x3 x4 x6 M h; exact (g_nn h).elim
  | succ n ih =>
    intro x1 x2 x3 x4 x6 M h
    have h : F_X12_build_162 k211 (g_lp5 (F_X12_build_162 k211) n) x1 x2 x3 x4 x6 M = some p := h
    generalize g_lp5 (F_X12_build_162 k211) n = k at h ih
    unfold F_X12_build_162 at h
    have hf := g_fr.rfl (S := [60, 63, 64, 70]) (T := [(59, 6), (59, 7), (59, 8), (59, 9), (59, 10), (59, 11), (59, 12), (59, 13), (59, 14), (59, 15), (59, 16)]) (M := M)
    obtain ⟨v13, -, h⟩ := g_bind h
    rcases g_ifs h with h | h
    · exact hf.trans (hk211 x1 x2 x3 x4 M h)
    · obtain ⟨v14, -, h⟩ := g_bind h
      obtain ⟨v15, -, h⟩ := g_bind h
      obtain ⟨M16, hM16, h⟩ := g_bind h
      have hf := hf.st hM16 (by decide)
      exact hf.trans (ih x1 x2 x3 x4 (x6 + 1) M16 h)
def F_X12_build_142 (k217 : Int32 → Int32 → g_M → Option (Int32 × g_M)) (k : Int32 → Int32 → Int32 → Int32 → g_M → Option (Int32 × g_M)) (x1 : Int32) (x2 : Int32) (x3 : Int32) (x4 : Int32) (M : g_M) : Option (Int32 × g_M) :=
  (if x1 ≤ x4 then (k217 x1 x2 M) else ((f_X12_hangs 1 (-1) (-1) x4 M).bind fun p12 => g_lp5 (F_X12_build_162 (fun (x1 : Int32) (x2 : Int32) (x3 : Int32) (x4 : Int32) (M : g_M) => k x1 x2 x3 (x4 + 1) M)) 20000000 x1 x2 x3 x4 0 p12.2))
set_option maxRecDepth 100000 in
theorem t_X12_build_142 {l : Launch} {X : g_X} {Y : g_Y} {p : Int32 × g_M} {k217 : Int32 → Int32 → g_M → Option (Int32 × g_M)} (C : g_C l (g_rm (203)) RX12 cX12_build 7 X Y) (E : g_E (some .int) X Y (some (.int p.1)) p.2) (hk217 : ∀ (x1 : Int32) (x2 : Int32) (M : g_M), k217 x1 x2 M = some p → g_G 7 X Y 217 [(0, g_r Y 59), (1, .int x1), (2, .int x2)] [] M) (n : Nat) : ∀ (x1 : Int32) (x2 : Int32) (x3 : Int32) (x4 : Int32) (M : g_M), g_lp4 (F_X12_build_142 k217) n x1 x2 x3 x4 M = some p → g_G 7 X Y 142 [(0, g_r Y 59), (1, .int x1), (2, .int x2), (3, .int x3), (4, .int x4)] [] M := by
  induction n with
  | zero => intro x1 x2 x3 x4 M h; exact (g_nn h).elim
  | succ n ih =>
    intro x1 x2 x3 x4 M h
    have h : F_X12_build_142 k217 (g_lp4 (F_X12_build_142 k217) n) x1 x2 x3 x4 M = some p := h
    generalize g_lp4 (F_X12_build_142 k217) n = k at h ih
    unfold F_X12_build_142 at h
    refine g_iload C 4 dX12_build_142 (q := 144) rfl rfl ?_
    refine g_iload_n C 1 dX12_build_144 (q := 145) rfl rfl rfl ?_
    have hif := g_if h
    clear h
    refine g_icmp_ge C dX12_build_145 (q := 148) (tgt := 217) rfl (by decide) (fun c => ?_) (fun c => ?_)
    · have h := hif.1 c
      clear hif
      refine g_sub [0, 1, 2] (lv' := [(0, g_r Y 59), (1, .int x1), (2, .int x2)]) rfl ?_
      exact hk217 x1 x2 M h
    · have h := hif.2 c
      clear hif
      refine g_aload_n C 0 dX12_build_148 (q := 149) rfl rfl rfl ?_
      refine g_iconst C (v := 1) dX12_build_149 (q := 150) rfl (by decide) ?_
      refine g_iconst C (v := (-1)) dX12_build_150 (q := 151) rfl (by decide) ?_
      refine g_iconst C (v := (-1)) dX12_build_151 (q := 152) rfl (by decide) ?_
      refine g_iload C 4 dX12_build_152 (q := 154) rfl rfl ?_
      obtain ⟨p12, hp12, h⟩ := g_bind h
      refine g_callV C (k := 59) (as := [.int 1, .int (-1), .int (-1), .int x4]) (st := []) (m_X12_hangs hp12) (g_hR (by decide)) (by decide) (by decide) (gc_59 Y _ _) rfl kM_X12_238 kI_X12_hangs kS_X12_hangs kN_X12 kC_X12_hangs kD_X12_hangs rfl (Nat.le_of_ble_eq_true rfl) dX12_build_154 (q := 157) rfl ?_
      show g_G 7 X Y 157 [(0, g_r Y 59), (1, .int x1), (2, .int x2), (3, .int x3), (4, .int x4)] [.int p12.1] p12.2
      refine g_istore C dX12_build_157 (q := 159) rfl (by decide) (lv' := [(5, .int p12.1), (0, g_r Y 59), (1, .int x1), (2, .int x2), (3, .int x3), (4, .int x4)]) rfl ?_
      refine g_iconst C (v := 0) dX12_build_159 (q := 160) rfl (by decide) ?_
      refine g_istore C dX12_build_160 (q := 162) rfl (by decide) (lv' := [(6, .int 0), (5, .int p12.1), (0, g_r Y 59), (1, .int x1), (2, .int x2), (3, .int x3), (4, .int x4)]) rfl ?_
      refine g_sub [2, 3, 4, 5, 6, 0] (lv' := [(0, g_r Y 59), (1, .int x1), (2, .int x2), (3, .int x3), (4, .int x4), (6, .int 0)]) rfl ?_
      refine t_X12_build_162 C E ?_ 20000000 x1 x2 x3 x4 0 p12.2 h
      · intro x1 x2 x3 x4 M h
        try dsimp only at h
        refine g_iinc C (k := 4) (v := x4 + 1) dX12_build_211 (q := 214) rfl rfl rfl (by decide) (lv' := [(4, .int (x4 + 1)), (0, g_r Y 59), (1, .int x1), (2, .int x2), (3, .int x3)]) rfl ?_
        refine g_goto C dX12_build_214 (tgt := 142) (by decide) ?_
        refine g_sub [1, 2, 3, 4, 0] (lv' := [(0, g_r Y 59), (1, .int x1), (2, .int x2), (3, .int x3), (4, .int (x4 + 1))]) rfl ?_
        exact ih x1 x2 x3 (x4 + 1) M h
theorem r_X12_build_142 {p : Int32 × g_M} {k217 : Int32 → Int32 → g_M → Option (Int32 × g_M)} (hk217 : ∀ (x1 : Int32) (x2 : Int32) (M : g_M), k217 x1 x2 M = some p → g_fr [60, 63, 64, 70] [(59, 6), (59, 7), (59, 8), (59, 9), (59, 10), (59, 11), (59, 12), (59, 13), (59, 14), (59, 15), (59, 16)] M p.2) (n : Nat) : ∀ (x1 : Int32) (x2 : Int32) (x3 : Int32) (x4 : Int32) (M : g_M), g_lp4 (F_X12_build_142 k217) n x1 x2 x3 x4 M = some p → g_fr [60, 63, 64, 70] [(59, 6), (59, 7), (59, 8), (59, 9), (59, 10), (59, 11), (59, 12), (59, 13), (59, 14), (59, 15), (59, 16)] M p.2 := by
  induction n with
  | zero => intro x1 x2 x3 x4 M h; exact (g_nn h).elim
  | succ n ih =>
    intro x1 x2 x3 x4 M h
    have h : F_X12_build_142 k217 (g_lp4 (F_X12_build_142 k217) n) x1 x2 x3 x4 M = some p := h
    generalize g_lp4 (F_X12_build_142 k217) n = k at h ih
    unfold F_X12_build_142 at h
    have hf := g_fr.rfl (S := [60, 63, 64, 70]) (T := [(59, 6), (59, 7), (59, 8), (59, 9), (59, 10), (59, 11), (59, 12), (59, 13), (59, 14), (59, 15), (59, 16)]) (M := M)
    rcases g_ifs h with h | h
    · exact hf.trans (hk217 x1 x2 M h)
    · obtain ⟨p12, hp12, h⟩ := g_bind h
      have hf := hf.trans ((r_X12_hangs hp12).mono (by decide) (by decide))
      refine hf.trans (r_X12_build_162 ?_ 20000000 x1 x2 x3 x4 0 p12.2 h)
      · intro x1 x2 x3 x4 M h
        try dsimp only at h
        have hf := g_fr.rfl (S := [60, 63, 64, 70]) (T := [(59, 6), (59, 7), (59, 8), (59, 9), (59, 10), (59, 11), (59, 12), (59, 13), (59, 14), (59, 15), (59, 16)]) (M := M)
        exact hf.trans (ih x1 x2 x3 (x4 + 1) M h)
def F_X12_build_223 (k249 : Int32 → g_M → Option (Int32 × g_M)) (k : Int32 → Int32 → Int32 → Int32 → g_M → Option (Int32 × g_M)) (x1 : Int32) (x2 : Int32) (x4 : Int32) (x5 : Int32) (M : g_M) : Option (Int32 × g_M) :=
  (if x1 ≤ x5 then (k249 x4 M) else ((f_X12_hangs 3 x4 (x2 + x5) (-1) M).bind fun p17 => k x1 x2 p17.1 (x5 + 1) p17.2))
set_option maxRecDepth 100000 in
theorem t_X12_build_223 {l : Launch} {X : g_X} {Y : g_Y} {p : Int32 × g_M} {k249 : Int32 → g_M → Option (Int32 × g_M)} (C : g_C l (g_rm (203)) RX12 cX12_build 7 X Y) (E : g_E (some .int) X Y (some (.int p.1)) p.2) (hk249 : ∀ (x4 : Int32) (M : g_M), k249 x4 M = some p → g_G 7 X Y 249 [(4, .int x4)] [] M) (n : Nat) : ∀ (x1 : Int32) (x2 : Int32) (x4 : Int32) (x5 : Int32) (M : g_M), g_lp4 (F_X12_build_223 k249) n x1 x2 x4 x5 M = some p → g_G 7 X Y 223 [(0, g_r Y 59), (1, .int x1), (2, .int x2), (4, .int x4), (5, .int x5)] [] M := by
  induction n with
  | zero => intro x1 x2 x4 x5 M h; exact (g_nn h).elim
  | succ n ih =>
    intro x1 x2 x4 x5 M h
    have h : F_X12_build_223 k249 (g_lp4 (F_X12_build_223 k249) n) x1 x2 x4 x5 M = some p := h
    generalize g_lp4 (F_X12_build_223 k249) n = k at h ih
    unfold F_X12_build_223 at h
    refine g_iload C 4 dX12_build_223 (q := 225) rfl rfl ?_
    refine g_iload_n C 1 dX12_build_225 (q := 226) rfl rfl rfl ?_
    have hif := g_if h
    clear h
    refine g_icmp_ge C dX12_build_226 (q := 229) (tgt := 249) rfl (by decide) (fun c => ?_) (fun c => ?_)
    · have h := hif.1 c
      clear hif
      refine g_sub [3] (lv' := [(4, .int x4)]) rfl ?_
      exact hk249 x4 M h
    · have h := hif.2 c
      clear hif
      refine g_aload_n C 0 dX12_build_229 (q := 230) rfl rfl rfl ?_
      refine g_iconst C (v := 3) dX12_build_230 (q := 231) rfl (by decide) ?_
      refine g_iload C 3 dX12_build_231 (q := 233) rfl rfl ?_
      refine g_iload_n C 2 dX12_build_233 (q := 234) rfl rfl rfl ?_
      refine g_iload C 4 dX12_build_234 (q := 236) rfl rfl ?_
      refine g_iadd C dX12_build_236 (q := 237) rfl ?_
      refine g_iconst C (v := (-1)) dX12_build_237 (q := 238) rfl (by decide) ?_
      obtain ⟨p17, hp17, h⟩ := g_bind h
      refine g_callV C (k := 59) (as := [.int 3, .int x4, .int (x2 + x5), .int (-1)]) (st := []) (m_X12_hangs hp17) (g_hR (by decide)) (by decide) (by decide) (gc_59 Y _ _) rfl kM_X12_238 kI_X12_hangs kS_X12_hangs kN_X12 kC_X12_hangs kD_X12_hangs rfl (Nat.le_of_ble_eq_true rfl) dX12_build_238 (q := 241) rfl ?_
      show g_G 7 X Y 241 [(0, g_r Y 59), (1, .int x1), (2, .int x2), (4, .int x4), (5, .int x5)] [.int p17.1] p17.2
      refine g_istore C dX12_build_241 (q := 243) rfl (by decide) (lv' := [(4, .int p17.1), (0, g_r Y 59), (1, .int x1), (2, .int x2), (5, .int x5)]) rfl ?_
      refine g_iinc C (k := 4) (v := x5 + 1) dX12_build_243 (q := 246) rfl rfl rfl (by decide) (lv' := [(5, .int (x5 + 1)), (4, .int p17.1), (0, g_r Y 59), (1, .int x1), (2, .int x2)]) rfl ?_
      refine g_goto C dX12_build_246 (tgt := 223) (by decide) ?_
      refine g_sub [2, 3, 4, 1, 0] (lv' := [(0, g_r Y 59), (1, .int x1), (2, .int x2), (4, .int p17.1), (5, .int (x5 + 1))]) rfl ?_
      exact ih x1 x2 p17.1 (x5 + 1) p17.2 h
theorem r_X12_build_223 {p : Int32 × g_M} {k249 : Int32 → g_M → Option (Int32 × g_M)} (hk249 : ∀ (x4 : Int32) (M : g_M), k249 x4 M = some p → g_fr [60, 63, 64, 70] [(59, 6), (59, 7), (59, 8), (59, 9), (59, 10), (59, 11), (59, 12), (59, 13), (59, 14), (59, 15), (59, 16)] M p.2) (n : Nat) : ∀ (x1 : Int32) (x2 : Int32) (x4 : Int32) (x5 : Int32) (M : g_M), g_lp4 (F_X12_build_223 k249) n x1 x2 x4 x5 M = some p → g_fr [60, 63, 64, 70] [(59, 6), (59, 7), (59, 8), (59, 9), (59, 10), (59, 11), (59, 12), (59, 13), (59, 14), (59, 15), (59, 16)] M p.2 := by
  induction n with
  | zero => intro x1 x2 x4 x5 M h; exact (g_nn h).elim
  | succ n ih =>
    intro x1 x2 x4 x5 M h
    have h : F_X12_build_223 k249 (g_lp4 (F_X12_build_223 k249) n) x1 x2 x4 x5 M = some p := h
    generalize g_lp4 (F_X12_build_223 k249) n = k at h ih
    unfold F_X12_build_223 at h
    have hf := g_fr.rfl (S := [60, 63, 64, 70]) (T := [(59, 6), (59, 7), (59, 8), (59, 9), (59, 10), (59, 11), (59, 12), (59, 13), (59, 14), (59, 15), (59, 16)]) (M := M)
    rcases g_ifs h with h | h
    · exact hf.trans (hk249 x4 M h)
    · obtain ⟨p17, hp17, h⟩ := g_bind h
      have hf := hf.trans ((r_X12_hangs hp17).mono (by decide) (by decide))
      exact hf.trans (ih x1 x2 p17.1 (x5 + 1) p17.2 h)
def f_X12_build (M : g_M) : Option (Int32 × g_M) :=
  (g_ld M 60 1208 2).bind fun v1 => (if 0 ≤ v1 then ((f_X12_findMay M).bind fun p2 => (f_X12_firstThatLoses p2).bind fun p3 => (if p3 < 0 then ((f_X12_find 1 (-1) p2).bind fun p4 => (if p4 = 0 then ((f_X12_finding 3 p2).bind fun p18 => some (p18.1, p18.2)) else ((if 24 < p4 then (f_X12_build_72 p2) else ((g_ld p2 60 1208 3).bind fun v6 => (if ((v6 + (2 * p4)) - 1) ≤ 40 then (g_lp2 (F_X12_build_80 (fun (x1 : Int32) (M : g_M) => g_lp2 (F_X12_build_105 (fun (x1 : Int32) (M : g_M) => (g_ld M 60 1208 3).bind fun v10 => (f_X12_all M).bind fun p11 => g_lp4 (F_X12_build_142 (fun (x1 : Int32) (x2 : Int32) (M : g_M) => g_lp4 (F_X12_build_223 (fun (x4 : Int32) (M : g_M) => some (x4, M))) 20000000 x1 x2 x2 1 M)) 20000000 x1 v10 p11 0 M)) 20000000 x1 0 M)) 20000000 p4 0 p2) else (f_X12_build_72 p2))))))) else ((f_X12_finding 2 p2).bind fun p19 => some (p19.1, p19.2)))) else ((f_X12_finding 4 M).bind fun p20 => some (p20.1, p20.2)))
set_option maxRecDepth 100000 in
theorem m_X12_build {l : Launch} {Y : g_Y} {M : g_M} {p : Int32 × g_M} (h : f_X12_build M = some p) : g_R l Y (203) yX12_build cX12_build 7 (some .int) [g_r Y 59] M (some (.int p.1)) p.2 := by
  unfold f_X12_build at h
  refine g_R_of kP_X12 rfl (Nat.le_of_ble_eq_true rfl) (fun X C E => ?_)
  show g_G 7 X Y 0 [(0, g_r Y 59)] [] M
  refine g_aload_n C 0 dX12_build_0 (q := 1) rfl rfl rfl ?_
  refine g_get C (k := 59) (i := 0) (by decide) (gc_59 Y _ _) rfl kU_X12 (by decide) kF_X12_7 rfl dX12_build_1 (q := 4) rfl ?_
  refine g_iconst C (v := 2) dX12_build_4 (q := 5) rfl (by decide) ?_
  obtain ⟨v1, hv1, h⟩ := g_bind h
  refine g_iald C (k := 60) (n := 1208) (by decide) (gc_60 Y _ _) hv1 dX12_build_5 (q := 6) rfl ?_
  have hif := g_if h
  clear h
  refine g_if_ge C dX12_build_6 (q := 9) (tgt := 15) rfl (by decide) (fun c => ?_) (fun c => ?_)
  · have h := hif.1 c
    clear hif
    refine g_aload_n C 0 dX12_build_15 (q := 16) rfl rfl rfl ?_
    obtain ⟨p2, hp2, h⟩ := g_bind h
    refine g_callV C (k := 59) (as := []) (st := []) (m_X12_findMay hp2) (g_hR (by decide)) (by decide) (by decide) (gc_59 Y _ _) rfl kM_X12_213 kI_X12_findMay kS_X12_findMay kN_X12 kC_X12_findMay kD_X12_findMay rfl (Nat.le_of_ble_eq_true rfl) dX12_build_16 (q := 19) rfl ?_
    show g_G 7 X Y 19 [(0, g_r Y 59)] [] p2
    refine g_aload_n C 0 dX12_build_19 (q := 20) rfl rfl rfl ?_
    obtain ⟨p3, hp3, h⟩ := g_bind h
    refine g_callV C (k := 59) (as := []) (st := []) (m_X12_firstThatLoses hp3) (g_hR (by decide)) (by decide) (by decide) (gc_59 Y _ _) rfl kM_X12_216 kI_X12_firstThatLoses kS_X12_firstThatLoses kN_X12 kC_X12_firstThatLoses kD_X12_firstThatLoses rfl (Nat.le_of_ble_eq_true rfl) dX12_build_20 (q := 23) rfl ?_
    show g_G 7 X Y 23 [(0, g_r Y 59)] [.int p3] p2
    have hif := g_if h
    clear h
    refine g_if_lt C dX12_build_23 (q := 26) (tgt := 32) rfl (by decide) (fun c => ?_) (fun c => ?_)
    · have h := hif.1 c
      clear hif
      refine g_aload_n C 0 dX12_build_32 (q := 33) rfl rfl rfl ?_
      refine g_iconst C (v := 1) dX12_build_33 (q := 34) rfl (by decide) ?_
      refine g_iconst C (v := (-1)) dX12_build_34 (q := 35) rfl (by decide) ?_
      obtain ⟨p4, hp4, h⟩ := g_bind h
      refine g_callV C (k := 59) (as := [.int 1, .int (-1)]) (st := []) (m_X12_find hp4) (g_hR (by decide)) (by decide) (by decide) (gc_59 Y _ _) rfl kM_X12_225 kI_X12_find kS_X12_find kN_X12 kC_X12_find kD_X12_find rfl (Nat.le_of_ble_eq_true rfl) dX12_build_35 (q := 38) rfl ?_
      show g_G 7 X Y 38 [(0, g_r Y 59)] [.int p4] p2
      refine g_istore_n C dX12_build_38 (q := 39) rfl rfl (by decide) (lv' := [(1, .int p4), (0, g_r Y 59)]) rfl ?_
      refine g_iload_n C 0 dX12_build_39 (q := 40) rfl rfl rfl ?_
      have hif := g_if h
      clear h
      refine g_if_ne C dX12_build_40 (q := 43) (tgt := 49) rfl (by decide) (fun c => ?_) (fun c => ?_)
      · have h := hif.2 c
        clear hif
        refine g_iload_n C 0 dX12_build_49 (q := 50) rfl rfl rfl ?_
        refine g_bipush C (v := 24) dX12_build_50 (q := 52) rfl (by decide) ?_
        have hif := g_if h
        clear h
        refine g_icmp_gt C dX12_build_52 (q := 55) (tgt := 72) rfl (by decide) (fun c => ?_) (fun c => ?_)
        · have h := hif.1 c
          clear hif
          refine g_sub [1] (lv' := [(0, g_r Y 59)]) rfl ?_
          exact t_X12_build_72 C E p2 h
        · have h := hif.2 c
          clear hif
          refine g_aload_n C 1 dX12_build_55 (q := 56) rfl rfl rfl ?_
          refine g_get C (k := 59) (i := 0) (by decide) (gc_59 Y _ _) rfl kU_X12 (by decide) kF_X12_7 rfl dX12_build_56 (q := 59) rfl ?_
          refine g_iconst C (v := 3) dX12_build_59 (q := 60) rfl (by decide) ?_
          obtain ⟨v6, hv6, h⟩ := g_bind h
          refine g_iald C (k := 60) (n := 1208) (by decide) (gc_60 Y _ _) hv6 dX12_build_60 (q := 61) rfl ?_
          refine g_iconst C (v := 2) dX12_build_61 (q := 62) rfl (by decide) ?_
          refine g_iload_n C 0 dX12_build_62 (q := 63) rfl rfl rfl ?_
          refine g_imul C dX12_build_63 (q := 64) rfl ?_
          refine g_iadd C dX12_build_64 (q := 65) rfl ?_
          refine g_iconst C (v := 1) dX12_build_65 (q := 66) rfl (by decide) ?_
          refine g_isub C dX12_build_66 (q := 67) rfl ?_
          refine g_bipush C (v := 40) dX12_build_67 (q := 69) rfl (by decide) ?_
          have hif := g_if h
          clear h
          refine g_icmp_le C dX12_build_69 (q := 72) (tgt := 78) rfl (by decide) (fun c => ?_) (fun c => ?_)
          · have h := hif.1 c
            clear hif
            refine g_iconst C (v := 0) dX12_build_78 (q := 79) rfl (by decide) ?_
            refine g_istore_n C dX12_build_79 (q := 80) rfl rfl (by decide) (lv' := [(2, .int 0), (1, .int p4), (0, g_r Y 59)]) rfl ?_
            refine g_sub [2, 1, 0] (lv' := [(0, g_r Y 59), (1, .int p4), (2, .int 0)]) rfl ?_
            refine t_X12_build_80 C E ?_ 20000000 p4 0 p2 h
            · intro x1 M h
              try dsimp only at h
              refine g_iconst C (v := 0) dX12_build_103 (q := 104) rfl (by decide) ?_
              refine g_istore_n C dX12_build_104 (q := 105) rfl rfl (by decide) (lv' := [(2, .int 0), (0, g_r Y 59), (1, .int x1)]) rfl ?_
              refine g_sub [1, 2, 0] (lv' := [(0, g_r Y 59), (1, .int x1), (2, .int 0)]) rfl ?_
              refine t_X12_build_105 C E ?_ 20000000 x1 0 M h
              · intro x1 M h
                try dsimp only at h
                refine g_aload_n C 0 dX12_build_127 (q := 128) rfl rfl rfl ?_
                refine g_get C (k := 59) (i := 0) (by decide) (gc_59 Y _ _) rfl kU_X12 (by decide) kF_X12_7 rfl dX12_build_128 (q := 131) rfl ?_
                refine g_iconst C (v := 3) dX12_build_131 (q := 132) rfl (by decide) ?_
                obtain ⟨v10, hv10, h⟩ := g_bind h
                refine g_iald C (k := 60) (n := 1208) (by decide) (gc_60 Y _ _) hv10 dX12_build_132 (q := 133) rfl ?_
                refine g_istore_n C dX12_build_133 (q := 134) rfl rfl (by decide) (lv' := [(2, .int v10), (0, g_r Y 59), (1, .int x1)]) rfl ?_
                refine g_aload_n C 1 dX12_build_134 (q := 135) rfl rfl rfl ?_
                obtain ⟨p11, hp11, h⟩ := g_bind h
                refine g_callV C (k := 59) (as := []) (st := []) (m_X12_all hp11) (g_hR (by decide)) (by decide) (by decide) (gc_59 Y _ _) rfl kM_X12_181 kI_X12_all kS_X12_all kN_X12 kC_X12_all kD_X12_all rfl (Nat.le_of_ble_eq_true rfl) dX12_build_135 (q := 138) rfl ?_
                show g_G 7 X Y 138 [(2, .int v10), (0, g_r Y 59), (1, .int x1)] [.int p11] M
                refine g_istore_n C dX12_build_138 (q := 139) rfl rfl (by decide) (lv' := [(3, .int p11), (2, .int v10), (0, g_r Y 59), (1, .int x1)]) rfl ?_
                refine g_iconst C (v := 0) dX12_build_139 (q := 140) rfl (by decide) ?_
                refine g_istore C dX12_build_140 (q := 142) rfl (by decide) (lv' := [(4, .int 0), (3, .int p11), (2, .int v10), (0, g_r Y 59), (1, .int x1)]) rfl ?_
                refine g_sub [3, 4, 2, 1, 0] (lv' := [(0, g_r Y 59), (1, .int x1), (2, .int v10), (3, .int p11), (4, .int 0)]) rfl ?_
                refine t_X12_build_142 C E ?_ 20000000 x1 v10 p11 0 M h
                · intro x1 x2 M h
                  try dsimp only at h
                  refine g_iload_n C 2 dX12_build_217 (q := 218) rfl rfl rfl ?_
                  refine g_istore C dX12_build_218 (q := 220) rfl (by decide) (lv' := [(4, .int x2), (0, g_r Y 59), (1, .int x1), (2, .int x2)]) rfl ?_
                  refine g_iconst C (v := 1) dX12_build_220 (q := 221) rfl (by decide) ?_
                  refine g_istore C dX12_build_221 (q := 223) rfl (by decide) (lv' := [(5, .int 1), (4, .int x2), (0, g_r Y 59), (1, .int x1), (2, .int x2)]) rfl ?_
                  refine g_sub [2, 3, 4, 1, 0] (lv' := [(0, g_r Y 59), (1, .int x1), (2, .int x2), (4, .int x2), (5, .int 1)]) rfl ?_
                  refine t_X12_build_223 C E ?_ 20000000 x1 x2 x2 1 M h
                  · intro x4 M h
                    try dsimp only at h
                    refine g_iload C 0 dX12_build_249 (q := 251) rfl rfl ?_
                    obtain rfl := Option.some.inj h
                    exact g_iret C E dX12_build_251
          · have h := hif.2 c
            clear hif
            refine g_sub [1] (lv' := [(0, g_r Y 59)]) rfl ?_
            exact t_X12_build_72 C E p2 h
      · have h := hif.1 c
        clear hif
        refine g_aload_n C 1 dX12_build_43 (q := 44) rfl rfl rfl ?_
        refine g_iconst C (v := 3) dX12_build_44 (q := 45) rfl (by decide) ?_
        obtain ⟨p18, hp18, h⟩ := g_bind h
        refine g_callV C (k := 59) (as := [.int 3]) (st := []) (m_X12_finding hp18) (g_hR (by decide)) (by decide) (by decide) (gc_59 Y _ _) rfl kM_X12_190 kI_X12_finding kS_X12_finding kN_X12 kC_X12_finding kD_X12_finding rfl (Nat.le_of_ble_eq_true rfl) dX12_build_45 (q := 48) rfl ?_
        show g_G 7 X Y 48 [(1, .int p4), (0, g_r Y 59)] [.int p18.1] p18.2
        obtain rfl := Option.some.inj h
        exact g_iret C E dX12_build_48
    · have h := hif.2 c
      clear hif
      refine g_aload_n C 0 dX12_build_26 (q := 27) rfl rfl rfl ?_
      refine g_iconst C (v := 2) dX12_build_27 (q := 28) rfl (by decide) ?_
      obtain ⟨p19, hp19, h⟩ := g_bind h
      refine g_callV C (k := 59) (as := [.int 2]) (st := []) (m_X12_finding hp19) (g_hR (by decide)) (by decide) (by decide) (gc_59 Y _ _) rfl kM_X12_190 kI_X12_finding kS_X12_finding kN_X12 kC_X12_finding kD_X12_finding rfl (Nat.le_of_ble_eq_true rfl) dX12_build_28 (q := 31) rfl ?_
      show g_G 7 X Y 31 [(0, g_r Y 59)] [.int p19.1] p19.2
      obtain rfl := Option.some.inj h
      exact g_iret C E dX12_build_31
  · have h := hif.2 c
    clear hif
    refine g_aload_n C 0 dX12_build_9 (q := 10) rfl rfl rfl ?_
    refine g_iconst C (v := 4) dX12_build_10 (q := 11) rfl (by decide) ?_
    obtain ⟨p20, hp20, h⟩ := g_bind h
    refine g_callV C (k := 59) (as := [.int 4]) (st := []) (m_X12_finding hp20) (g_hR (by decide)) (by decide) (by decide) (gc_59 Y _ _) rfl kM_X12_190 kI_X12_finding kS_X12_finding kN_X12 kC_X12_finding kD_X12_finding rfl (Nat.le_of_ble_eq_true rfl) dX12_build_11 (q := 14) rfl ?_
    show g_G 7 X Y 14 [(0, g_r Y 59)] [.int p20.1] p20.2
    obtain rfl := Option.some.inj h
    exact g_iret C E dX12_build_14
theorem r_X12_build {M : g_M} {p : Int32 × g_M} (h : f_X12_build M = some p) : g_fr [60, 63, 64, 70] [(59, 6), (59, 7), (59, 8), (59, 9), (59, 10), (59, 11), (59, 12), (59, 13), (59, 14), (59, 15), (59, 16)] M p.2 := by
  unfold f_X12_build at h
  have hf := g_fr.rfl (S := [60, 63, 64, 70]) (T := [(59, 6), (59, 7), (59, 8), (59, 9), (59, 10), (59, 11), (59, 12), (59, 13), (59, 14), (59, 15), (59, 16)]) (M := M)
  obtain ⟨v1, -, h⟩ := g_bind h
  rcases g_ifs h with h | h
  · obtain ⟨p2, hp2, h⟩ := g_bind h
    have hf := hf.trans ((r_X12_findMay hp2).mono (by decide) (by decide))
    obtain ⟨p3, -, h⟩ := g_bind h
    rcases g_ifs h with h | h
    · obtain ⟨p4, -, h⟩ := g_bind h
      rcases g_ifs h with h | h
      · obtain ⟨p18, hp18, h⟩ := g_bind h
        have hf := hf.trans ((r_X12_finding hp18).mono (by decide) (by decide))
        obtain rfl := Option.some.inj h
        exact hf
      · rcases g_ifs h with h | h
        · exact hf.trans (r_X12_build_72 p2 h)
        · obtain ⟨v6, -, h⟩ := g_bind h
          rcases g_ifs h with h | h
          · refine hf.trans (r_X12_build_80 ?_ 20000000 p4 0 p2 h)
            · intro x1 M h
              try dsimp only at h
              have hf := g_fr.rfl (S := [60, 63, 64, 70]) (T := [(59, 6), (59, 7), (59, 8), (59, 9), (59, 10), (59, 11), (59, 12), (59, 13), (59, 14), (59, 15), (59, 16)]) (M := M)
              refine hf.trans (r_X12_build_105 ?_ 20000000 x1 0 M h)
              · intro x1 M h
                try dsimp only at h
                have hf := g_fr.rfl (S := [60, 63, 64, 70]) (T := [(59, 6), (59, 7), (59, 8), (59, 9), (59, 10), (59, 11), (59, 12), (59, 13), (59, 14), (59, 15), (59, 16)]) (M := M)
                obtain ⟨v10, -, h⟩ := g_bind h
                obtain ⟨p11, -, h⟩ := g_bind h
                refine hf.trans (r_X12_build_142 ?_ 20000000 x1 v10 p11 0 M h)
                · intro x1 x2 M h
                  try dsimp only at h
                  have hf := g_fr.rfl (S := [60, 63, 64, 70]) (T := [(59, 6), (59, 7), (59, 8), (59, 9), (59, 10), (59, 11), (59, 12), (59, 13), (59, 14), (59, 15), (59, 16)]) (M := M)
                  refine hf.trans (r_X12_build_223 ?_ 20000000 x1 x2 x2 1 M h)
                  · intro x4 M h
                    try dsimp only at h
                    have hf := g_fr.rfl (S := [60, 63, 64, 70]) (T := [(59, 6), (59, 7), (59, 8), (59, 9), (59, 10), (59, 11), (59, 12), (59, 13), (59, 14), (59, 15), (59, 16)]) (M := M)
                    obtain rfl := Option.some.inj h
                    exact hf
          · exact hf.trans (r_X12_build_72 p2 h)
    · obtain ⟨p19, hp19, h⟩ := g_bind h
      have hf := hf.trans ((r_X12_finding hp19).mono (by decide) (by decide))
      obtain rfl := Option.some.inj h
      exact hf
  · obtain ⟨p20, hp20, h⟩ := g_bind h
    have hf := hf.trans ((r_X12_finding hp20).mono (by decide) (by decide))
    obtain rfl := Option.some.inj h
    exact hf
def F_X12_adds_2 (k20 : g_M → Option (g_M)) (k27 : Int32 → Int32 → g_M → Option (g_M)) (k : Int32 → Int32 → Int32 → g_M → Option (g_M)) (x1 : Int32) (x2 : Int32) (x3 : Int32) (M : g_M) : Option (g_M) :=
  (if (M.1 59 26) ≤ x3 then (k27 x1 x2 M) else ((g_ld M 71 200 x3).bind fun v1 => (if v1 = x1 then (k20 M) else (k x1 x2 (x3 + 1) M))))
set_option maxRecDepth 100000 in
theorem t_X12_adds_2 {l : Launch} {X : g_X} {Y : g_Y} {p : g_M} {k20 : g_M → Option (g_M)} {k27 : Int32 → Int32 → g_M → Option (g_M)} (C : g_C l (g_rm (0)) RX12 cX12_adds 4 X Y) (E : g_E none X Y none p) (hk20 : ∀ (M : g_M), k20 M = some p → g_G 4 X Y 20 [] [] M) (hk27 : ∀ (x1 : Int32) (x2 : Int32) (M : g_M), k27 x1 x2 M = some p → g_G 4 X Y 27 [(0, g_r Y 59), (1, .int x1), (2, .int x2)] [] M) (n : Nat) : ∀ (x1 : Int32) (x2 : Int32) (x3 : Int32) (M : g_M), g_lp3 (F_X12_adds_2 k20 k27) n x1 x2 x3 M = some p → g_G 4 X Y 2 [(0, g_r Y 59), (1, .int x1), (2, .int x2), (3, .int x3)] [] M := by
  induction n with
  | zero => intro x1 x2 x3 M h; exact (g_nn h).elim
  | succ n ih =>
    intro x1 x2 x3 M h
    have h : F_X12_adds_2 k20 k27 (g_lp3 (F_X12_adds_2 k20 k27) n) x1 x2 x3 M = some p := h
    generalize g_lp3 (F_X12_adds_2 k20 k27) n = k at h ih
    unfold F_X12_adds_2 at h
    refine g_iload_n C 3 dX12_adds_2 (q := 3) rfl rfl rfl ?_
    refine g_aload_n C 0 dX12_adds_3 (q := 4) rfl rfl rfl ?_
    refine g_get C (k := 59) (i := 26) (by decide) (gc_59 Y _ _) rfl kU_X12 (by decide) kF_X12_284 rfl dX12_adds_4 (q := 7) rfl ?_
    have hif := g_if h
    clear h
    refine g_icmp_ge C dX12_adds_7 (q := 10) (tgt := 27) rfl (by decide) (fun c => ?_) (fun c => ?_)
    · have h := hif.1 c
      clear hif
      refine g_sub [0, 1, 2] (lv' := [(0, g_r Y 59), (1, .int x1), (2, .int x2)]) rfl ?_
      exact hk27 x1 x2 M h
    · have h := hif.2 c
      clear hif
      refine g_aload_n C 0 dX12_adds_10 (q := 11) rfl rfl rfl ?_
      refine g_get C (k := 59) (i := 24) (by decide) (gc_59 Y _ _) rfl kU_X12 (by decide) kF_X12_44 rfl dX12_adds_11 (q := 14) rfl ?_
      refine g_iload_n C 3 dX12_adds_14 (q := 15) rfl rfl rfl ?_
      obtain ⟨v1, hv1, h⟩ := g_bind h
      refine g_iald C (k := 71) (n := 200) (by decide) (gc_71 Y _ _) hv1 dX12_adds_15 (q := 16) rfl ?_
      refine g_iload_n C 1 dX12_adds_16 (q := 17) rfl rfl rfl ?_
      have hif := g_if h
      clear h
      refine g_icmp_ne C dX12_adds_17 (q := 20) (tgt := 21) rfl (by decide) (fun c => ?_) (fun c => ?_)
      · have h := hif.2 c
        clear hif
        refine g_iinc C (k := 3) (v := x3 + 1) dX12_adds_21 (q := 24) rfl rfl rfl (by decide) (lv' := [(3, .int (x3 + 1)), (0, g_r Y 59), (1, .int x1), (2, .int x2)]) rfl ?_
        refine g_goto C dX12_adds_24 (tgt := 2) (by decide) ?_
        refine g_sub [1, 2, 3, 0] (lv' := [(0, g_r Y 59), (1, .int x1), (2, .int x2), (3, .int (x3 + 1))]) rfl ?_
        exact ih x1 x2 (x3 + 1) M h
      · have h := hif.1 c
        clear hif
        refine g_sub [] (lv' := []) rfl ?_
        exact hk20 M h
theorem r_X12_adds_2 {p : g_M} {k20 : g_M → Option (g_M)} {k27 : Int32 → Int32 → g_M → Option (g_M)} (hk20 : ∀ (M : g_M), k20 M = some p → g_fr [71, 72] [(59, 26)] M p) (hk27 : ∀ (x1 : Int32) (x2 : Int32) (M : g_M), k27 x1 x2 M = some p → g_fr [71, 72] [(59, 26)] M p) (n : Nat) : ∀ (x1 : Int32) (x2 : Int32) (x3 : Int32) (M : g_M), g_lp3 (F_X12_adds_2 k20 k27) n x1 x2 x3 M = some p → g_fr [71, 72] [(59, 26)] M p := by
  induction n with
  | zero => intro x1 x2 x3 M h; exact (g_nn h).elim
  | succ n ih =>
    intro x1 x2 x3 M h
    have h : F_X12_adds_2 k20 k27 (g_lp3 (F_X12_adds_2 k20 k27) n) x1 x2 x3 M = some p := h
    generalize g_lp3 (F_X12_adds_2 k20 k27) n = k at h ih
    unfold F_X12_adds_2 at h
    have hf := g_fr.rfl (S := [71, 72]) (T := [(59, 26)]) (M := M)
    rcases g_ifs h with h | h
    · exact hf.trans (hk27 x1 x2 M h)
    · obtain ⟨v1, -, h⟩ := g_bind h
      rcases g_ifs h with h | h
      · exact hf.trans (hk20 M h)
      · exact hf.trans (ih x1 x2 (x3 + 1) M h)
def f_X12_adds (x1 : Int32) (x2 : Int32) (M : g_M) : Option (g_M) :=
  g_lp3 (F_X12_adds_2 (fun (M : g_M) => some M) (fun (x1 : Int32) (x2 : Int32) (M : g_M) => (g_st M 71 200 (M.1 59 26) x1).bind fun M2 => (g_st M2 72 200 (M2.1 59 26) x2).bind fun M3 => (some (g_u M3 59 26 ((M3.1 59 26) + 1))).bind fun M4 => some M4)) 20000000 x1 x2 0 M
set_option maxRecDepth 100000 in
theorem m_X12_adds {l : Launch} {Y : g_Y} {x1 : Int32} {x2 : Int32} {M : g_M} {p : g_M} (h : f_X12_adds x1 x2 M = some p) : g_R l Y (0) yX12_adds cX12_adds 4 none [g_r Y 59, .int x1, .int x2] M none p := by
  unfold f_X12_adds at h
  refine g_R_of kP_X12 rfl (Nat.le_of_ble_eq_true rfl) (fun X C E => ?_)
  show g_G 4 X Y 0 [(0, g_r Y 59), (1, .int x1), (2, .int x2)] [] M
  refine g_iconst C (v := 0) dX12_adds_0 (q := 1) rfl (by decide) ?_
  refine g_istore_n C dX12_adds_1 (q := 2) rfl rfl (by decide) (lv' := [(3, .int 0), (0, g_r Y 59), (1, .int x1), (2, .int x2)]) rfl ?_
  refine g_sub [1, 2, 3, 0] (lv' := [(0, g_r Y 59), (1, .int x1), (2, .int x2), (3, .int 0)]) rfl ?_
  refine t_X12_adds_2 C E ?_ ?_ 20000000 x1 x2 0 M h
  · intro M h
    try dsimp only at h
    obtain rfl := Option.some.inj h
    exact g_vret C E dX12_adds_20
  · intro x1 x2 M h
    try dsimp only at h
    refine g_aload_n C 0 dX12_adds_27 (q := 28) rfl rfl rfl ?_
    refine g_get C (k := 59) (i := 24) (by decide) (gc_59 Y _ _) rfl kU_X12 (by decide) kF_X12_44 rfl dX12_adds_28 (q := 31) rfl ?_
    refine g_aload_n C 0 dX12_adds_31 (q := 32) rfl rfl rfl ?_
    refine g_get C (k := 59) (i := 26) (by decide) (gc_59 Y _ _) rfl kU_X12 (by decide) kF_X12_284 rfl dX12_adds_32 (q := 35) rfl ?_
    refine g_iload_n C 1 dX12_adds_35 (q := 36) rfl rfl rfl ?_
    obtain ⟨M2, hM2, h⟩ := g_bind h
    refine g_iast C (k := 71) (n := 200) (by decide) (fun a => gc_71 Y a _) hM2 dX12_adds_36 (q := 37) rfl ?_
    refine g_aload_n C 0 dX12_adds_37 (q := 38) rfl rfl rfl ?_
    refine g_get C (k := 59) (i := 25) (by decide) (gc_59 Y _ _) rfl kU_X12 (by decide) kF_X12_47 rfl dX12_adds_38 (q := 41) rfl ?_
    refine g_aload_n C 0 dX12_adds_41 (q := 42) rfl rfl rfl ?_
    refine g_get C (k := 59) (i := 26) (by decide) (gc_59 Y _ _) rfl kU_X12 (by decide) kF_X12_284 rfl dX12_adds_42 (q := 45) rfl ?_
    refine g_iload_n C 2 dX12_adds_45 (q := 46) rfl rfl rfl ?_
    obtain ⟨M3, hM3, h⟩ := g_bind h
    refine g_iast C (k := 72) (n := 200) (by decide) (fun a => gc_72 Y a _) hM3 dX12_adds_46 (q := 47) rfl ?_
    refine g_aload_n C 0 dX12_adds_47 (q := 48) rfl rfl rfl ?_
    refine g_dup C dX12_adds_48 (q := 49) rfl rfl ?_
    refine g_get C (k := 59) (i := 26) (by decide) (gc_59 Y _ _) rfl kU_X12 (by decide) kF_X12_284 rfl dX12_adds_49 (q := 52) rfl ?_
    refine g_iconst C (v := 1) dX12_adds_52 (q := 53) rfl (by decide) ?_
    refine g_iadd C dX12_adds_53 (q := 54) rfl ?_
    obtain ⟨M4, hM4, h⟩ := g_bind h
    refine g_put C (k := 59) (i := 26) (ty := .int) (by decide) (gc_59 Y _ _) (gp_59_26 Y _ _ _) rfl kU_X12 tyX12_ok nmX12 (by decide) kF_X12_284 rfl rfl rfl rfl (Nat.le_of_ble_eq_true rfl) dX12_adds_54 (q := 57) rfl ?_
    refine g_mem hM4 ?_
    obtain rfl := Option.some.inj h
    exact g_vret C E dX12_adds_57
theorem r_X12_adds {x1 : Int32} {x2 : Int32} {M : g_M} {p : g_M} (h : f_X12_adds x1 x2 M = some p) : g_fr [71, 72] [(59, 26)] M p := by
  unfold f_X12_adds at h
  have hf := g_fr.rfl (S := [71, 72]) (T := [(59, 26)]) (M := M)
  refine hf.trans (r_X12_adds_2 ?_ ?_ 20000000 x1 x2 0 M h)
  · intro M h
    try dsimp only at h
    have hf := g_fr.rfl (S := [71, 72]) (T := [(59, 26)]) (M := M)
    obtain rfl := Option.some.inj h
    exact hf
  · intro x1 x2 M h
    try dsimp only at h
    have hf := g_fr.rfl (S := [71, 72]) (T := [(59, 26)]) (M := M)
    obtain ⟨M2, hM2, h⟩ := g_bind h
    have hf := hf.st hM2 (by decide)
    obtain ⟨M3, hM3, h⟩ := g_bind h
    have hf := hf.st hM3 (by decide)
    obtain ⟨M4, hM4, h⟩ := g_bind h
    have hf := hf.pu hM4 (by decide)
    obtain rfl := Option.some.inj h
    exact hf
