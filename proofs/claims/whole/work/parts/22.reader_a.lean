def f_X9_isLetter (x0 : Int32) (M : g_M) : Option (Int32) :=
  (if x0 < 97 then (some 0) else ((if 122 < x0 then (some 0) else (some 1))))
set_option maxRecDepth 100000 in
theorem m_X9_isLetter {l : Launch} {Y : g_Y} {x0 : Int32} {M : g_M} {p : Int32} (h : f_X9_isLetter x0 M = some p) : g_R l Y (0) yX9_isLetter cX9_isLetter 1 (some .boolean) [.int x0] M (some (.int p)) M := by
  unfold f_X9_isLetter at h
  refine g_R_of kP_X9 rfl (Nat.le_of_ble_eq_true rfl) (fun X C E => ?_)
  show g_G 1 X Y 0 [(0, .int x0)] [] M
  refine g_iload_n C 0 dX9_isLetter_0 (q := 1) rfl rfl rfl ?_
  refine g_bipush C (v := 97) dX9_isLetter_1 (q := 3) rfl (by decide) ?_
  have hif := g_if h
  clear h
  refine g_icmp_lt C dX9_isLetter_3 (q := 6) (tgt := 16) rfl (by decide) (fun c => ?_) (fun c => ?_)
  · have h := hif.1 c
    clear hif
    refine g_iconst C (v := 0) dX9_isLetter_16 (q := 17) rfl (by decide) ?_
    obtain rfl := Option.some.inj h
    exact g_zret C (g_bz_lit (by decide)) E dX9_isLetter_17
  · have h := hif.2 c
    clear hif
    refine g_iload_n C 0 dX9_isLetter_6 (q := 7) rfl rfl rfl ?_
    refine g_bipush C (v := 122) dX9_isLetter_7 (q := 9) rfl (by decide) ?_
    have hif := g_if h
    clear h
    refine g_icmp_gt C dX9_isLetter_9 (q := 12) (tgt := 16) rfl (by decide) (fun c => ?_) (fun c => ?_)
    · have h := hif.1 c
      clear hif
      refine g_iconst C (v := 0) dX9_isLetter_16 (q := 17) rfl (by decide) ?_
      obtain rfl := Option.some.inj h
      exact g_zret C (g_bz_lit (by decide)) E dX9_isLetter_17
    · have h := hif.2 c
      clear hif
      refine g_iconst C (v := 1) dX9_isLetter_12 (q := 13) rfl (by decide) ?_
      refine g_goto C dX9_isLetter_13 (tgt := 17) (by decide) ?_
      obtain rfl := Option.some.inj h
      exact g_zret C (g_bz_lit (by decide)) E dX9_isLetter_17
def f_X9_isDigit (x0 : Int32) (M : g_M) : Option (Int32) :=
  (if x0 < 48 then (some 0) else ((if 57 < x0 then (some 0) else (some 1))))
set_option maxRecDepth 100000 in
theorem m_X9_isDigit {l : Launch} {Y : g_Y} {x0 : Int32} {M : g_M} {p : Int32} (h : f_X9_isDigit x0 M = some p) : g_R l Y (0) yX9_isDigit cX9_isDigit 1 (some .boolean) [.int x0] M (some (.int p)) M := by
  unfold f_X9_isDigit at h
  refine g_R_of kP_X9 rfl (Nat.le_of_ble_eq_true rfl) (fun X C E => ?_)
  show g_G 1 X Y 0 [(0, .int x0)] [] M
  refine g_iload_n C 0 dX9_isDigit_0 (q := 1) rfl rfl rfl ?_
  refine g_bipush C (v := 48) dX9_isDigit_1 (q := 3) rfl (by decide) ?_
  have hif := g_if h
  clear h
  refine g_icmp_lt C dX9_isDigit_3 (q := 6) (tgt := 16) rfl (by decide) (fun c => ?_) (fun c => ?_)
  · have h := hif.1 c
    clear hif
    refine g_iconst C (v := 0) dX9_isDigit_16 (q := 17) rfl (by decide) ?_
    obtain rfl := Option.some.inj h
    exact g_zret C (g_bz_lit (by decide)) E dX9_isDigit_17
  · have h := hif.2 c
    clear hif
    refine g_iload_n C 0 dX9_isDigit_6 (q := 7) rfl rfl rfl ?_
    refine g_bipush C (v := 57) dX9_isDigit_7 (q := 9) rfl (by decide) ?_
    have hif := g_if h
    clear h
    refine g_icmp_gt C dX9_isDigit_9 (q := 12) (tgt := 16) rfl (by decide) (fun c => ?_) (fun c => ?_)
    · have h := hif.1 c
      clear hif
      refine g_iconst C (v := 0) dX9_isDigit_16 (q := 17) rfl (by decide) ?_
      obtain rfl := Option.some.inj h
      exact g_zret C (g_bz_lit (by decide)) E dX9_isDigit_17
    · have h := hif.2 c
      clear hif
      refine g_iconst C (v := 1) dX9_isDigit_12 (q := 13) rfl (by decide) ?_
      refine g_goto C dX9_isDigit_13 (tgt := 17) (by decide) ?_
      obtain rfl := Option.some.inj h
      exact g_zret C (g_bz_lit (by decide)) E dX9_isDigit_17
def f_X9_signToken (x0 : Int32) (M : g_M) : Option (Int32) :=
  (if x0 = 40 then (some 3) else (if x0 = 41 then (some 4) else (if x0 = 91 then (some 5) else (if x0 = 93 then (some 6) else some 1))))
set_option maxRecDepth 100000 in
theorem m_X9_signToken {l : Launch} {Y : g_Y} {x0 : Int32} {M : g_M} {p : Int32} (h : f_X9_signToken x0 M = some p) : g_R l Y (0) yX9_signToken cX9_signToken 1 (some .int) [.int x0] M (some (.int p)) M := by
  unfold f_X9_signToken at h
  refine g_R_of kP_X9 rfl (Nat.le_of_ble_eq_true rfl) (fun X C E => ?_)
  show g_G 1 X Y 0 [(0, .int x0)] [] M
  refine g_iload_n C 0 dX9_signToken_0 (q := 1) rfl rfl rfl ?_
  by_cases e : x0 = 40
  · rw [if_pos e] at h
    refine g_look C (off := 43) (tgt := 44) dX9_signToken_1 (by decide) (by rw [e]; decide) (by decide) ?_
    refine g_iconst C (v := 3) dX9_signToken_44 (q := 45) rfl (by decide) ?_
    obtain rfl := Option.some.inj h
    exact g_iret C E dX9_signToken_45
  rw [if_neg e] at h
  have n40 := g_toI (n := 40) (v := 40) (by decide) e
  by_cases e : x0 = 41
  · rw [if_pos e] at h
    refine g_look C (off := 45) (tgt := 46) dX9_signToken_1 (by decide) (by rw [e]; decide) (by decide) ?_
    refine g_iconst C (v := 4) dX9_signToken_46 (q := 47) rfl (by decide) ?_
    obtain rfl := Option.some.inj h
    exact g_iret C E dX9_signToken_47
  rw [if_neg e] at h
  have n41 := g_toI (n := 41) (v := 41) (by decide) e
  by_cases e : x0 = 91
  · rw [if_pos e] at h
    refine g_look C (off := 47) (tgt := 48) dX9_signToken_1 (by decide) (by rw [e]; decide) (by decide) ?_
    refine g_iconst C (v := 5) dX9_signToken_48 (q := 49) rfl (by decide) ?_
    obtain rfl := Option.some.inj h
    exact g_iret C E dX9_signToken_49
  rw [if_neg e] at h
  have n91 := g_toI (n := 91) (v := 91) (by decide) e
  by_cases e : x0 = 93
  · rw [if_pos e] at h
    refine g_look C (off := 49) (tgt := 50) dX9_signToken_1 (by decide) (by rw [e]; decide) (by decide) ?_
    refine g_bipush C (v := 6) dX9_signToken_50 (q := 52) rfl (by decide) ?_
    obtain rfl := Option.some.inj h
    exact g_iret C E dX9_signToken_52
  rw [if_neg e] at h
  have n93 := g_toI (n := 93) (v := 93) (by decide) e
  have hdef : g_G 1 X Y 53 [(0, .int x0)] [] M := by
    refine g_iconst C (v := 1) dX9_signToken_53 (q := 54) rfl (by decide) ?_
    obtain rfl := Option.some.inj h
    exact g_iret C E dX9_signToken_54
  refine g_look C (off := 52) (tgt := 53) dX9_signToken_1 (by decide) (by simp [Op.lookupswitch.offset, Ne.symm n40, Ne.symm n41, Ne.symm n91, Ne.symm n93]) (by decide) hdef
def F_X9_numberToken_0 (k77 : g_M → Option (Int32 × g_M)) (k : g_M → Option (Int32 × g_M)) (M : g_M) : Option (Int32 × g_M) :=
  (if (M.1 33 1) ≤ (M.1 32 5) then (k77 M) else ((g_ld M 34 120 (M.1 32 5)).bind fun v1 => (f_X9_isDigit v1 M).bind fun p2 => (if p2 = 0 then (k77 M) else ((g_ld M 34 120 (M.1 32 5)).bind fun v3 => (some (g_u M 32 6 (if 100 < ((((M.1 32 6) * 10) + v3) - 48) then 100 else ((((M.1 32 6) * 10) + v3) - 48)))).bind fun M4 => (some (g_u M4 32 5 ((M4.1 32 5) + 1))).bind fun M5 => k M5))))
set_option maxRecDepth 100000 in
theorem t_X9_numberToken_0 {l : Launch} {X : g_X} {Y : g_Y} {p : Int32 × g_M} {k77 : g_M → Option (Int32 × g_M)} (C : g_C l (g_rm (1)) RX9 cX9_numberToken 1 X Y) (E : g_E (some .int) X Y (some (.int p.1)) p.2) (hk77 : ∀ (M : g_M), k77 M = some p → g_G 1 X Y 77 [(0, g_r Y 32)] [] M) (n : Nat) : ∀ (M : g_M), g_lp0 (F_X9_numberToken_0 k77) n M = some p → g_G 1 X Y 0 [(0, g_r Y 32)] [] M := by
  induction n with
  | zero => intro M h; exact (g_nn h).elim
  | succ n ih =>
    intro M h
    have h : F_X9_numberToken_0 k77 (g_lp0 (F_X9_numberToken_0 k77) n) M = some p := h
    generalize g_lp0 (F_X9_numberToken_0 k77) n = k at h ih
    unfold F_X9_numberToken_0 at h
    refine g_aload_n C 0 dX9_numberToken_0 (q := 1) rfl rfl rfl ?_
    refine g_get C (k := 32) (i := 5) (by decide) (gc_32 Y _ _) rfl kU_X9 (by decide) kF_X9_26 rfl dX9_numberToken_1 (q := 4) rfl ?_
    refine g_aload_n C 0 dX9_numberToken_4 (q := 5) rfl rfl rfl ?_
    refine g_get C (k := 32) (i := 0) (by decide) (gc_32 Y _ _) rfl kU_X9 (by decide) kF_X9_12 rfl dX9_numberToken_5 (q := 8) rfl ?_
    refine g_get C (k := 33) (i := 1) (by decide) (gc_33 Y _ _) rfl kU_X8 (by decide) kF_X9_74 rfl dX9_numberToken_8 (q := 11) rfl ?_
    have hif := g_if h
    clear h
    refine g_icmp_ge C dX9_numberToken_11 (q := 14) (tgt := 77) rfl (by decide) (fun c => ?_) (fun c => ?_)
    · have h := hif.1 c
      clear hif
      refine g_sub [0] (lv' := [(0, g_r Y 32)]) rfl ?_
      exact hk77 M h
    · have h := hif.2 c
      clear hif
      refine g_aload_n C 0 dX9_numberToken_14 (q := 15) rfl rfl rfl ?_
      refine g_get C (k := 32) (i := 0) (by decide) (gc_32 Y _ _) rfl kU_X9 (by decide) kF_X9_12 rfl dX9_numberToken_15 (q := 18) rfl ?_
      refine g_get C (k := 33) (i := 0) (by decide) (gc_33 Y _ _) rfl kU_X8 (by decide) kF_X9_75 rfl dX9_numberToken_18 (q := 21) rfl ?_
      refine g_aload_n C 0 dX9_numberToken_21 (q := 22) rfl rfl rfl ?_
      refine g_get C (k := 32) (i := 5) (by decide) (gc_32 Y _ _) rfl kU_X9 (by decide) kF_X9_26 rfl dX9_numberToken_22 (q := 25) rfl ?_
      obtain ⟨v1, hv1, h⟩ := g_bind h
      refine g_iald C (k := 34) (n := 120) (by decide) (gc_34 Y _ _) hv1 dX9_numberToken_25 (q := 26) rfl ?_
      obtain ⟨p2, hp2, h⟩ := g_bind h
      refine g_callS C (as := [.int v1]) (st := []) (m_X9_isDigit hp2) (g_hR (by decide)) (by decide) kM_X9_85 kT_X9_isDigit kN_X9 kC_X9_isDigit kD_X9_isDigit rfl (Nat.le_of_ble_eq_true rfl) dX9_numberToken_26 (q := 29) rfl ?_
      show g_G 1 X Y 29 [(0, g_r Y 32)] [.int p2] M
      have hif := g_if h
      clear h
      refine g_if_eq C dX9_numberToken_29 (q := 32) (tgt := 77) rfl (by decide) (fun c => ?_) (fun c => ?_)
      · have h := hif.1 c
        clear hif
        refine g_sub [0] (lv' := [(0, g_r Y 32)]) rfl ?_
        exact hk77 M h
      · have h := hif.2 c
        clear hif
        refine g_aload_n C 0 dX9_numberToken_32 (q := 33) rfl rfl rfl ?_
        refine g_aload_n C 0 dX9_numberToken_33 (q := 34) rfl rfl rfl ?_
        refine g_get C (k := 32) (i := 6) (by decide) (gc_32 Y _ _) rfl kU_X9 (by decide) kF_X9_60 rfl dX9_numberToken_34 (q := 37) rfl ?_
        refine g_bipush C (v := 10) dX9_numberToken_37 (q := 39) rfl (by decide) ?_
        refine g_imul C dX9_numberToken_39 (q := 40) rfl ?_
        refine g_aload_n C 0 dX9_numberToken_40 (q := 41) rfl rfl rfl ?_
        refine g_get C (k := 32) (i := 0) (by decide) (gc_32 Y _ _) rfl kU_X9 (by decide) kF_X9_12 rfl dX9_numberToken_41 (q := 44) rfl ?_
        refine g_get C (k := 33) (i := 0) (by decide) (gc_33 Y _ _) rfl kU_X8 (by decide) kF_X9_75 rfl dX9_numberToken_44 (q := 47) rfl ?_
        refine g_aload_n C 0 dX9_numberToken_47 (q := 48) rfl rfl rfl ?_
        refine g_get C (k := 32) (i := 5) (by decide) (gc_32 Y _ _) rfl kU_X9 (by decide) kF_X9_26 rfl dX9_numberToken_48 (q := 51) rfl ?_
        obtain ⟨v3, hv3, h⟩ := g_bind h
        refine g_iald C (k := 34) (n := 120) (by decide) (gc_34 Y _ _) hv3 dX9_numberToken_51 (q := 52) rfl ?_
        refine g_iadd C dX9_numberToken_52 (q := 53) rfl ?_
        refine g_bipush C (v := 48) dX9_numberToken_53 (q := 55) rfl (by decide) ?_
        refine g_isub C dX9_numberToken_55 (q := 56) rfl ?_
        refine g_bipush C (v := 100) dX9_numberToken_56 (q := 58) rfl (by decide) ?_
        refine g_mmin C (st := [g_r Y 32]) kM_X9_95 (by decide) (by decide) (Nat.le_of_ble_eq_true rfl) dX9_numberToken_58 (q := 61) rfl ?_
        obtain ⟨M4, hM4, h⟩ := g_bind h
        refine g_put C (k := 32) (i := 6) (ty := .int) (by decide) (gc_32 Y _ _) (gp_32_6 Y _ _ _) rfl kU_X9 tyX9_ok nmX9 (by decide) kF_X9_60 rfl rfl rfl rfl (Nat.le_of_ble_eq_true rfl) dX9_numberToken_61 (q := 64) rfl ?_
        refine g_mem hM4 ?_
        refine g_aload_n C 0 dX9_numberToken_64 (q := 65) rfl rfl rfl ?_
        refine g_dup C dX9_numberToken_65 (q := 66) rfl rfl ?_
        refine g_get C (k := 32) (i := 5) (by decide) (gc_32 Y _ _) rfl kU_X9 (by decide) kF_X9_26 rfl dX9_numberToken_66 (q := 69) rfl ?_
        refine g_iconst C (v := 1) dX9_numberToken_69 (q := 70) rfl (by decide) ?_
        refine g_iadd C dX9_numberToken_70 (q := 71) rfl ?_
        obtain ⟨M5, hM5, h⟩ := g_bind h
        refine g_put C (k := 32) (i := 5) (ty := .int) (by decide) (gc_32 Y _ _) (gp_32_5 Y _ _ _) rfl kU_X9 tyX9_ok nmX9 (by decide) kF_X9_26 rfl rfl rfl rfl (Nat.le_of_ble_eq_true rfl) dX9_numberToken_71 (q := 74) rfl ?_
        refine g_mem hM5 ?_
        refine g_goto C dX9_numberToken_74 (tgt := 0) (by decide) ?_
        refine g_sub [0] (lv' := [(0, g_r Y 32)]) rfl ?_
        exact ih M5 h
theorem r_X9_numberToken_0 {p : Int32 × g_M} {k77 : g_M → Option (Int32 × g_M)} (hk77 : ∀ (M : g_M), k77 M = some p → g_fr [] [(32, 5), (32, 6)] M p.2) (n : Nat) : ∀ (M : g_M), g_lp0 (F_X9_numberToken_0 k77) n M = some p → g_fr [] [(32, 5), (32, 6)] M p.2 := by
  induction n with
  | zero => intro M h; exact (g_nn h).elim
  | succ n ih =>
    intro M h
    have h : F_X9_numberToken_0 k77 (g_lp0 (F_X9_numberToken_0 k77) n) M = some p := h
    generalize g_lp0 (F_X9_numberToken_0 k77) n = k at h ih
    unfold F_X9_numberToken_0 at h
    have hf := g_fr.rfl (S := []) (T := [(32, 5), (32, 6)]) (M := M)
    rcases g_ifs h with h | h
    · exact hf.trans (hk77 M h)
    · obtain ⟨v1, -, h⟩ := g_bind h
      obtain ⟨p2, -, h⟩ := g_bind h
      rcases g_ifs h with h | h
      · exact hf.trans (hk77 M h)
      · obtain ⟨v3, -, h⟩ := g_bind h
        obtain ⟨M4, hM4, h⟩ := g_bind h
        have hf := hf.pu hM4 (by decide)
        obtain ⟨M5, hM5, h⟩ := g_bind h
        have hf := hf.pu hM5 (by decide)
        exact hf.trans (ih M5 h)
def f_X9_numberToken_77 (M : g_M) : Option (Int32 × g_M) :=
  (if (M.1 32 6) ≤ 99 then (some (2, M)) else (some (1, M)))
set_option maxRecDepth 100000 in
theorem t_X9_numberToken_77 {l : Launch} {X : g_X} {Y : g_Y} {p : Int32 × g_M} (C : g_C l (g_rm (1)) RX9 cX9_numberToken 1 X Y) (E : g_E (some .int) X Y (some (.int p.1)) p.2) (M : g_M) (h : f_X9_numberToken_77 M = some p) : g_G 1 X Y 77 [(0, g_r Y 32)] [] M := by
  unfold f_X9_numberToken_77 at h
  refine g_aload_n C 0 dX9_numberToken_77 (q := 78) rfl rfl rfl ?_
  refine g_get C (k := 32) (i := 6) (by decide) (gc_32 Y _ _) rfl kU_X9 (by decide) kF_X9_60 rfl dX9_numberToken_78 (q := 81) rfl ?_
  refine g_bipush C (v := 99) dX9_numberToken_81 (q := 83) rfl (by decide) ?_
  have hif := g_if h
  clear h
  refine g_icmp_le C dX9_numberToken_83 (q := 86) (tgt := 90) rfl (by decide) (fun c => ?_) (fun c => ?_)
  · have h := hif.1 c
    clear hif
    refine g_iconst C (v := 2) dX9_numberToken_90 (q := 91) rfl (by decide) ?_
    obtain rfl := Option.some.inj h
    exact g_iret C E dX9_numberToken_91
  · have h := hif.2 c
    clear hif
    refine g_iconst C (v := 1) dX9_numberToken_86 (q := 87) rfl (by decide) ?_
    refine g_goto C dX9_numberToken_87 (tgt := 91) (by decide) ?_
    obtain rfl := Option.some.inj h
    exact g_iret C E dX9_numberToken_91
theorem r_X9_numberToken_77 {p : Int32 × g_M} (M : g_M) (h : f_X9_numberToken_77 M = some p) : g_fr [] [(32, 5), (32, 6)] M p.2 := by
  unfold f_X9_numberToken_77 at h
  have hf := g_fr.rfl (S := []) (T := [(32, 5), (32, 6)]) (M := M)
  rcases g_ifs h with h | h
  · obtain rfl := Option.some.inj h
    exact hf
  · obtain rfl := Option.some.inj h
    exact hf
def f_X9_numberToken (M : g_M) : Option (Int32 × g_M) :=
  g_lp0 (F_X9_numberToken_0 (fun (M : g_M) => f_X9_numberToken_77 M)) 20000000 M
set_option maxRecDepth 100000 in
theorem m_X9_numberToken {l : Launch} {Y : g_Y} {M : g_M} {p : Int32 × g_M} (h : f_X9_numberToken M = some p) : g_R l Y (1) yX9_numberToken cX9_numberToken 1 (some .int) [g_r Y 32] M (some (.int p.1)) p.2 := by
  unfold f_X9_numberToken at h
  refine g_R_of kP_X9 rfl (Nat.le_of_ble_eq_true rfl) (fun X C E => ?_)
  show g_G 1 X Y 0 [(0, g_r Y 32)] [] M
  refine g_sub [0] (lv' := [(0, g_r Y 32)]) rfl ?_
  refine t_X9_numberToken_0 C E ?_ 20000000 M h
  · intro M h
    try dsimp only at h
    refine g_sub [0] (lv' := [(0, g_r Y 32)]) rfl ?_
    exact t_X9_numberToken_77 C E M h
theorem r_X9_numberToken {M : g_M} {p : Int32 × g_M} (h : f_X9_numberToken M = some p) : g_fr [] [(32, 5), (32, 6)] M p.2 := by
  unfold f_X9_numberToken at h
  have hf := g_fr.rfl (S := []) (T := [(32, 5), (32, 6)]) (M := M)
  refine hf.trans (r_X9_numberToken_0 ?_ 20000000 M h)
  · intro M h
    try dsimp only at h
    have hf := g_fr.rfl (S := []) (T := [(32, 5), (32, 6)]) (M := M)
    exact hf.trans (r_X9_numberToken_77 M h)
def F_X9_spells_32_20 (M : g_M) (j : Nat) (k50 : Option (Int32)) (k58 : Option (Int32)) (k : Int32 → Option (Int32)) (x2 : Int32) : Option (Int32) :=
  (f_J0_length_8abf5 j M).bind fun p2 => (if p2 ≤ x2 then (k58) else ((g_ld M 34 120 ((M.1 32 4) + x2)).bind fun v3 => (f_J0_charAt_5068e j x2 M).bind fun p4 => (if v3 = p4 then (k (x2 + 1)) else (k50))))
set_option maxRecDepth 100000 in
theorem t_X9_spells_32_20 {l : Launch} {X : g_X} {Y : g_Y} {p : Int32} {M : g_M} {k50 : Option (Int32)} {k58 : Option (Int32)} (j : Nat) (C : g_C l (g_rm (5)) RX9 cX9_spells 3 X Y) (E : g_E (some .boolean) X Y (some (.int p)) M) (hj : j < 11) (hk50 : k50 = some p → g_G 3 X Y 50 [] [] M) (hk58 : k58 = some p → g_G 3 X Y 58 [] [] M) (n : Nat) : ∀ (x2 : Int32), g_lq1 (F_X9_spells_32_20 M j k50 k58) n x2 = some p → g_G 3 X Y 20 [(0, g_r Y 32), (1, .ref (Y.2.2.2.1 j)), (2, .int x2)] [] M := by
  induction n with
  | zero => intro x2 h; exact (g_nn h).elim
  | succ n ih =>
    intro x2 h
    have h : F_X9_spells_32_20 M j k50 k58 (g_lq1 (F_X9_spells_32_20 M j k50 k58) n) x2 = some p := h
    generalize g_lq1 (F_X9_spells_32_20 M j k50 k58) n = k at h ih
    unfold F_X9_spells_32_20 at h
    refine g_iload_n C 2 dX9_spells_20 (q := 21) rfl rfl rfl ?_
    refine g_aload_n C 1 dX9_spells_21 (q := 22) rfl rfl rfl ?_
    obtain ⟨p2, hp2, h⟩ := g_bind h
    refine g_callT C (j := j) (as := []) (st := [.int x2]) (m_J0_length_8abf5 (by omega) hp2) (g_hR (by decide)) (by decide) (by omega) kM_X9_127 kI_J0_length_8abf5 kS_J0_length_8abf5 kN_J0 kC_J0_length_8abf5 kD_J0_length_8abf5 rfl (Nat.le_of_ble_eq_true rfl) dX9_spells_22 (q := 25) rfl ?_
    show g_G 3 X Y 25 [(0, g_r Y 32), (1, .ref (Y.2.2.2.1 j)), (2, .int x2)] [.int p2, .int x2] M
    have hif := g_if h
    clear h
    refine g_icmp_ge C dX9_spells_25 (q := 28) (tgt := 58) rfl (by decide) (fun c => ?_) (fun c => ?_)
    · have h := hif.1 c
      clear hif
      refine g_sub [] (lv' := []) rfl ?_
      exact hk58 h
    · have h := hif.2 c
      clear hif
      refine g_aload_n C 0 dX9_spells_28 (q := 29) rfl rfl rfl ?_
      refine g_get C (k := 32) (i := 0) (by decide) (gc_32 Y _ _) rfl kU_X9 (by decide) kF_X9_12 rfl dX9_spells_29 (q := 32) rfl ?_
      refine g_get C (k := 33) (i := 0) (by decide) (gc_33 Y _ _) rfl kU_X8 (by decide) kF_X9_75 rfl dX9_spells_32 (q := 35) rfl ?_
      refine g_aload_n C 0 dX9_spells_35 (q := 36) rfl rfl rfl ?_
      refine g_get C (k := 32) (i := 4) (by decide) (gc_32 Y _ _) rfl kU_X9 (by decide) kF_X9_48 rfl dX9_spells_36 (q := 39) rfl ?_
      refine g_iload_n C 2 dX9_spells_39 (q := 40) rfl rfl rfl ?_
      refine g_iadd C dX9_spells_40 (q := 41) rfl ?_
      obtain ⟨v3, hv3, h⟩ := g_bind h
      refine g_iald C (k := 34) (n := 120) (by decide) (gc_34 Y _ _) hv3 dX9_spells_41 (q := 42) rfl ?_
      refine g_aload_n C 1 dX9_spells_42 (q := 43) rfl rfl rfl ?_
      refine g_iload_n C 2 dX9_spells_43 (q := 44) rfl rfl rfl ?_
      obtain ⟨p4, hp4, h⟩ := g_bind h
      refine g_callT C (j := j) (as := [.int x2]) (st := [.int v3]) (m_J0_charAt_5068e (by omega) hp4) (g_hR (by decide)) (by decide) (by omega) kM_X9_131 kI_J0_charAt_5068e kS_J0_charAt_5068e kN_J0 kC_J0_charAt_5068e kD_J0_charAt_5068e rfl (Nat.le_of_ble_eq_true rfl) dX9_spells_44 (q := 47) rfl ?_
      show g_G 3 X Y 47 [(0, g_r Y 32), (1, .ref (Y.2.2.2.1 j)), (2, .int x2)] [.int p4, .int v3] M
      have hif := g_if h
      clear h
      refine g_icmp_eq C dX9_spells_47 (q := 50) (tgt := 52) rfl (by decide) (fun c => ?_) (fun c => ?_)
      · have h := hif.1 c
        clear hif
        refine g_iinc C (k := 2) (v := x2 + 1) dX9_spells_52 (q := 55) rfl rfl rfl (by decide) (lv' := [(2, .int (x2 + 1)), (0, g_r Y 32), (1, .ref (Y.2.2.2.1 j))]) rfl ?_
        refine g_goto C dX9_spells_55 (tgt := 20) (by decide) ?_
        refine g_sub [1, 2, 0] (lv' := [(0, g_r Y 32), (1, .ref (Y.2.2.2.1 j)), (2, .int (x2 + 1))]) rfl ?_
        exact ih (x2 + 1) h
      · have h := hif.2 c
        clear hif
        refine g_sub [] (lv' := []) rfl ?_
        exact hk50 h
def f_X9_spells_32 (j : Nat) (M : g_M) : Option (Int32) :=
  (f_J0_length_8abf5 j M).bind fun p1 => (if ((M.1 32 5) - (M.1 32 4)) = p1 then (g_lq1 (F_X9_spells_32_20 M j (some 0) (some 1)) 20000000 0) else (some 0))
set_option maxRecDepth 100000 in
theorem m_X9_spells_32 {l : Launch} {Y : g_Y} (j : Nat) (hj : j < 11) {M : g_M} {p : Int32} (h : f_X9_spells_32 j M = some p) : g_R l Y (5) yX9_spells cX9_spells 3 (some .boolean) [g_r Y 32, .ref (Y.2.2.2.1 j)] M (some (.int p)) M := by
  unfold f_X9_spells_32 at h
  refine g_R_of kP_X9 rfl (Nat.le_of_ble_eq_true rfl) (fun X C E => ?_)
  show g_G 3 X Y 0 [(0, g_r Y 32), (1, .ref (Y.2.2.2.1 j))] [] M
  refine g_aload_n C 0 dX9_spells_0 (q := 1) rfl rfl rfl ?_
  refine g_get C (k := 32) (i := 5) (by decide) (gc_32 Y _ _) rfl kU_X9 (by decide) kF_X9_26 rfl dX9_spells_1 (q := 4) rfl ?_
  refine g_aload_n C 0 dX9_spells_4 (q := 5) rfl rfl rfl ?_
  refine g_get C (k := 32) (i := 4) (by decide) (gc_32 Y _ _) rfl kU_X9 (by decide) kF_X9_48 rfl dX9_spells_5 (q := 8) rfl ?_
  refine g_isub C dX9_spells_8 (q := 9) rfl ?_
  refine g_aload_n C 1 dX9_spells_9 (q := 10) rfl rfl rfl ?_
  obtain ⟨p1, hp1, h⟩ := g_bind h
  refine g_callT C (j := j) (as := []) (st := [.int ((M.1 32 5) - (M.1 32 4))]) (m_J0_length_8abf5 (by omega) hp1) (g_hR (by decide)) (by decide) (by omega) kM_X9_127 kI_J0_length_8abf5 kS_J0_length_8abf5 kN_J0 kC_J0_length_8abf5 kD_J0_length_8abf5 rfl (Nat.le_of_ble_eq_true rfl) dX9_spells_10 (q := 13) rfl ?_
  show g_G 3 X Y 13 [(0, g_r Y 32), (1, .ref (Y.2.2.2.1 j))] [.int p1, .int ((M.1 32 5) - (M.1 32 4))] M
  have hif := g_if h
  clear h
  refine g_icmp_eq C dX9_spells_13 (q := 16) (tgt := 18) rfl (by decide) (fun c => ?_) (fun c => ?_)
  · have h := hif.1 c
    clear hif
    refine g_iconst C (v := 0) dX9_spells_18 (q := 19) rfl (by decide) ?_
    refine g_istore_n C dX9_spells_19 (q := 20) rfl rfl (by decide) (lv' := [(2, .int 0), (0, g_r Y 32), (1, .ref (Y.2.2.2.1 j))]) rfl ?_
    refine g_sub [1, 2, 0] (lv' := [(0, g_r Y 32), (1, .ref (Y.2.2.2.1 j)), (2, .int 0)]) rfl ?_
    refine t_X9_spells_32_20 j C E hj ?_ ?_ 20000000 0 h
    · intro  h
      try dsimp only at h
      refine g_iconst C (v := 0) dX9_spells_50 (q := 51) rfl (by decide) ?_
      obtain rfl := Option.some.inj h
      exact g_zret C (g_bz_lit (by decide)) E dX9_spells_51
    · intro  h
      try dsimp only at h
      refine g_iconst C (v := 1) dX9_spells_58 (q := 59) rfl (by decide) ?_
      obtain rfl := Option.some.inj h
      exact g_zret C (g_bz_lit (by decide)) E dX9_spells_59
  · have h := hif.2 c
    clear hif
    refine g_iconst C (v := 0) dX9_spells_16 (q := 17) rfl (by decide) ?_
    obtain rfl := Option.some.inj h
    exact g_zret C (g_bz_lit (by decide)) E dX9_spells_17
def F_X9_wordToken_0 (k45 : g_M → Option (Int32 × g_M)) (k : g_M → Option (Int32 × g_M)) (M : g_M) : Option (Int32 × g_M) :=
  (if (M.1 33 1) ≤ (M.1 32 5) then (k45 M) else ((g_ld M 34 120 (M.1 32 5)).bind fun v1 => (f_X9_isLetter v1 M).bind fun p2 => (if p2 = 0 then (k45 M) else ((some (g_u M 32 5 ((M.1 32 5) + 1))).bind fun M3 => k M3))))
set_option maxRecDepth 100000 in
theorem t_X9_wordToken_0 {l : Launch} {X : g_X} {Y : g_Y} {p : Int32 × g_M} {k45 : g_M → Option (Int32 × g_M)} (C : g_C l (g_rm (6)) RX9 cX9_wordToken 1 X Y) (E : g_E (some .int) X Y (some (.int p.1)) p.2) (hk45 : ∀ (M : g_M), k45 M = some p → g_G 1 X Y 45 [(0, g_r Y 32)] [] M) (n : Nat) : ∀ (M : g_M), g_lp0 (F_X9_wordToken_0 k45) n M = some p → g_G 1 X Y 0 [(0, g_r Y 32)] [] M := by
  induction n with
  | zero => intro M h; exact (g_nn h).elim
  | succ n ih =>
    intro M h
    have h : F_X9_wordToken_0 k45 (g_lp0 (F_X9_wordToken_0 k45) n) M = some p := h
    generalize g_lp0 (F_X9_wordToken_0 k45) n = k at h ih
    unfold F_X9_wordToken_0 at h
    refine g_aload_n C 0 dX9_wordToken_0 (q := 1) rfl rfl rfl ?_
    refine g_get C (k := 32) (i := 5) (by decide) (gc_32 Y _ _) rfl kU_X9 (by decide) kF_X9_26 rfl dX9_wordToken_1 (q := 4) rfl ?_
    refine g_aload_n C 0 dX9_wordToken_4 (q := 5) rfl rfl rfl ?_
    refine g_get C (k := 32) (i := 0) (by decide) (gc_32 Y _ _) rfl kU_X9 (by decide) kF_X9_12 rfl dX9_wordToken_5 (q := 8) rfl ?_
    refine g_get C (k := 33) (i := 1) (by decide) (gc_33 Y _ _) rfl kU_X8 (by decide) kF_X9_74 rfl dX9_wordToken_8 (q := 11) rfl ?_
    have hif := g_if h
    clear h
    refine g_icmp_ge C dX9_wordToken_11 (q := 14) (tgt := 45) rfl (by decide) (fun c => ?_) (fun c => ?_)
    · have h := hif.1 c
      clear hif
      refine g_sub [0] (lv' := [(0, g_r Y 32)]) rfl ?_
      exact hk45 M h
    · have h := hif.2 c
      clear hif
      refine g_aload_n C 0 dX9_wordToken_14 (q := 15) rfl rfl rfl ?_
      refine g_get C (k := 32) (i := 0) (by decide) (gc_32 Y _ _) rfl kU_X9 (by decide) kF_X9_12 rfl dX9_wordToken_15 (q := 18) rfl ?_
      refine g_get C (k := 33) (i := 0) (by decide) (gc_33 Y _ _) rfl kU_X8 (by decide) kF_X9_75 rfl dX9_wordToken_18 (q := 21) rfl ?_
      refine g_aload_n C 0 dX9_wordToken_21 (q := 22) rfl rfl rfl ?_
      refine g_get C (k := 32) (i := 5) (by decide) (gc_32 Y _ _) rfl kU_X9 (by decide) kF_X9_26 rfl dX9_wordToken_22 (q := 25) rfl ?_
      obtain ⟨v1, hv1, h⟩ := g_bind h
      refine g_iald C (k := 34) (n := 120) (by decide) (gc_34 Y _ _) hv1 dX9_wordToken_25 (q := 26) rfl ?_
      obtain ⟨p2, hp2, h⟩ := g_bind h
      refine g_callS C (as := [.int v1]) (st := []) (m_X9_isLetter hp2) (g_hR (by decide)) (by decide) kM_X9_78 kT_X9_isLetter kN_X9 kC_X9_isLetter kD_X9_isLetter rfl (Nat.le_of_ble_eq_true rfl) dX9_wordToken_26 (q := 29) rfl ?_
      show g_G 1 X Y 29 [(0, g_r Y 32)] [.int p2] M
      have hif := g_if h
      clear h
      refine g_if_eq C dX9_wordToken_29 (q := 32) (tgt := 45) rfl (by decide) (fun c => ?_) (fun c => ?_)
      · have h := hif.1 c
        clear hif
        refine g_sub [0] (lv' := [(0, g_r Y 32)]) rfl ?_
        exact hk45 M h
      · have h := hif.2 c
        clear hif
        refine g_aload_n C 0 dX9_wordToken_32 (q := 33) rfl rfl rfl ?_
        refine g_dup C dX9_wordToken_33 (q := 34) rfl rfl ?_
        refine g_get C (k := 32) (i := 5) (by decide) (gc_32 Y _ _) rfl kU_X9 (by decide) kF_X9_26 rfl dX9_wordToken_34 (q := 37) rfl ?_
        refine g_iconst C (v := 1) dX9_wordToken_37 (q := 38) rfl (by decide) ?_
        refine g_iadd C dX9_wordToken_38 (q := 39) rfl ?_
        obtain ⟨M3, hM3, h⟩ := g_bind h
        refine g_put C (k := 32) (i := 5) (ty := .int) (by decide) (gc_32 Y _ _) (gp_32_5 Y _ _ _) rfl kU_X9 tyX9_ok nmX9 (by decide) kF_X9_26 rfl rfl rfl rfl (Nat.le_of_ble_eq_true rfl) dX9_wordToken_39 (q := 42) rfl ?_
        refine g_mem hM3 ?_
        refine g_goto C dX9_wordToken_42 (tgt := 0) (by decide) ?_
        refine g_sub [0] (lv' := [(0, g_r Y 32)]) rfl ?_
        exact ih M3 h
theorem r_X9_wordToken_0 {p : Int32 × g_M} {k45 : g_M → Option (Int32 × g_M)} (hk45 : ∀ (M : g_M), k45 M = some p → g_fr [] [(32, 5)] M p.2) (n : Nat) : ∀ (M : g_M), g_lp0 (F_X9_wordToken_0 k45) n M = some p → g_fr [] [(32, 5)] M p.2 := by
  induction n with
  | zero => intro M h; exact (g_nn h).elim
  | succ n ih =>
    intro M h
    have h : F_X9_wordToken_0 k45 (g_lp0 (F_X9_wordToken_0 k45) n) M = some p := h
    generalize g_lp0 (F_X9_wordToken_0 k45) n = k at h ih
    unfold F_X9_wordToken_0 at h
    have hf := g_fr.rfl (S := []) (T := [(32, 5)]) (M := M)
    rcases g_ifs h with h | h
    · exact hf.trans (hk45 M h)
    · obtain ⟨v1, -, h⟩ := g_bind h
      obtain ⟨p2, -, h⟩ := g_bind h
      rcases g_ifs h with h | h
      · exact hf.trans (hk45 M h)
      · obtain ⟨M3, hM3, h⟩ := g_bind h
        have hf := hf.pu hM3 (by decide)
        exact hf.trans (ih M3 h)
def f_X9_wordToken_45 (M : g_M) : Option (Int32 × g_M) :=
  (f_X9_spells_32 0 M).bind fun p4 => (if p4 = 0 then ((f_X9_spells_32 1 M).bind fun p5 => (if p5 = 0 then ((f_X9_spells_32 2 M).bind fun p6 => (if p6 = 0 then ((f_X9_spells_32 3 M).bind fun p7 => (if p7 = 0 then ((f_X9_spells_32 4 M).bind fun p8 => (if p8 = 0 then ((f_X9_spells_32 5 M).bind fun p9 => (if p9 = 0 then ((f_X9_spells_32 6 M).bind fun p10 => (if p10 = 0 then ((f_X9_spells_32 7 M).bind fun p11 => (if p11 = 0 then ((f_X9_spells_32 8 M).bind fun p12 => (if p12 = 0 then ((f_X9_spells_32 9 M).bind fun p13 => (if p13 = 0 then ((f_X9_spells_32 10 M).bind fun p14 => (if p14 = 0 then (some (1, M)) else (some (17, M)))) else (some (16, M)))) else (some (15, M)))) else (some (14, M)))) else (some (13, M)))) else (some (12, M)))) else (some (11, M)))) else (some (10, M)))) else (some (9, M)))) else (some (8, M)))) else (some (7, M)))
set_option maxRecDepth 100000 in
theorem t_X9_wordToken_45 {l : Launch} {X : g_X} {Y : g_Y} {p : Int32 × g_M} (C : g_C l (g_rm (6)) RX9 cX9_wordToken 1 X Y) (E : g_E (some .int) X Y (some (.int p.1)) p.2) (M : g_M) (h : f_X9_wordToken_45 M = some p) : g_G 1 X Y 45 [(0, g_r Y 32)] [] M := by
  unfold f_X9_wordToken_45 at h
  refine g_aload_n C 0 dX9_wordToken_45 (q := 46) rfl rfl rfl ?_
  refine g_ldcS C (tx := "may") (j := 0) (by decide +kernel) dX9_wordToken_46 (q := 48) rfl ?_
  obtain ⟨p4, hp4, h⟩ := g_bind h
  refine g_callV C (k := 32) (as := [.ref (Y.2.2.2.1 0)]) (st := []) (m_X9_spells_32 0 (by decide) hp4) (g_hR (by decide)) (by decide) (by decide) (gc_32 Y _ _) rfl kM_X9_103 kI_X9_spells kS_X9_spells kN_X9 kC_X9_spells kD_X9_spells rfl (Nat.le_of_ble_eq_true rfl) dX9_wordToken_48 (q := 51) rfl ?_
  show g_G 1 X Y 51 [(0, g_r Y 32)] [.int p4] M
  have hif := g_if h
  clear h
  refine g_if_eq C dX9_wordToken_51 (q := 54) (tgt := 57) rfl (by decide) (fun c => ?_) (fun c => ?_)
  · have h := hif.1 c
    clear hif
    refine g_aload_n C 0 dX9_wordToken_57 (q := 58) rfl rfl rfl ?_
    refine g_ldcS C (tx := "never") (j := 1) (by decide +kernel) dX9_wordToken_58 (q := 60) rfl ?_
    obtain ⟨p5, hp5, h⟩ := g_bind h
    refine g_callV C (k := 32) (as := [.ref (Y.2.2.2.1 1)]) (st := []) (m_X9_spells_32 1 (by decide) hp5) (g_hR (by decide)) (by decide) (by decide) (gc_32 Y _ _) rfl kM_X9_103 kI_X9_spells kS_X9_spells kN_X9 kC_X9_spells kD_X9_spells rfl (Nat.le_of_ble_eq_true rfl) dX9_wordToken_60 (q := 63) rfl ?_
    show g_G 1 X Y 63 [(0, g_r Y 32)] [.int p5] M
    have hif := g_if h
    clear h
    refine g_if_eq C dX9_wordToken_63 (q := 66) (tgt := 69) rfl (by decide) (fun c => ?_) (fun c => ?_)
    · have h := hif.1 c
      clear hif
      refine g_aload_n C 0 dX9_wordToken_69 (q := 70) rfl rfl rfl ?_
      refine g_ldcS C (tx := "or") (j := 2) (by decide +kernel) dX9_wordToken_70 (q := 72) rfl ?_
      obtain ⟨p6, hp6, h⟩ := g_bind h
      refine g_callV C (k := 32) (as := [.ref (Y.2.2.2.1 2)]) (st := []) (m_X9_spells_32 2 (by decide) hp6) (g_hR (by decide)) (by decide) (by decide) (gc_32 Y _ _) rfl kM_X9_103 kI_X9_spells kS_X9_spells kN_X9 kC_X9_spells kD_X9_spells rfl (Nat.le_of_ble_eq_true rfl) dX9_wordToken_72 (q := 75) rfl ?_
      show g_G 1 X Y 75 [(0, g_r Y 32)] [.int p6] M
      have hif := g_if h
      clear h
      refine g_if_eq C dX9_wordToken_75 (q := 78) (tgt := 81) rfl (by decide) (fun c => ?_) (fun c => ?_)
      · have h := hif.1 c
        clear hif
        refine g_aload_n C 0 dX9_wordToken_81 (q := 82) rfl rfl rfl ?_
        refine g_ldcS C (tx := "and") (j := 3) (by decide +kernel) dX9_wordToken_82 (q := 84) rfl ?_
        obtain ⟨p7, hp7, h⟩ := g_bind h
        refine g_callV C (k := 32) (as := [.ref (Y.2.2.2.1 3)]) (st := []) (m_X9_spells_32 3 (by decide) hp7) (g_hR (by decide)) (by decide) (by decide) (gc_32 Y _ _) rfl kM_X9_103 kI_X9_spells kS_X9_spells kN_X9 kC_X9_spells kD_X9_spells rfl (Nat.le_of_ble_eq_true rfl) dX9_wordToken_84 (q := 87) rfl ?_
        show g_G 1 X Y 87 [(0, g_r Y 32)] [.int p7] M
        have hif := g_if h
        clear h
        refine g_if_eq C dX9_wordToken_87 (q := 90) (tgt := 93) rfl (by decide) (fun c => ?_) (fun c => ?_)
        · have h := hif.1 c
          clear hif
          refine g_aload_n C 0 dX9_wordToken_93 (q := 94) rfl rfl rfl ?_
          refine g_ldcS C (tx := "not") (j := 4) (by decide +kernel) dX9_wordToken_94 (q := 96) rfl ?_
          obtain ⟨p8, hp8, h⟩ := g_bind h
          refine g_callV C (k := 32) (as := [.ref (Y.2.2.2.1 4)]) (st := []) (m_X9_spells_32 4 (by decide) hp8) (g_hR (by decide)) (by decide) (by decide) (gc_32 Y _ _) rfl kM_X9_103 kI_X9_spells kS_X9_spells kN_X9 kC_X9_spells kD_X9_spells rfl (Nat.le_of_ble_eq_true rfl) dX9_wordToken_96 (q := 99) rfl ?_
          show g_G 1 X Y 99 [(0, g_r Y 32)] [.int p8] M
          have hif := g_if h
          clear h
          refine g_if_eq C dX9_wordToken_99 (q := 102) (tgt := 105) rfl (by decide) (fun c => ?_) (fun c => ?_)
          · have h := hif.1 c
            clear hif
            refine g_aload_n C 0 dX9_wordToken_105 (q := 106) rfl rfl rfl ?_
            refine g_ldcS C (tx := "least") (j := 5) (by decide +kernel) dX9_wordToken_106 (q := 108) rfl ?_
            obtain ⟨p9, hp9, h⟩ := g_bind h
            refine g_callV C (k := 32) (as := [.ref (Y.2.2.2.1 5)]) (st := []) (m_X9_spells_32 5 (by decide) hp9) (g_hR (by decide)) (by decide) (by decide) (gc_32 Y _ _) rfl kM_X9_103 kI_X9_spells kS_X9_spells kN_X9 kC_X9_spells kD_X9_spells rfl (Nat.le_of_ble_eq_true rfl) dX9_wordToken_108 (q := 111) rfl ?_
            show g_G 1 X Y 111 [(0, g_r Y 32)] [.int p9] M
            have hif := g_if h
            clear h
            refine g_if_eq C dX9_wordToken_111 (q := 114) (tgt := 117) rfl (by decide) (fun c => ?_) (fun c => ?_)
            · have h := hif.1 c
              clear hif
              refine g_aload_n C 0 dX9_wordToken_117 (q := 118) rfl rfl rfl ?_
              refine g_ldcS C (tx := "of") (j := 6) (by decide +kernel) dX9_wordToken_118 (q := 120) rfl ?_
              obtain ⟨p10, hp10, h⟩ := g_bind h
              refine g_callV C (k := 32) (as := [.ref (Y.2.2.2.1 6)]) (st := []) (m_X9_spells_32 6 (by decide) hp10) (g_hR (by decide)) (by decide) (by decide) (gc_32 Y _ _) rfl kM_X9_103 kI_X9_spells kS_X9_spells kN_X9 kC_X9_spells kD_X9_spells rfl (Nat.le_of_ble_eq_true rfl) dX9_wordToken_120 (q := 123) rfl ?_
              show g_G 1 X Y 123 [(0, g_r Y 32)] [.int p10] M
              have hif := g_if h
              clear h
              refine g_if_eq C dX9_wordToken_123 (q := 126) (tgt := 129) rfl (by decide) (fun c => ?_) (fun c => ?_)
              · have h := hif.1 c
                clear hif
                refine g_aload_n C 0 dX9_wordToken_129 (q := 130) rfl rfl rfl ?_
                refine g_ldcS C (tx := "all") (j := 7) (by decide +kernel) dX9_wordToken_130 (q := 132) rfl ?_
                obtain ⟨p11, hp11, h⟩ := g_bind h
                refine g_callV C (k := 32) (as := [.ref (Y.2.2.2.1 7)]) (st := []) (m_X9_spells_32 7 (by decide) hp11) (g_hR (by decide)) (by decide) (by decide) (gc_32 Y _ _) rfl kM_X9_103 kI_X9_spells kS_X9_spells kN_X9 kC_X9_spells kD_X9_spells rfl (Nat.le_of_ble_eq_true rfl) dX9_wordToken_132 (q := 135) rfl ?_
                show g_G 1 X Y 135 [(0, g_r Y 32)] [.int p11] M
                have hif := g_if h
                clear h
                refine g_if_eq C dX9_wordToken_135 (q := 138) (tgt := 141) rfl (by decide) (fun c => ?_) (fun c => ?_)
                · have h := hif.1 c
                  clear hif
                  refine g_aload_n C 0 dX9_wordToken_141 (q := 142) rfl rfl rfl ?_
                  refine g_ldcS C (tx := "any") (j := 8) (by decide +kernel) dX9_wordToken_142 (q := 144) rfl ?_
                  obtain ⟨p12, hp12, h⟩ := g_bind h
                  refine g_callV C (k := 32) (as := [.ref (Y.2.2.2.1 8)]) (st := []) (m_X9_spells_32 8 (by decide) hp12) (g_hR (by decide)) (by decide) (by decide) (gc_32 Y _ _) rfl kM_X9_103 kI_X9_spells kS_X9_spells kN_X9 kC_X9_spells kD_X9_spells rfl (Nat.le_of_ble_eq_true rfl) dX9_wordToken_144 (q := 147) rfl ?_
                  show g_G 1 X Y 147 [(0, g_r Y 32)] [.int p12] M
                  have hif := g_if h
                  clear h
                  refine g_if_eq C dX9_wordToken_147 (q := 150) (tgt := 153) rfl (by decide) (fun c => ?_) (fun c => ?_)
                  · have h := hif.1 c
                    clear hif
                    refine g_aload_n C 0 dX9_wordToken_153 (q := 154) rfl rfl rfl ?_
                    refine g_ldcS C (tx := "weigh") (j := 9) (by decide +kernel) dX9_wordToken_154 (q := 156) rfl ?_
                    obtain ⟨p13, hp13, h⟩ := g_bind h
                    refine g_callV C (k := 32) (as := [.ref (Y.2.2.2.1 9)]) (st := []) (m_X9_spells_32 9 (by decide) hp13) (g_hR (by decide)) (by decide) (by decide) (gc_32 Y _ _) rfl kM_X9_103 kI_X9_spells kS_X9_spells kN_X9 kC_X9_spells kD_X9_spells rfl (Nat.le_of_ble_eq_true rfl) dX9_wordToken_156 (q := 159) rfl ?_
                    show g_G 1 X Y 159 [(0, g_r Y 32)] [.int p13] M
                    have hif := g_if h
                    clear h
                    refine g_if_eq C dX9_wordToken_159 (q := 162) (tgt := 165) rfl (by decide) (fun c => ?_) (fun c => ?_)
                    · have h := hif.1 c
                      clear hif
                      refine g_aload_n C 0 dX9_wordToken_165 (q := 166) rfl rfl rfl ?_
                      refine g_ldcS C (tx := "everyone") (j := 10) (by decide +kernel) dX9_wordToken_166 (q := 168) rfl ?_
                      obtain ⟨p14, hp14, h⟩ := g_bind h
                      refine g_callV C (k := 32) (as := [.ref (Y.2.2.2.1 10)]) (st := []) (m_X9_spells_32 10 (by decide) hp14) (g_hR (by decide)) (by decide) (by decide) (gc_32 Y _ _) rfl kM_X9_103 kI_X9_spells kS_X9_spells kN_X9 kC_X9_spells kD_X9_spells rfl (Nat.le_of_ble_eq_true rfl) dX9_wordToken_168 (q := 171) rfl ?_
                      show g_G 1 X Y 171 [(0, g_r Y 32)] [.int p14] M
                      have hif := g_if h
                      clear h
                      refine g_if_eq C dX9_wordToken_171 (q := 174) (tgt := 179) rfl (by decide) (fun c => ?_) (fun c => ?_)
                      · have h := hif.1 c
                        clear hif
                        refine g_iconst C (v := 1) dX9_wordToken_179 (q := 180) rfl (by decide) ?_
                        obtain rfl := Option.some.inj h
                        exact g_iret C E dX9_wordToken_180
                      · have h := hif.2 c
                        clear hif
                        refine g_bipush C (v := 17) dX9_wordToken_174 (q := 176) rfl (by decide) ?_
                        refine g_goto C dX9_wordToken_176 (tgt := 180) (by decide) ?_
                        obtain rfl := Option.some.inj h
                        exact g_iret C E dX9_wordToken_180
                    · have h := hif.2 c
                      clear hif
                      refine g_bipush C (v := 16) dX9_wordToken_162 (q := 164) rfl (by decide) ?_
                      obtain rfl := Option.some.inj h
                      exact g_iret C E dX9_wordToken_164
                  · have h := hif.2 c
                    clear hif
                    refine g_bipush C (v := 15) dX9_wordToken_150 (q := 152) rfl (by decide) ?_
                    obtain rfl := Option.some.inj h
                    exact g_iret C E dX9_wordToken_152
                · have h := hif.2 c
                  clear hif
                  refine g_bipush C (v := 14) dX9_wordToken_138 (q := 140) rfl (by decide) ?_
                  obtain rfl := Option.some.inj h
                  exact g_iret C E dX9_wordToken_140
              · have h := hif.2 c
                clear hif
                refine g_bipush C (v := 13) dX9_wordToken_126 (q := 128) rfl (by decide) ?_
                obtain rfl := Option.some.inj h
                exact g_iret C E dX9_wordToken_128
            · have h := hif.2 c
              clear hif
              refine g_bipush C (v := 12) dX9_wordToken_114 (q := 116) rfl (by decide) ?_
              obtain rfl := Option.some.inj h
              exact g_iret C E dX9_wordToken_116
          · have h := hif.2 c
            clear hif
            refine g_bipush C (v := 11) dX9_wordToken_102 (q := 104) rfl (by decide) ?_
            obtain rfl := Option.some.inj h
            exact g_iret C E dX9_wordToken_104
        · have h := hif.2 c
          clear hif
          refine g_bipush C (v := 10) dX9_wordToken_90 (q := 92) rfl (by decide) ?_
          obtain rfl := Option.some.inj h
          exact g_iret C E dX9_wordToken_92
      · have h := hif.2 c
        clear hif
        refine g_bipush C (v := 9) dX9_wordToken_78 (q := 80) rfl (by decide) ?_
        obtain rfl := Option.some.inj h
        exact g_iret C E dX9_wordToken_80
    · have h := hif.2 c
      clear hif
      refine g_bipush C (v := 8) dX9_wordToken_66 (q := 68) rfl (by decide) ?_
      obtain rfl := Option.some.inj h
      exact g_iret C E dX9_wordToken_68
  · have h := hif.2 c
    clear hif
    refine g_bipush C (v := 7) dX9_wordToken_54 (q := 56) rfl (by decide) ?_
    obtain rfl := Option.some.inj h
    exact g_iret C E dX9_wordToken_56
theorem r_X9_wordToken_45 {p : Int32 × g_M} (M : g_M) (h : f_X9_wordToken_45 M = some p) : g_fr [] [(32, 5)] M p.2 := by
  unfold f_X9_wordToken_45 at h
  have hf := g_fr.rfl (S := []) (T := [(32, 5)]) (M := M)
  obtain ⟨p4, -, h⟩ := g_bind h
  rcases g_ifs h with h | h
  · obtain ⟨p5, -, h⟩ := g_bind h
    rcases g_ifs h with h | h
    · obtain ⟨p6, -, h⟩ := g_bind h
      rcases g_ifs h with h | h
      · obtain ⟨p7, -, h⟩ := g_bind h
        rcases g_ifs h with h | h
        · obtain ⟨p8, -, h⟩ := g_bind h
          rcases g_ifs h with h | h
          · obtain ⟨p9, -, h⟩ := g_bind h
            rcases g_ifs h with h | h
            · obtain ⟨p10, -, h⟩ := g_bind h
              rcases g_ifs h with h | h
              · obtain ⟨p11, -, h⟩ := g_bind h
                rcases g_ifs h with h | h
                · obtain ⟨p12, -, h⟩ := g_bind h
                  rcases g_ifs h with h | h
                  · obtain ⟨p13, -, h⟩ := g_bind h
                    rcases g_ifs h with h | h
                    · obtain ⟨p14, -, h⟩ := g_bind h
                      rcases g_ifs h with h | h
                      · obtain rfl := Option.some.inj h
                        exact hf
                      · obtain rfl := Option.some.inj h
                        exact hf
                    · obtain rfl := Option.some.inj h
                      exact hf
                  · obtain rfl := Option.some.inj h
                    exact hf
                · obtain rfl := Option.some.inj h
                  exact hf
              · obtain rfl := Option.some.inj h
                exact hf
            · obtain rfl := Option.some.inj h
              exact hf
          · obtain rfl := Option.some.inj h
            exact hf
        · obtain rfl := Option.some.inj h
          exact hf
      · obtain rfl := Option.some.inj h
        exact hf
    · obtain rfl := Option.some.inj h
      exact hf
  · obtain rfl := Option.some.inj h
    exact hf
def f_X9_wordToken (M : g_M) : Option (Int32 × g_M) :=
  g_lp0 (F_X9_wordToken_0 (fun (M : g_M) => f_X9_wordToken_45 M)) 20000000 M
set_option maxRecDepth 100000 in
theorem m_X9_wordToken {l : Launch} {Y : g_Y} {M : g_M} {p : Int32 × g_M} (h : f_X9_wordToken M = some p) : g_R l Y (6) yX9_wordToken cX9_wordToken 1 (some .int) [g_r Y 32] M (some (.int p.1)) p.2 := by
  unfold f_X9_wordToken at h
  refine g_R_of kP_X9 rfl (Nat.le_of_ble_eq_true rfl) (fun X C E => ?_)
  show g_G 1 X Y 0 [(0, g_r Y 32)] [] M
  refine g_sub [0] (lv' := [(0, g_r Y 32)]) rfl ?_
  refine t_X9_wordToken_0 C E ?_ 20000000 M h
  · intro M h
    try dsimp only at h
    refine g_sub [0] (lv' := [(0, g_r Y 32)]) rfl ?_
    exact t_X9_wordToken_45 C E M h
theorem r_X9_wordToken {M : g_M} {p : Int32 × g_M} (h : f_X9_wordToken M = some p) : g_fr [] [(32, 5)] M p.2 := by
  unfold f_X9_wordToken at h
  have hf := g_fr.rfl (S := []) (T := [(32, 5)]) (M := M)
  refine hf.trans (r_X9_wordToken_0 ?_ 20000000 M h)
  · intro M h
    try dsimp only at h
    have hf := g_fr.rfl (S := []) (T := [(32, 5)]) (M := M)
    exact hf.trans (r_X9_wordToken_45 M h)
def F_X9_advance_8 (k52 : g_M → Option (g_M)) (k : g_M → Option (g_M)) (M : g_M) : Option (g_M) :=
  (if (M.1 33 1) ≤ (M.1 32 4) then (k52 M) else ((g_ld M 34 120 (M.1 32 4)).bind fun v2 => (if v2 = 32 then ((some (g_u M 32 4 ((M.1 32 4) + 1))).bind fun M3 => k M3) else (k52 M))))
set_option maxRecDepth 100000 in
theorem t_X9_advance_8 {l : Launch} {X : g_X} {Y : g_Y} {p : g_M} {k52 : g_M → Option (g_M)} (C : g_C l (g_rm (7)) RX9 cX9_advance 1 X Y) (E : g_E none X Y none p) (hk52 : ∀ (M : g_M), k52 M = some p → g_G 1 X Y 52 [(0, g_r Y 32)] [] M) (n : Nat) : ∀ (M : g_M), g_lp0 (F_X9_advance_8 k52) n M = some p → g_G 1 X Y 8 [(0, g_r Y 32)] [] M := by
  induction n with
  | zero => intro M h; exact (g_nn h).elim
  | succ n ih =>
    intro M h
    have h : F_X9_advance_8 k52 (g_lp0 (F_X9_advance_8 k52) n) M = some p := h
    generalize g_lp0 (F_X9_advance_8 k52) n = k at h ih
    unfold F_X9_advance_8 at h
    refine g_aload_n C 0 dX9_advance_8 (q := 9) rfl rfl rfl ?_
    refine g_get C (k := 32) (i := 4) (by decide) (gc_32 Y _ _) rfl kU_X9 (by decide) kF_X9_48 rfl dX9_advance_9 (q := 12) rfl ?_
    refine g_aload_n C 0 dX9_advance_12 (q := 13) rfl rfl rfl ?_
    refine g_get C (k := 32) (i := 0) (by decide) (gc_32 Y _ _) rfl kU_X9 (by decide) kF_X9_12 rfl dX9_advance_13 (q := 16) rfl ?_
    refine g_get C (k := 33) (i := 1) (by decide) (gc_33 Y _ _) rfl kU_X8 (by decide) kF_X9_74 rfl dX9_advance_16 (q := 19) rfl ?_
    have hif := g_if h
    clear h
    refine g_icmp_ge C dX9_advance_19 (q := 22) (tgt := 52) rfl (by decide) (fun c => ?_) (fun c => ?_)
    · have h := hif.1 c
      clear hif
      refine g_sub [0] (lv' := [(0, g_r Y 32)]) rfl ?_
      exact hk52 M h
    · have h := hif.2 c
      clear hif
      refine g_aload_n C 0 dX9_advance_22 (q := 23) rfl rfl rfl ?_
      refine g_get C (k := 32) (i := 0) (by decide) (gc_32 Y _ _) rfl kU_X9 (by decide) kF_X9_12 rfl dX9_advance_23 (q := 26) rfl ?_
      refine g_get C (k := 33) (i := 0) (by decide) (gc_33 Y _ _) rfl kU_X8 (by decide) kF_X9_75 rfl dX9_advance_26 (q := 29) rfl ?_
      refine g_aload_n C 0 dX9_advance_29 (q := 30) rfl rfl rfl ?_
      refine g_get C (k := 32) (i := 4) (by decide) (gc_32 Y _ _) rfl kU_X9 (by decide) kF_X9_48 rfl dX9_advance_30 (q := 33) rfl ?_
      obtain ⟨v2, hv2, h⟩ := g_bind h
      refine g_iald C (k := 34) (n := 120) (by decide) (gc_34 Y _ _) hv2 dX9_advance_33 (q := 34) rfl ?_
      refine g_bipush C (v := 32) dX9_advance_34 (q := 36) rfl (by decide) ?_
      have hif := g_if h
      clear h
      refine g_icmp_ne C dX9_advance_36 (q := 39) (tgt := 52) rfl (by decide) (fun c => ?_) (fun c => ?_)
      · have h := hif.2 c
        clear hif
        refine g_sub [0] (lv' := [(0, g_r Y 32)]) rfl ?_
        exact hk52 M h
      · have h := hif.1 c
        clear hif
        refine g_aload_n C 0 dX9_advance_39 (q := 40) rfl rfl rfl ?_
        refine g_dup C dX9_advance_40 (q := 41) rfl rfl ?_
        refine g_get C (k := 32) (i := 4) (by decide) (gc_32 Y _ _) rfl kU_X9 (by decide) kF_X9_48 rfl dX9_advance_41 (q := 44) rfl ?_
        refine g_iconst C (v := 1) dX9_advance_44 (q := 45) rfl (by decide) ?_
        refine g_iadd C dX9_advance_45 (q := 46) rfl ?_
        obtain ⟨M3, hM3, h⟩ := g_bind h
        refine g_put C (k := 32) (i := 4) (ty := .int) (by decide) (gc_32 Y _ _) (gp_32_4 Y _ _ _) rfl kU_X9 tyX9_ok nmX9 (by decide) kF_X9_48 rfl rfl rfl rfl (Nat.le_of_ble_eq_true rfl) dX9_advance_46 (q := 49) rfl ?_
        refine g_mem hM3 ?_
        refine g_goto C dX9_advance_49 (tgt := 8) (by decide) ?_
        refine g_sub [0] (lv' := [(0, g_r Y 32)]) rfl ?_
        exact ih M3 h
theorem r_X9_advance_8 {p : g_M} {k52 : g_M → Option (g_M)} (hk52 : ∀ (M : g_M), k52 M = some p → g_fr [] [(32, 3), (32, 4), (32, 5), (32, 6)] M p) (n : Nat) : ∀ (M : g_M), g_lp0 (F_X9_advance_8 k52) n M = some p → g_fr [] [(32, 3), (32, 4), (32, 5), (32, 6)] M p := by
  induction n with
  | zero => intro M h; exact (g_nn h).elim
  | succ n ih =>
    intro M h
    have h : F_X9_advance_8 k52 (g_lp0 (F_X9_advance_8 k52) n) M = some p := h
    generalize g_lp0 (F_X9_advance_8 k52) n = k at h ih
    unfold F_X9_advance_8 at h
    have hf := g_fr.rfl (S := []) (T := [(32, 3), (32, 4), (32, 5), (32, 6)]) (M := M)
    rcases g_ifs h with h | h
    · exact hf.trans (hk52 M h)
    · obtain ⟨v2, -, h⟩ := g_bind h
      rcases g_ifs h with h | h
      · obtain ⟨M3, hM3, h⟩ := g_bind h
        have hf := hf.pu hM3 (by decide)
        exact hf.trans (ih M3 h)
      · exact hf.trans (hk52 M h)
def f_X9_advance_52 (M : g_M) : Option (g_M) :=
  (some (g_u M 32 5 (M.1 32 4))).bind fun M4 => (some (g_u M4 32 6 0)).bind fun M5 => (if (M5.1 32 4) < (M5.1 33 1) then ((g_ld M5 34 120 (M5.1 32 4)).bind fun v6 => (f_X9_isLetter v6 M5).bind fun p7 => (if p7 = 0 then ((g_ld M5 34 120 (M5.1 32 4)).bind fun v8 => (f_X9_isDigit v8 M5).bind fun p9 => (if p9 = 0 then ((some (g_u M5 32 5 ((M5.1 32 5) + 1))).bind fun M10 => (g_ld M10 34 120 (M10.1 32 4)).bind fun v11 => (f_X9_signToken v11 M10).bind fun p12 => (some (g_u M10 32 3 p12)).bind fun M13 => some M13) else ((f_X9_numberToken M5).bind fun p14 => (some (g_u p14.2 32 3 p14.1)).bind fun M15 => some M15))) else ((f_X9_wordToken M5).bind fun p16 => (some (g_u p16.2 32 3 p16.1)).bind fun M17 => some M17))) else ((some (g_u M5 32 3 0)).bind fun M18 => some M18))
set_option maxRecDepth 100000 in
theorem t_X9_advance_52 {l : Launch} {X : g_X} {Y : g_Y} {p : g_M} (C : g_C l (g_rm (7)) RX9 cX9_advance 1 X Y) (E : g_E none X Y none p) (M : g_M) (h : f_X9_advance_52 M = some p) : g_G 1 X Y 52 [(0, g_r Y 32)] [] M := by
  unfold f_X9_advance_52 at h
  refine g_aload_n C 0 dX9_advance_52 (q := 53) rfl rfl rfl ?_
  refine g_aload_n C 0 dX9_advance_53 (q := 54) rfl rfl rfl ?_
  refine g_get C (k := 32) (i := 4) (by decide) (gc_32 Y _ _) rfl kU_X9 (by decide) kF_X9_48 rfl dX9_advance_54 (q := 57) rfl ?_
  obtain ⟨M4, hM4, h⟩ := g_bind h
  refine g_put C (k := 32) (i := 5) (ty := .int) (by decide) (gc_32 Y _ _) (gp_32_5 Y _ _ _) rfl kU_X9 tyX9_ok nmX9 (by decide) kF_X9_26 rfl rfl rfl rfl (Nat.le_of_ble_eq_true rfl) dX9_advance_57 (q := 60) rfl ?_
  refine g_mem hM4 ?_
  refine g_aload_n C 0 dX9_advance_60 (q := 61) rfl rfl rfl ?_
  refine g_iconst C (v := 0) dX9_advance_61 (q := 62) rfl (by decide) ?_
  obtain ⟨M5, hM5, h⟩ := g_bind h
  refine g_put C (k := 32) (i := 6) (ty := .int) (by decide) (gc_32 Y _ _) (gp_32_6 Y _ _ _) rfl kU_X9 tyX9_ok nmX9 (by decide) kF_X9_60 rfl rfl rfl rfl (Nat.le_of_ble_eq_true rfl) dX9_advance_62 (q := 65) rfl ?_
  refine g_mem hM5 ?_
  refine g_aload_n C 0 dX9_advance_65 (q := 66) rfl rfl rfl ?_
  refine g_get C (k := 32) (i := 4) (by decide) (gc_32 Y _ _) rfl kU_X9 (by decide) kF_X9_48 rfl dX9_advance_66 (q := 69) rfl ?_
  refine g_aload_n C 0 dX9_advance_69 (q := 70) rfl rfl rfl ?_
  refine g_get C (k := 32) (i := 0) (by decide) (gc_32 Y _ _) rfl kU_X9 (by decide) kF_X9_12 rfl dX9_advance_70 (q := 73) rfl ?_
  refine g_get C (k := 33) (i := 1) (by decide) (gc_33 Y _ _) rfl kU_X8 (by decide) kF_X9_74 rfl dX9_advance_73 (q := 76) rfl ?_
  have hif := g_if h
  clear h
  refine g_icmp_lt C dX9_advance_76 (q := 79) (tgt := 87) rfl (by decide) (fun c => ?_) (fun c => ?_)
  · have h := hif.1 c
    clear hif
    refine g_aload_n C 0 dX9_advance_87 (q := 88) rfl rfl rfl ?_
    refine g_get C (k := 32) (i := 0) (by decide) (gc_32 Y _ _) rfl kU_X9 (by decide) kF_X9_12 rfl dX9_advance_88 (q := 91) rfl ?_
    refine g_get C (k := 33) (i := 0) (by decide) (gc_33 Y _ _) rfl kU_X8 (by decide) kF_X9_75 rfl dX9_advance_91 (q := 94) rfl ?_
    refine g_aload_n C 0 dX9_advance_94 (q := 95) rfl rfl rfl ?_
    refine g_get C (k := 32) (i := 4) (by decide) (gc_32 Y _ _) rfl kU_X9 (by decide) kF_X9_48 rfl dX9_advance_95 (q := 98) rfl ?_
    obtain ⟨v6, hv6, h⟩ := g_bind h
    refine g_iald C (k := 34) (n := 120) (by decide) (gc_34 Y _ _) hv6 dX9_advance_98 (q := 99) rfl ?_
    obtain ⟨p7, hp7, h⟩ := g_bind h
    refine g_callS C (as := [.int v6]) (st := []) (m_X9_isLetter hp7) (g_hR (by decide)) (by decide) kM_X9_78 kT_X9_isLetter kN_X9 kC_X9_isLetter kD_X9_isLetter rfl (Nat.le_of_ble_eq_true rfl) dX9_advance_99 (q := 102) rfl ?_
    show g_G 1 X Y 102 [(0, g_r Y 32)] [.int p7] M5
    have hif := g_if h
    clear h
    refine g_if_eq C dX9_advance_102 (q := 105) (tgt := 116) rfl (by decide) (fun c => ?_) (fun c => ?_)
    · have h := hif.1 c
      clear hif
      refine g_aload_n C 0 dX9_advance_116 (q := 117) rfl rfl rfl ?_
      refine g_get C (k := 32) (i := 0) (by decide) (gc_32 Y _ _) rfl kU_X9 (by decide) kF_X9_12 rfl dX9_advance_117 (q := 120) rfl ?_
      refine g_get C (k := 33) (i := 0) (by decide) (gc_33 Y _ _) rfl kU_X8 (by decide) kF_X9_75 rfl dX9_advance_120 (q := 123) rfl ?_
      refine g_aload_n C 0 dX9_advance_123 (q := 124) rfl rfl rfl ?_
      refine g_get C (k := 32) (i := 4) (by decide) (gc_32 Y _ _) rfl kU_X9 (by decide) kF_X9_48 rfl dX9_advance_124 (q := 127) rfl ?_
      obtain ⟨v8, hv8, h⟩ := g_bind h
      refine g_iald C (k := 34) (n := 120) (by decide) (gc_34 Y _ _) hv8 dX9_advance_127 (q := 128) rfl ?_
      obtain ⟨p9, hp9, h⟩ := g_bind h
      refine g_callS C (as := [.int v8]) (st := []) (m_X9_isDigit hp9) (g_hR (by decide)) (by decide) kM_X9_85 kT_X9_isDigit kN_X9 kC_X9_isDigit kD_X9_isDigit rfl (Nat.le_of_ble_eq_true rfl) dX9_advance_128 (q := 131) rfl ?_
      show g_G 1 X Y 131 [(0, g_r Y 32)] [.int p9] M5
      have hif := g_if h
      clear h
      refine g_if_eq C dX9_advance_131 (q := 134) (tgt := 145) rfl (by decide) (fun c => ?_) (fun c => ?_)
      · have h := hif.1 c
        clear hif
        refine g_aload_n C 0 dX9_advance_145 (q := 146) rfl rfl rfl ?_
        refine g_dup C dX9_advance_146 (q := 147) rfl rfl ?_
        refine g_get C (k := 32) (i := 5) (by decide) (gc_32 Y _ _) rfl kU_X9 (by decide) kF_X9_26 rfl dX9_advance_147 (q := 150) rfl ?_
        refine g_iconst C (v := 1) dX9_advance_150 (q := 151) rfl (by decide) ?_
        refine g_iadd C dX9_advance_151 (q := 152) rfl ?_
        obtain ⟨M10, hM10, h⟩ := g_bind h
        refine g_put C (k := 32) (i := 5) (ty := .int) (by decide) (gc_32 Y _ _) (gp_32_5 Y _ _ _) rfl kU_X9 tyX9_ok nmX9 (by decide) kF_X9_26 rfl rfl rfl rfl (Nat.le_of_ble_eq_true rfl) dX9_advance_152 (q := 155) rfl ?_
        refine g_mem hM10 ?_
        refine g_aload_n C 0 dX9_advance_155 (q := 156) rfl rfl rfl ?_
        refine g_aload_n C 0 dX9_advance_156 (q := 157) rfl rfl rfl ?_
        refine g_get C (k := 32) (i := 0) (by decide) (gc_32 Y _ _) rfl kU_X9 (by decide) kF_X9_12 rfl dX9_advance_157 (q := 160) rfl ?_
        refine g_get C (k := 33) (i := 0) (by decide) (gc_33 Y _ _) rfl kU_X8 (by decide) kF_X9_75 rfl dX9_advance_160 (q := 163) rfl ?_
        refine g_aload_n C 0 dX9_advance_163 (q := 164) rfl rfl rfl ?_
        refine g_get C (k := 32) (i := 4) (by decide) (gc_32 Y _ _) rfl kU_X9 (by decide) kF_X9_48 rfl dX9_advance_164 (q := 167) rfl ?_
        obtain ⟨v11, hv11, h⟩ := g_bind h
        refine g_iald C (k := 34) (n := 120) (by decide) (gc_34 Y _ _) hv11 dX9_advance_167 (q := 168) rfl ?_
        obtain ⟨p12, hp12, h⟩ := g_bind h
        refine g_callS C (as := [.int v11]) (st := [g_r Y 32]) (m_X9_signToken hp12) (g_hR (by decide)) (by decide) kM_X9_91 kT_X9_signToken kN_X9 kC_X9_signToken kD_X9_signToken rfl (Nat.le_of_ble_eq_true rfl) dX9_advance_168 (q := 171) rfl ?_
        show g_G 1 X Y 171 [(0, g_r Y 32)] [.int p12, g_r Y 32] M10
        obtain ⟨M13, hM13, h⟩ := g_bind h
        refine g_put C (k := 32) (i := 3) (ty := .int) (by decide) (gc_32 Y _ _) (gp_32_3 Y _ _ _) rfl kU_X9 tyX9_ok nmX9 (by decide) kF_X9_39 rfl rfl rfl rfl (Nat.le_of_ble_eq_true rfl) dX9_advance_171 (q := 174) rfl ?_
        refine g_mem hM13 ?_
        obtain rfl := Option.some.inj h
        exact g_vret C E dX9_advance_174
      · have h := hif.2 c
        clear hif
        refine g_aload_n C 0 dX9_advance_134 (q := 135) rfl rfl rfl ?_
        refine g_aload_n C 0 dX9_advance_135 (q := 136) rfl rfl rfl ?_
        obtain ⟨p14, hp14, h⟩ := g_bind h
        refine g_callV C (k := 32) (as := []) (st := [g_r Y 32]) (m_X9_numberToken hp14) (g_hR (by decide)) (by decide) (by decide) (gc_32 Y _ _) rfl kM_X9_88 kI_X9_numberToken kS_X9_numberToken kN_X9 kC_X9_numberToken kD_X9_numberToken rfl (Nat.le_of_ble_eq_true rfl) dX9_advance_136 (q := 139) rfl ?_
        show g_G 1 X Y 139 [(0, g_r Y 32)] [.int p14.1, g_r Y 32] p14.2
        obtain ⟨M15, hM15, h⟩ := g_bind h
        refine g_put C (k := 32) (i := 3) (ty := .int) (by decide) (gc_32 Y _ _) (gp_32_3 Y _ _ _) rfl kU_X9 tyX9_ok nmX9 (by decide) kF_X9_39 rfl rfl rfl rfl (Nat.le_of_ble_eq_true rfl) dX9_advance_139 (q := 142) rfl ?_
        refine g_mem hM15 ?_
        refine g_goto C dX9_advance_142 (tgt := 174) (by decide) ?_
        obtain rfl := Option.some.inj h
        exact g_vret C E dX9_advance_174
    · have h := hif.2 c
      clear hif
      refine g_aload_n C 0 dX9_advance_105 (q := 106) rfl rfl rfl ?_
      refine g_aload_n C 0 dX9_advance_106 (q := 107) rfl rfl rfl ?_
      obtain ⟨p16, hp16, h⟩ := g_bind h
      refine g_callV C (k := 32) (as := []) (st := [g_r Y 32]) (m_X9_wordToken hp16) (g_hR (by decide)) (by decide) (by decide) (gc_32 Y _ _) rfl kM_X9_81 kI_X9_wordToken kS_X9_wordToken kN_X9 kC_X9_wordToken kD_X9_wordToken rfl (Nat.le_of_ble_eq_true rfl) dX9_advance_107 (q := 110) rfl ?_
      show g_G 1 X Y 110 [(0, g_r Y 32)] [.int p16.1, g_r Y 32] p16.2
      obtain ⟨M17, hM17, h⟩ := g_bind h
      refine g_put C (k := 32) (i := 3) (ty := .int) (by decide) (gc_32 Y _ _) (gp_32_3 Y _ _ _) rfl kU_X9 tyX9_ok nmX9 (by decide) kF_X9_39 rfl rfl rfl rfl (Nat.le_of_ble_eq_true rfl) dX9_advance_110 (q := 113) rfl ?_
      refine g_mem hM17 ?_
      refine g_goto C dX9_advance_113 (tgt := 174) (by decide) ?_
      obtain rfl := Option.some.inj h
      exact g_vret C E dX9_advance_174
  · have h := hif.2 c
    clear hif
    refine g_aload_n C 0 dX9_advance_79 (q := 80) rfl rfl rfl ?_
    refine g_iconst C (v := 0) dX9_advance_80 (q := 81) rfl (by decide) ?_
    obtain ⟨M18, hM18, h⟩ := g_bind h
    refine g_put C (k := 32) (i := 3) (ty := .int) (by decide) (gc_32 Y _ _) (gp_32_3 Y _ _ _) rfl kU_X9 tyX9_ok nmX9 (by decide) kF_X9_39 rfl rfl rfl rfl (Nat.le_of_ble_eq_true rfl) dX9_advance_81 (q := 84) rfl ?_
    refine g_mem hM18 ?_
    refine g_goto C dX9_advance_84 (tgt := 174) (by decide) ?_
    obtain rfl := Option.some.inj h
    exact g_vret C E dX9_advance_174
theorem r_X9_advance_52 {p : g_M} (M : g_M) (h : f_X9_advance_52 M = some p) : g_fr [] [(32, 3), (32, 4), (32, 5), (32, 6)] M p := by
  unfold f_X9_advance_52 at h
  have hf := g_fr.rfl (S := []) (T := [(32, 3), (32, 4), (32, 5), (32, 6)]) (M := M)
  obtain ⟨M4, hM4, h⟩ := g_bind h
  have hf := hf.pu hM4 (by decide)
  obtain ⟨M5, hM5, h⟩ := g_bind h
  have hf := hf.pu hM5 (by decide)
  rcases g_ifs h with h | h
  · obtain ⟨v6, -, h⟩ := g_bind h
    obtain ⟨p7, -, h⟩ := g_bind h
    rcases g_ifs h with h | h
    · obtain ⟨v8, -, h⟩ := g_bind h
      obtain ⟨p9, -, h⟩ := g_bind h
      rcases g_ifs h with h | h
      · obtain ⟨M10, hM10, h⟩ := g_bind h
        have hf := hf.pu hM10 (by decide)
        obtain ⟨v11, -, h⟩ := g_bind h
        obtain ⟨p12, -, h⟩ := g_bind h
        obtain ⟨M13, hM13, h⟩ := g_bind h
        have hf := hf.pu hM13 (by decide)
        obtain rfl := Option.some.inj h
        exact hf
      · obtain ⟨p14, hp14, h⟩ := g_bind h
        have hf := hf.trans ((r_X9_numberToken hp14).mono (by decide) (by decide))
        obtain ⟨M15, hM15, h⟩ := g_bind h
        have hf := hf.pu hM15 (by decide)
        obtain rfl := Option.some.inj h
        exact hf
    · obtain ⟨p16, hp16, h⟩ := g_bind h
      have hf := hf.trans ((r_X9_wordToken hp16).mono (by decide) (by decide))
      obtain ⟨M17, hM17, h⟩ := g_bind h
      have hf := hf.pu hM17 (by decide)
      obtain rfl := Option.some.inj h
      exact hf
  · obtain ⟨M18, hM18, h⟩ := g_bind h
    have hf := hf.pu hM18 (by decide)
    obtain rfl := Option.some.inj h
    exact hf
def f_X9_advance (M : g_M) : Option (g_M) :=
  (some (g_u M 32 4 (M.1 32 5))).bind fun M1 => g_lp0 (F_X9_advance_8 (fun (M : g_M) => f_X9_advance_52 M)) 20000000 M1
set_option maxRecDepth 100000 in
theorem m_X9_advance {l : Launch} {Y : g_Y} {M : g_M} {p : g_M} (h : f_X9_advance M = some p) : g_R l Y (7) yX9_advance cX9_advance 1 none [g_r Y 32] M none p := by
  unfold f_X9_advance at h
  refine g_R_of kP_X9 rfl (Nat.le_of_ble_eq_true rfl) (fun X C E => ?_)
  show g_G 1 X Y 0 [(0, g_r Y 32)] [] M
  refine g_aload_n C 0 dX9_advance_0 (q := 1) rfl rfl rfl ?_
  refine g_aload_n C 0 dX9_advance_1 (q := 2) rfl rfl rfl ?_
  refine g_get C (k := 32) (i := 5) (by decide) (gc_32 Y _ _) rfl kU_X9 (by decide) kF_X9_26 rfl dX9_advance_2 (q := 5) rfl ?_
  obtain ⟨M1, hM1, h⟩ := g_bind h
  refine g_put C (k := 32) (i := 4) (ty := .int) (by decide) (gc_32 Y _ _) (gp_32_4 Y _ _ _) rfl kU_X9 tyX9_ok nmX9 (by decide) kF_X9_48 rfl rfl rfl rfl (Nat.le_of_ble_eq_true rfl) dX9_advance_5 (q := 8) rfl ?_
  refine g_mem hM1 ?_
  refine g_sub [0] (lv' := [(0, g_r Y 32)]) rfl ?_
  refine t_X9_advance_8 C E ?_ 20000000 M1 h
  · intro M h
    try dsimp only at h
    refine g_sub [0] (lv' := [(0, g_r Y 32)]) rfl ?_
    exact t_X9_advance_52 C E M h
theorem r_X9_advance {M : g_M} {p : g_M} (h : f_X9_advance M = some p) : g_fr [] [(32, 3), (32, 4), (32, 5), (32, 6)] M p := by
  unfold f_X9_advance at h
  have hf := g_fr.rfl (S := []) (T := [(32, 3), (32, 4), (32, 5), (32, 6)]) (M := M)
  obtain ⟨M1, hM1, h⟩ := g_bind h
  have hf := hf.pu hM1 (by decide)
  refine hf.trans (r_X9_advance_8 ?_ 20000000 M1 h)
  · intro M h
    try dsimp only at h
    have hf := g_fr.rfl (S := []) (T := [(32, 3), (32, 4), (32, 5), (32, 6)]) (M := M)
    exact hf.trans (r_X9_advance_52 M h)
def f_X9_pass (x1 : Int32) (M : g_M) : Option (Int32 × g_M) :=
  (if (M.1 32 3) = x1 then ((f_X9_advance M).bind fun p1 => some (1, p1)) else (some (0, M)))
set_option maxRecDepth 100000 in
theorem m_X9_pass {l : Launch} {Y : g_Y} {x1 : Int32} {M : g_M} {p : Int32 × g_M} (h : f_X9_pass x1 M = some p) : g_R l Y (8) yX9_pass cX9_pass 2 (some .boolean) [g_r Y 32, .int x1] M (some (.int p.1)) p.2 := by
  unfold f_X9_pass at h
  refine g_R_of kP_X9 rfl (Nat.le_of_ble_eq_true rfl) (fun X C E => ?_)
  show g_G 2 X Y 0 [(0, g_r Y 32), (1, .int x1)] [] M
  refine g_aload_n C 0 dX9_pass_0 (q := 1) rfl rfl rfl ?_
  refine g_get C (k := 32) (i := 3) (by decide) (gc_32 Y _ _) rfl kU_X9 (by decide) kF_X9_39 rfl dX9_pass_1 (q := 4) rfl ?_
  refine g_iload_n C 1 dX9_pass_4 (q := 5) rfl rfl rfl ?_
  have hif := g_if h
  clear h
  refine g_icmp_eq C dX9_pass_5 (q := 8) (tgt := 10) rfl (by decide) (fun c => ?_) (fun c => ?_)
  · have h := hif.1 c
    clear hif
    refine g_aload_n C 0 dX9_pass_10 (q := 11) rfl rfl rfl ?_
    obtain ⟨p1, hp1, h⟩ := g_bind h
    refine g_callV C (k := 32) (as := []) (st := []) (m_X9_advance hp1) (g_hR (by decide)) (by decide) (by decide) (gc_32 Y _ _) rfl kM_X9_29 kI_X9_advance kS_X9_advance kN_X9 kC_X9_advance kD_X9_advance rfl (Nat.le_of_ble_eq_true rfl) dX9_pass_11 (q := 14) rfl ?_
    show g_G 2 X Y 14 [(0, g_r Y 32), (1, .int x1)] [] p1
    refine g_iconst C (v := 1) dX9_pass_14 (q := 15) rfl (by decide) ?_
    obtain rfl := Option.some.inj h
    exact g_zret C (g_bz_lit (by decide)) E dX9_pass_15
  · have h := hif.2 c
    clear hif
    refine g_iconst C (v := 0) dX9_pass_8 (q := 9) rfl (by decide) ?_
    obtain rfl := Option.some.inj h
    exact g_zret C (g_bz_lit (by decide)) E dX9_pass_9
theorem r_X9_pass {x1 : Int32} {M : g_M} {p : Int32 × g_M} (h : f_X9_pass x1 M = some p) : g_fr [] [(32, 3), (32, 4), (32, 5), (32, 6)] M p.2 := by
  unfold f_X9_pass at h
  have hf := g_fr.rfl (S := []) (T := [(32, 3), (32, 4), (32, 5), (32, 6)]) (M := M)
  rcases g_ifs h with h | h
  · obtain ⟨p1, hp1, h⟩ := g_bind h
    have hf := hf.trans ((r_X9_advance hp1).mono (by decide) (by decide))
    obtain rfl := Option.some.inj h
    exact hf
  · obtain rfl := Option.some.inj h
    exact hf
def F_X9_readPart_35 (k87 : g_M → Option (Int32 × g_M)) (k : Int32 → Int32 → g_M → Option (Int32 × g_M)) (x1 : Int32) (x2 : Int32) (M : g_M) : Option (Int32 × g_M) :=
  (if x1 = 0 then (k87 M) else ((if (M.1 32 3) = 2 then ((if 10 ≤ (M.1 32 6) then (k87 M) else ((if 120 ≤ x2 then (k87 M) else ((some (g_u M 32 7 ((M.1 32 7) ||| ((1 : Int32) <<< ((M.1 32 6) &&& 31))))).bind fun M3 => (f_X9_advance M3).bind fun p4 => k x1 (x2 + 1) p4))))) else (k87 M))))
set_option maxRecDepth 100000 in
theorem t_X9_readPart_35 {l : Launch} {X : g_X} {Y : g_Y} {p : Int32 × g_M} {k87 : g_M → Option (Int32 × g_M)} (C : g_C l (g_rm (9)) RX9 cX9_readPart 3 X Y) (E : g_E (some .boolean) X Y (some (.int p.1)) p.2) (hk87 : ∀ (M : g_M), k87 M = some p → g_G 3 X Y 87 [(0, g_r Y 32)] [] M) (n : Nat) : ∀ (x1 : Int32) (x2 : Int32) (M : g_M), g_lp2 (F_X9_readPart_35 k87) n x1 x2 M = some p → g_G 3 X Y 35 [(0, g_r Y 32), (1, .int x1), (2, .int x2)] [] M := by
  induction n with
  | zero => intro x1 x2 M h; exact (g_nn h).elim
  | succ n ih =>
    intro x1 x2 M h
    have h : F_X9_readPart_35 k87 (g_lp2 (F_X9_readPart_35 k87) n) x1 x2 M = some p := h
    generalize g_lp2 (F_X9_readPart_35 k87) n = k at h ih
    unfold F_X9_readPart_35 at h
    refine g_iload_n C 1 dX9_readPart_35 (q := 36) rfl rfl rfl ?_
    have hif := g_if h
    clear h
    refine g_if_eq C dX9_readPart_36 (q := 39) (tgt := 87) rfl (by decide) (fun c => ?_) (fun c => ?_)
    · have h := hif.1 c
      clear hif
      refine g_sub [0] (lv' := [(0, g_r Y 32)]) rfl ?_
      exact hk87 M h
    · have h := hif.2 c
      clear hif
      refine g_aload_n C 0 dX9_readPart_39 (q := 40) rfl rfl rfl ?_
      refine g_get C (k := 32) (i := 3) (by decide) (gc_32 Y _ _) rfl kU_X9 (by decide) kF_X9_39 rfl dX9_readPart_40 (q := 43) rfl ?_
      refine g_iconst C (v := 2) dX9_readPart_43 (q := 44) rfl (by decide) ?_
      have hif := g_if h
      clear h
      refine g_icmp_ne C dX9_readPart_44 (q := 47) (tgt := 87) rfl (by decide) (fun c => ?_) (fun c => ?_)
      · have h := hif.2 c
        clear hif
        refine g_sub [0] (lv' := [(0, g_r Y 32)]) rfl ?_
        exact hk87 M h
      · have h := hif.1 c
        clear hif
        refine g_aload_n C 0 dX9_readPart_47 (q := 48) rfl rfl rfl ?_
        refine g_get C (k := 32) (i := 6) (by decide) (gc_32 Y _ _) rfl kU_X9 (by decide) kF_X9_60 rfl dX9_readPart_48 (q := 51) rfl ?_
        refine g_bipush C (v := 10) dX9_readPart_51 (q := 53) rfl (by decide) ?_
        have hif := g_if h
        clear h
        refine g_icmp_ge C dX9_readPart_53 (q := 56) (tgt := 87) rfl (by decide) (fun c => ?_) (fun c => ?_)
        · have h := hif.1 c
          clear hif
          refine g_sub [0] (lv' := [(0, g_r Y 32)]) rfl ?_
          exact hk87 M h
        · have h := hif.2 c
          clear hif
          refine g_iload_n C 2 dX9_readPart_56 (q := 57) rfl rfl rfl ?_
          refine g_bipush C (v := 120) dX9_readPart_57 (q := 59) rfl (by decide) ?_
          have hif := g_if h
          clear h
          refine g_icmp_ge C dX9_readPart_59 (q := 62) (tgt := 87) rfl (by decide) (fun c => ?_) (fun c => ?_)
          · have h := hif.1 c
            clear hif
            refine g_sub [0] (lv' := [(0, g_r Y 32)]) rfl ?_
            exact hk87 M h
          · have h := hif.2 c
            clear hif
            refine g_aload_n C 0 dX9_readPart_62 (q := 63) rfl rfl rfl ?_
            refine g_dup C dX9_readPart_63 (q := 64) rfl rfl ?_
            refine g_get C (k := 32) (i := 7) (by decide) (gc_32 Y _ _) rfl kU_X9 (by decide) kF_X9_67 rfl dX9_readPart_64 (q := 67) rfl ?_
            refine g_iconst C (v := 1) dX9_readPart_67 (q := 68) rfl (by decide) ?_
            refine g_aload_n C 0 dX9_readPart_68 (q := 69) rfl rfl rfl ?_
            refine g_get C (k := 32) (i := 6) (by decide) (gc_32 Y _ _) rfl kU_X9 (by decide) kF_X9_60 rfl dX9_readPart_69 (q := 72) rfl ?_
            refine g_ishl C dX9_readPart_72 (q := 73) rfl ?_
            refine g_ior C dX9_readPart_73 (q := 74) rfl ?_
            obtain ⟨M3, hM3, h⟩ := g_bind h
            refine g_put C (k := 32) (i := 7) (ty := .int) (by decide) (gc_32 Y _ _) (gp_32_7 Y _ _ _) rfl kU_X9 tyX9_ok nmX9 (by decide) kF_X9_67 rfl rfl rfl rfl (Nat.le_of_ble_eq_true rfl) dX9_readPart_74 (q := 77) rfl ?_
            refine g_mem hM3 ?_
            refine g_aload_n C 0 dX9_readPart_77 (q := 78) rfl rfl rfl ?_
            obtain ⟨p4, hp4, h⟩ := g_bind h
            refine g_callV C (k := 32) (as := []) (st := []) (m_X9_advance hp4) (g_hR (by decide)) (by decide) (by decide) (gc_32 Y _ _) rfl kM_X9_29 kI_X9_advance kS_X9_advance kN_X9 kC_X9_advance kD_X9_advance rfl (Nat.le_of_ble_eq_true rfl) dX9_readPart_78 (q := 81) rfl ?_
            show g_G 3 X Y 81 [(0, g_r Y 32), (1, .int x1), (2, .int x2)] [] p4
            refine g_iinc C (k := 2) (v := x2 + 1) dX9_readPart_81 (q := 84) rfl rfl rfl (by decide) (lv' := [(2, .int (x2 + 1)), (0, g_r Y 32), (1, .int x1)]) rfl ?_
            refine g_goto C dX9_readPart_84 (tgt := 35) (by decide) ?_
            refine g_sub [1, 2, 0] (lv' := [(0, g_r Y 32), (1, .int x1), (2, .int (x2 + 1))]) rfl ?_
            exact ih x1 (x2 + 1) p4 h
theorem r_X9_readPart_35 {p : Int32 × g_M} {k87 : g_M → Option (Int32 × g_M)} (hk87 : ∀ (M : g_M), k87 M = some p → g_fr [] [(32, 3), (32, 4), (32, 5), (32, 6), (32, 7)] M p.2) (n : Nat) : ∀ (x1 : Int32) (x2 : Int32) (M : g_M), g_lp2 (F_X9_readPart_35 k87) n x1 x2 M = some p → g_fr [] [(32, 3), (32, 4), (32, 5), (32, 6), (32, 7)] M p.2 := by
  induction n with
  | zero => intro x1 x2 M h; exact (g_nn h).elim
  | succ n ih =>
    intro x1 x2 M h
    have h : F_X9_readPart_35 k87 (g_lp2 (F_X9_readPart_35 k87) n) x1 x2 M = some p := h
    generalize g_lp2 (F_X9_readPart_35 k87) n = k at h ih
    unfold F_X9_readPart_35 at h
    have hf := g_fr.rfl (S := []) (T := [(32, 3), (32, 4), (32, 5), (32, 6), (32, 7)]) (M := M)
    rcases g_ifs h with h | h
    · exact hf.trans (hk87 M h)
    · rcases g_ifs h with h | h
      · rcases g_ifs h with h | h
        · exact hf.trans (hk87 M h)
        · rcases g_ifs h with h | h
          · exact hf.trans (hk87 M h)
          · obtain ⟨M3, hM3, h⟩ := g_bind h
            have hf := hf.pu hM3 (by decide)
            obtain ⟨p4, hp4, h⟩ := g_bind h
            have hf := hf.trans ((r_X9_advance hp4).mono (by decide) (by decide))
            exact hf.trans (ih x1 (x2 + 1) p4 h)
      · exact hf.trans (hk87 M h)
def f_X9_readPart_87 (M : g_M) : Option (Int32 × g_M) :=
  (if (M.1 32 7) = 0 then (some (0, M)) else ((f_X9_pass 6 M).bind fun p5 => (if p5.1 = 0 then (some (0, p5.2)) else (some (1, p5.2)))))
set_option maxRecDepth 100000 in
theorem t_X9_readPart_87 {l : Launch} {X : g_X} {Y : g_Y} {p : Int32 × g_M} (C : g_C l (g_rm (9)) RX9 cX9_readPart 3 X Y) (E : g_E (some .boolean) X Y (some (.int p.1)) p.2) (M : g_M) (h : f_X9_readPart_87 M = some p) : g_G 3 X Y 87 [(0, g_r Y 32)] [] M := by
  unfold f_X9_readPart_87 at h
  refine g_aload_n C 0 dX9_readPart_87 (q := 88) rfl rfl rfl ?_
  refine g_get C (k := 32) (i := 7) (by decide) (gc_32 Y _ _) rfl kU_X9 (by decide) kF_X9_67 rfl dX9_readPart_88 (q := 91) rfl ?_
  have hif := g_if h
  clear h
  refine g_if_eq C dX9_readPart_91 (q := 94) (tgt := 107) rfl (by decide) (fun c => ?_) (fun c => ?_)
  · have h := hif.1 c
    clear hif
    refine g_iconst C (v := 0) dX9_readPart_107 (q := 108) rfl (by decide) ?_
    obtain rfl := Option.some.inj h
    exact g_zret C (g_bz_lit (by decide)) E dX9_readPart_108
  · have h := hif.2 c
    clear hif
    refine g_aload_n C 0 dX9_readPart_94 (q := 95) rfl rfl rfl ?_
    refine g_bipush C (v := 6) dX9_readPart_95 (q := 97) rfl (by decide) ?_
    obtain ⟨p5, hp5, h⟩ := g_bind h
    refine g_callV C (k := 32) (as := [.int 6]) (st := []) (m_X9_pass hp5) (g_hR (by decide)) (by decide) (by decide) (gc_32 Y _ _) rfl kM_X9_32 kI_X9_pass kS_X9_pass kN_X9 kC_X9_pass kD_X9_pass rfl (Nat.le_of_ble_eq_true rfl) dX9_readPart_97 (q := 100) rfl ?_
    show g_G 3 X Y 100 [(0, g_r Y 32)] [.int p5.1] p5.2
    have hif := g_if h
    clear h
    refine g_if_eq C dX9_readPart_100 (q := 103) (tgt := 107) rfl (by decide) (fun c => ?_) (fun c => ?_)
    · have h := hif.1 c
      clear hif
      refine g_iconst C (v := 0) dX9_readPart_107 (q := 108) rfl (by decide) ?_
      obtain rfl := Option.some.inj h
      exact g_zret C (g_bz_lit (by decide)) E dX9_readPart_108
    · have h := hif.2 c
      clear hif
      refine g_iconst C (v := 1) dX9_readPart_103 (q := 104) rfl (by decide) ?_
      refine g_goto C dX9_readPart_104 (tgt := 108) (by decide) ?_
      obtain rfl := Option.some.inj h
      exact g_zret C (g_bz_lit (by decide)) E dX9_readPart_108
theorem r_X9_readPart_87 {p : Int32 × g_M} (M : g_M) (h : f_X9_readPart_87 M = some p) : g_fr [] [(32, 3), (32, 4), (32, 5), (32, 6), (32, 7)] M p.2 := by
  unfold f_X9_readPart_87 at h
  have hf := g_fr.rfl (S := []) (T := [(32, 3), (32, 4), (32, 5), (32, 6), (32, 7)]) (M := M)
  rcases g_ifs h with h | h
  · obtain rfl := Option.some.inj h
    exact hf
  · obtain ⟨p5, hp5, h⟩ := g_bind h
    have hf := hf.trans ((r_X9_pass hp5).mono (by decide) (by decide))
    rcases g_ifs h with h | h
    · obtain rfl := Option.some.inj h
      exact hf
    · obtain rfl := Option.some.inj h
      exact hf
def f_X9_readPart (M : g_M) : Option (Int32 × g_M) :=
  (if (M.1 32 3) = 17 then ((some (g_u M 32 7 1023)).bind fun M6 => (f_X9_advance M6).bind fun p7 => some (1, p7)) else ((some (g_u M 32 7 0)).bind fun M1 => (f_X9_pass 5 M1).bind fun p2 => g_lp2 (F_X9_readPart_35 (fun (M : g_M) => f_X9_readPart_87 M)) 20000000 p2.1 0 p2.2))
set_option maxRecDepth 100000 in
theorem m_X9_readPart {l : Launch} {Y : g_Y} {M : g_M} {p : Int32 × g_M} (h : f_X9_readPart M = some p) : g_R l Y (9) yX9_readPart cX9_readPart 3 (some .boolean) [g_r Y 32] M (some (.int p.1)) p.2 := by
  unfold f_X9_readPart at h
  refine g_R_of kP_X9 rfl (Nat.le_of_ble_eq_true rfl) (fun X C E => ?_)
  show g_G 3 X Y 0 [(0, g_r Y 32)] [] M
  refine g_aload_n C 0 dX9_readPart_0 (q := 1) rfl rfl rfl ?_
  refine g_get C (k := 32) (i := 3) (by decide) (gc_32 Y _ _) rfl kU_X9 (by decide) kF_X9_39 rfl dX9_readPart_1 (q := 4) rfl ?_
  refine g_bipush C (v := 17) dX9_readPart_4 (q := 6) rfl (by decide) ?_
  have hif := g_if h
  clear h
  refine g_icmp_ne C dX9_readPart_6 (q := 9) (tgt := 22) rfl (by decide) (fun c => ?_) (fun c => ?_)
  · have h := hif.2 c
    clear hif
    refine g_aload_n C 0 dX9_readPart_22 (q := 23) rfl rfl rfl ?_
    refine g_iconst C (v := 0) dX9_readPart_23 (q := 24) rfl (by decide) ?_
    obtain ⟨M1, hM1, h⟩ := g_bind h
    refine g_put C (k := 32) (i := 7) (ty := .int) (by decide) (gc_32 Y _ _) (gp_32_7 Y _ _ _) rfl kU_X9 tyX9_ok nmX9 (by decide) kF_X9_67 rfl rfl rfl rfl (Nat.le_of_ble_eq_true rfl) dX9_readPart_24 (q := 27) rfl ?_
    refine g_mem hM1 ?_
    refine g_aload_n C 0 dX9_readPart_27 (q := 28) rfl rfl rfl ?_
    refine g_iconst C (v := 5) dX9_readPart_28 (q := 29) rfl (by decide) ?_
    obtain ⟨p2, hp2, h⟩ := g_bind h
    refine g_callV C (k := 32) (as := [.int 5]) (st := []) (m_X9_pass hp2) (g_hR (by decide)) (by decide) (by decide) (gc_32 Y _ _) rfl kM_X9_32 kI_X9_pass kS_X9_pass kN_X9 kC_X9_pass kD_X9_pass rfl (Nat.le_of_ble_eq_true rfl) dX9_readPart_29 (q := 32) rfl ?_
    show g_G 3 X Y 32 [(0, g_r Y 32)] [.int p2.1] p2.2
    refine g_istore_n C dX9_readPart_32 (q := 33) rfl rfl (by decide) (lv' := [(1, .int p2.1), (0, g_r Y 32)]) rfl ?_
    refine g_iconst C (v := 0) dX9_readPart_33 (q := 34) rfl (by decide) ?_
    refine g_istore_n C dX9_readPart_34 (q := 35) rfl rfl (by decide) (lv' := [(2, .int 0), (1, .int p2.1), (0, g_r Y 32)]) rfl ?_
    refine g_sub [2, 1, 0] (lv' := [(0, g_r Y 32), (1, .int p2.1), (2, .int 0)]) rfl ?_
    refine t_X9_readPart_35 C E ?_ 20000000 p2.1 0 p2.2 h
    · intro M h
      try dsimp only at h
      refine g_sub [0] (lv' := [(0, g_r Y 32)]) rfl ?_
      exact t_X9_readPart_87 C E M h
  · have h := hif.1 c
    clear hif
    refine g_aload_n C 0 dX9_readPart_9 (q := 10) rfl rfl rfl ?_
    refine g_sipush C (v := 1023) dX9_readPart_10 (q := 13) rfl (by decide) ?_
    obtain ⟨M6, hM6, h⟩ := g_bind h
    refine g_put C (k := 32) (i := 7) (ty := .int) (by decide) (gc_32 Y _ _) (gp_32_7 Y _ _ _) rfl kU_X9 tyX9_ok nmX9 (by decide) kF_X9_67 rfl rfl rfl rfl (Nat.le_of_ble_eq_true rfl) dX9_readPart_13 (q := 16) rfl ?_
    refine g_mem hM6 ?_
    refine g_aload_n C 0 dX9_readPart_16 (q := 17) rfl rfl rfl ?_
    obtain ⟨p7, hp7, h⟩ := g_bind h
    refine g_callV C (k := 32) (as := []) (st := []) (m_X9_advance hp7) (g_hR (by decide)) (by decide) (by decide) (gc_32 Y _ _) rfl kM_X9_29 kI_X9_advance kS_X9_advance kN_X9 kC_X9_advance kD_X9_advance rfl (Nat.le_of_ble_eq_true rfl) dX9_readPart_17 (q := 20) rfl ?_
    show g_G 3 X Y 20 [(0, g_r Y 32)] [] p7
    refine g_iconst C (v := 1) dX9_readPart_20 (q := 21) rfl (by decide) ?_
    obtain rfl := Option.some.inj h
    exact g_zret C (g_bz_lit (by decide)) E dX9_readPart_21
theorem r_X9_readPart {M : g_M} {p : Int32 × g_M} (h : f_X9_readPart M = some p) : g_fr [] [(32, 3), (32, 4), (32, 5), (32, 6), (32, 7)] M p.2 := by
  unfold f_X9_readPart at h
  have hf := g_fr.rfl (S := []) (T := [(32, 3), (32, 4), (32, 5), (32, 6), (32, 7)]) (M := M)
  rcases g_ifs h with h | h
  · obtain ⟨M6, hM6, h⟩ := g_bind h
    have hf := hf.pu hM6 (by decide)
    obtain ⟨p7, hp7, h⟩ := g_bind h
    have hf := hf.trans ((r_X9_advance hp7).mono (by decide) (by decide))
    obtain rfl := Option.some.inj h
    exact hf
  · obtain ⟨M1, hM1, h⟩ := g_bind h
    have hf := hf.pu hM1 (by decide)
    obtain ⟨p2, hp2, h⟩ := g_bind h
    have hf := hf.trans ((r_X9_pass hp2).mono (by decide) (by decide))
    refine hf.trans (r_X9_readPart_35 ?_ 20000000 p2.1 0 p2.2 h)
    · intro M h
      try dsimp only at h
      have hf := g_fr.rfl (S := []) (T := [(32, 3), (32, 4), (32, 5), (32, 6), (32, 7)]) (M := M)
      exact hf.trans (r_X9_readPart_87 M h)
def f_X9_emit (x1 : Int32) (x2 : Int32) (x3 : Int32) (M : g_M) : Option (Int32 × g_M) :=
  (if 120 ≤ (M.1 32 2) then (some (1, M)) else ((f_X10_step x1 x2 x3 M).bind fun p1 => (g_st M 35 120 (M.1 32 2) p1).bind fun M2 => (some (g_u M2 32 2 ((M2.1 32 2) + 1))).bind fun M3 => some (1, M3)))
set_option maxRecDepth 100000 in
theorem m_X9_emit {l : Launch} {Y : g_Y} {x1 : Int32} {x2 : Int32} {x3 : Int32} {M : g_M} {p : Int32 × g_M} (h : f_X9_emit x1 x2 x3 M = some p) : g_R l Y (1) yX9_emit cX9_emit 4 (some .boolean) [g_r Y 32, .int x1, .int x2, .int x3] M (some (.int p.1)) p.2 := by
  unfold f_X9_emit at h
  refine g_R_of kP_X9 rfl (Nat.le_of_ble_eq_true rfl) (fun X C E => ?_)
  show g_G 4 X Y 0 [(0, g_r Y 32), (1, .int x1), (2, .int x2), (3, .int x3)] [] M
  refine g_aload_n C 0 dX9_emit_0 (q := 1) rfl rfl rfl ?_
  refine g_get C (k := 32) (i := 2) (by decide) (gc_32 Y _ _) rfl kU_X9 (by decide) kF_X9_22 rfl dX9_emit_1 (q := 4) rfl ?_
  refine g_bipush C (v := 120) dX9_emit_4 (q := 6) rfl (by decide) ?_
  have hif := g_if h
  clear h
  refine g_icmp_ge C dX9_emit_6 (q := 9) (tgt := 34) rfl (by decide) (fun c => ?_) (fun c => ?_)
  · have h := hif.1 c
    clear hif
    refine g_iconst C (v := 1) dX9_emit_34 (q := 35) rfl (by decide) ?_
    obtain rfl := Option.some.inj h
    exact g_zret C (g_bz_lit (by decide)) E dX9_emit_35
  · have h := hif.2 c
    clear hif
    refine g_aload_n C 0 dX9_emit_9 (q := 10) rfl rfl rfl ?_
    refine g_get C (k := 32) (i := 1) (by decide) (gc_32 Y _ _) rfl kU_X9 (by decide) kF_X9_18 rfl dX9_emit_10 (q := 13) rfl ?_
    refine g_aload_n C 0 dX9_emit_13 (q := 14) rfl rfl rfl ?_
    refine g_get C (k := 32) (i := 2) (by decide) (gc_32 Y _ _) rfl kU_X9 (by decide) kF_X9_22 rfl dX9_emit_14 (q := 17) rfl ?_
    refine g_iload_n C 1 dX9_emit_17 (q := 18) rfl rfl rfl ?_
    refine g_iload_n C 2 dX9_emit_18 (q := 19) rfl rfl rfl ?_
    refine g_iload_n C 3 dX9_emit_19 (q := 20) rfl rfl rfl ?_
    obtain ⟨p1, hp1, h⟩ := g_bind h
    refine g_callS C (as := [.int x1, .int x2, .int x3]) (st := [.int (M.1 32 2), g_r Y 35]) (m_X10_step hp1) (g_hR (by decide)) (by decide) kM_X9_70 kT_X10_step kN_X10 kC_X10_step kD_X10_step rfl (Nat.le_of_ble_eq_true rfl) dX9_emit_20 (q := 23) rfl ?_
    show g_G 4 X Y 23 [(0, g_r Y 32), (1, .int x1), (2, .int x2), (3, .int x3)] [.int p1, .int (M.1 32 2), g_r Y 35] M
    obtain ⟨M2, hM2, h⟩ := g_bind h
    refine g_iast C (k := 35) (n := 120) (by decide) (fun a => gc_35 Y a _) hM2 dX9_emit_23 (q := 24) rfl ?_
    refine g_aload_n C 0 dX9_emit_24 (q := 25) rfl rfl rfl ?_
    refine g_dup C dX9_emit_25 (q := 26) rfl rfl ?_
    refine g_get C (k := 32) (i := 2) (by decide) (gc_32 Y _ _) rfl kU_X9 (by decide) kF_X9_22 rfl dX9_emit_26 (q := 29) rfl ?_
    refine g_iconst C (v := 1) dX9_emit_29 (q := 30) rfl (by decide) ?_
    refine g_iadd C dX9_emit_30 (q := 31) rfl ?_
    obtain ⟨M3, hM3, h⟩ := g_bind h
    refine g_put C (k := 32) (i := 2) (ty := .int) (by decide) (gc_32 Y _ _) (gp_32_2 Y _ _ _) rfl kU_X9 tyX9_ok nmX9 (by decide) kF_X9_22 rfl rfl rfl rfl (Nat.le_of_ble_eq_true rfl) dX9_emit_31 (q := 34) rfl ?_
    refine g_mem hM3 ?_
    refine g_iconst C (v := 1) dX9_emit_34 (q := 35) rfl (by decide) ?_
    obtain rfl := Option.some.inj h
    exact g_zret C (g_bz_lit (by decide)) E dX9_emit_35
theorem r_X9_emit {x1 : Int32} {x2 : Int32} {x3 : Int32} {M : g_M} {p : Int32 × g_M} (h : f_X9_emit x1 x2 x3 M = some p) : g_fr [35] [(32, 2)] M p.2 := by
  unfold f_X9_emit at h
  have hf := g_fr.rfl (S := [35]) (T := [(32, 2)]) (M := M)
  rcases g_ifs h with h | h
  · obtain rfl := Option.some.inj h
    exact hf
  · obtain ⟨p1, -, h⟩ := g_bind h
    obtain ⟨M2, hM2, h⟩ := g_bind h
    have hf := hf.st hM2 (by decide)
    obtain ⟨M3, hM3, h⟩ := g_bind h
    have hf := hf.pu hM3 (by decide)
    obtain rfl := Option.some.inj h
    exact hf
def f_X9_readOne (kE : Int32 → g_M → Option (Int32 × g_M)) (x1 : Int32) (M : g_M) : Option (Int32 × g_M) :=
  (if (M.1 32 3) = 3 then ((if x1 < 6 then ((f_X9_advance M).bind fun p1 => (kE (x1 + 1) p1).bind fun p2 => (if p2.1 = 0 then (some (0, p2.2)) else ((f_X9_pass 4 p2.2).bind fun p3 => (if p3.1 = 0 then (some (0, p3.2)) else (some (1, p3.2)))))) else (some (0, M)))) else (if (M.1 32 3) = 12 then ((f_X9_advance M).bind fun p4 => (f_X9_pass 2 p4).bind fun p5 => (if p5.1 = 0 then (some (0, p5.2)) else ((f_X9_pass 13 p5.2).bind fun p6 => (if p6.1 = 0 then (some (0, p6.2)) else ((f_X9_readPart p6.2).bind fun p7 => (if p7.1 = 0 then (some (0, p7.2)) else ((f_X9_emit 0 (p4.1 32 6) (p7.2.1 32 7) p7.2).bind fun p8 => (if p8.1 = 0 then (some (0, p8.2)) else (some (1, p8.2)))))))))) else (if (M.1 32 3) = 14 then ((f_X9_advance M).bind fun p9 => (f_X9_readPart p9).bind fun p10 => (if p10.1 = 0 then (some (0, p10.2)) else ((f_X9_emit 1 0 (p10.2.1 32 7) p10.2).bind fun p11 => (if p11.1 = 0 then (some (0, p11.2)) else (some (1, p11.2)))))) else (if (M.1 32 3) = 15 then ((f_X9_advance M).bind fun p12 => (f_X9_readPart p12).bind fun p13 => (if p13.1 = 0 then (some (0, p13.2)) else ((f_X9_emit 2 0 (p13.2.1 32 7) p13.2).bind fun p14 => (if p14.1 = 0 then (some (0, p14.2)) else (some (1, p14.2)))))) else (if (M.1 32 3) = 16 then ((f_X9_advance M).bind fun p15 => (f_X9_pass 2 p15).bind fun p16 => (if p16.1 = 0 then (some (0, p16.2)) else ((f_X9_emit 3 (p15.1 32 6) 0 p16.2).bind fun p17 => (if p17.1 = 0 then (some (0, p17.2)) else (some (1, p17.2)))))) else some (0, M))))))
set_option maxRecDepth 100000 in
theorem m_X9_readOne {l : Launch} {Y : g_Y} (kE : Int32 → g_M → Option (Int32 × g_M)) (hh : Nat) (hE : ∀ (x1 : Int32) (M : g_M) (p : Int32 × g_M), kE x1 M = some p → g_R l Y (hh) yX9_readEither cX9_readEither 4 (some .boolean) [g_r Y 32, .int x1] M (some (.int p.1)) p.2) {x1 : Int32} {M : g_M} {p : Int32 × g_M} (h : f_X9_readOne kE x1 M = some p) : g_R l Y (hh + 12) yX9_readOne cX9_readOne 4 (some .boolean) [g_r Y 32, .int x1] M (some (.int p.1)) p.2 := by
  unfold f_X9_readOne at h
  refine g_R_of kP_X9 rfl (Nat.le_of_ble_eq_true rfl) (fun X C E => ?_)
  show g_G 4 X Y 0 [(0, g_r Y 32), (1, .int x1)] [] M
  refine g_aload_n C 0 dX9_readOne_0 (q := 1) rfl rfl rfl ?_
  refine g_get C (k := 32) (i := 3) (by decide) (gc_32 Y _ _) rfl kU_X9 (by decide) kF_X9_39 rfl dX9_readOne_1 (q := 4) rfl ?_
  by_cases e : (M.1 32 3) = 3
  · rw [if_pos e] at h
    refine g_tabI C (off := 217) (tgt := 221) dX9_readOne_4 (by rw [e]; decide) (by rw [e]; decide) (by rw [e]; decide) (by decide) ?_
    refine g_iload_n C 1 dX9_readOne_221 (q := 222) rfl rfl rfl ?_
    refine g_bipush C (v := 6) dX9_readOne_222 (q := 224) rfl (by decide) ?_
    have hif := g_if h
    clear h
    refine g_icmp_lt C dX9_readOne_224 (q := 227) (tgt := 229) rfl (by decide) (fun c => ?_) (fun c => ?_)
    · have h := hif.1 c
      clear hif
      refine g_aload_n C 0 dX9_readOne_229 (q := 230) rfl rfl rfl ?_
      obtain ⟨p1, hp1, h⟩ := g_bind h
      refine g_callV C (k := 32) (as := []) (st := []) (m_X9_advance hp1) (g_hR (by omega)) (by decide) (by decide) (gc_32 Y _ _) rfl kM_X9_29 kI_X9_advance kS_X9_advance kN_X9 kC_X9_advance kD_X9_advance rfl (Nat.le_of_ble_eq_true rfl) dX9_readOne_230 (q := 233) rfl ?_
      show g_G 4 X Y 233 [(0, g_r Y 32), (1, .int x1)] [] p1
      refine g_aload_n C 0 dX9_readOne_233 (q := 234) rfl rfl rfl ?_
      refine g_iload_n C 1 dX9_readOne_234 (q := 235) rfl rfl rfl ?_
      refine g_iconst C (v := 1) dX9_readOne_235 (q := 236) rfl (by decide) ?_
      refine g_iadd C dX9_readOne_236 (q := 237) rfl ?_
      obtain ⟨p2, hp2, h⟩ := g_bind h
      refine g_callV C (k := 32) (as := [.int (x1 + 1)]) (st := []) (hE _ _ _ hp2) (g_hR (by omega)) (by decide) (by decide) (gc_32 Y _ _) rfl kM_X9_36 kI_X9_readEither kS_X9_readEither kN_X9 kC_X9_readEither kD_X9_readEither rfl (Nat.le_of_ble_eq_true rfl) dX9_readOne_237 (q := 240) rfl ?_
      show g_G 4 X Y 240 [(0, g_r Y 32), (1, .int x1)] [.int p2.1] p2.2
      have hif := g_if h
      clear h
      refine g_if_eq C dX9_readOne_240 (q := 243) (tgt := 255) rfl (by decide) (fun c => ?_) (fun c => ?_)
      · have h := hif.1 c
        clear hif
        refine g_iconst C (v := 0) dX9_readOne_255 (q := 256) rfl (by decide) ?_
        obtain rfl := Option.some.inj h
        exact g_zret C (g_bz_lit (by decide)) E dX9_readOne_256
      · have h := hif.2 c
        clear hif
        refine g_aload_n C 0 dX9_readOne_243 (q := 244) rfl rfl rfl ?_
        refine g_iconst C (v := 4) dX9_readOne_244 (q := 245) rfl (by decide) ?_
        obtain ⟨p3, hp3, h⟩ := g_bind h
        refine g_callV C (k := 32) (as := [.int 4]) (st := []) (m_X9_pass hp3) (g_hR (by omega)) (by decide) (by decide) (gc_32 Y _ _) rfl kM_X9_32 kI_X9_pass kS_X9_pass kN_X9 kC_X9_pass kD_X9_pass rfl (Nat.le_of_ble_eq_true rfl) dX9_readOne_245 (q := 248) rfl ?_
        show g_G 4 X Y 248 [(0, g_r Y 32), (1, .int x1)] [.int p3.1] p3.2
        have hif := g_if h
        clear h
        refine g_if_eq C dX9_readOne_248 (q := 251) (tgt := 255) rfl (by decide) (fun c => ?_) (fun c => ?_)
        · have h := hif.1 c
          clear hif
          refine g_iconst C (v := 0) dX9_readOne_255 (q := 256) rfl (by decide) ?_
          obtain rfl := Option.some.inj h
          exact g_zret C (g_bz_lit (by decide)) E dX9_readOne_256
        · have h := hif.2 c
          clear hif
          refine g_iconst C (v := 1) dX9_readOne_251 (q := 252) rfl (by decide) ?_
          refine g_goto C dX9_readOne_252 (tgt := 256) (by decide) ?_
          obtain rfl := Option.some.inj h
          exact g_zret C (g_bz_lit (by decide)) E dX9_readOne_256
    · have h := hif.2 c
      clear hif
      refine g_iconst C (v := 0) dX9_readOne_227 (q := 228) rfl (by decide) ?_
      obtain rfl := Option.some.inj h
      exact g_zret C (g_bz_lit (by decide)) E dX9_readOne_228
  rw [if_neg e] at h
  have n3 := g_toI (n := 3) (v := 3) (by decide) e
  by_cases e : (M.1 32 3) = 12
  · rw [if_pos e] at h
    refine g_tabI C (off := 72) (tgt := 76) dX9_readOne_4 (by rw [e]; decide) (by rw [e]; decide) (by rw [e]; decide) (by decide) ?_
    refine g_aload_n C 0 dX9_readOne_76 (q := 77) rfl rfl rfl ?_
    obtain ⟨p4, hp4, h⟩ := g_bind h
    refine g_callV C (k := 32) (as := []) (st := []) (m_X9_advance hp4) (g_hR (by omega)) (by decide) (by decide) (gc_32 Y _ _) rfl kM_X9_29 kI_X9_advance kS_X9_advance kN_X9 kC_X9_advance kD_X9_advance rfl (Nat.le_of_ble_eq_true rfl) dX9_readOne_77 (q := 80) rfl ?_
    show g_G 4 X Y 80 [(0, g_r Y 32), (1, .int x1)] [] p4
    refine g_aload_n C 0 dX9_readOne_80 (q := 81) rfl rfl rfl ?_
    refine g_get C (k := 32) (i := 6) (by decide) (gc_32 Y _ _) rfl kU_X9 (by decide) kF_X9_60 rfl dX9_readOne_81 (q := 84) rfl ?_
    refine g_istore_n C dX9_readOne_84 (q := 85) rfl rfl (by decide) (lv' := [(2, .int (p4.1 32 6)), (0, g_r Y 32), (1, .int x1)]) rfl ?_
    refine g_aload_n C 1 dX9_readOne_85 (q := 86) rfl rfl rfl ?_
    refine g_iconst C (v := 2) dX9_readOne_86 (q := 87) rfl (by decide) ?_
    obtain ⟨p5, hp5, h⟩ := g_bind h
    refine g_callV C (k := 32) (as := [.int 2]) (st := []) (m_X9_pass hp5) (g_hR (by omega)) (by decide) (by decide) (gc_32 Y _ _) rfl kM_X9_32 kI_X9_pass kS_X9_pass kN_X9 kC_X9_pass kD_X9_pass rfl (Nat.le_of_ble_eq_true rfl) dX9_readOne_87 (q := 90) rfl ?_
    show g_G 4 X Y 90 [(2, .int (p4.1 32 6)), (0, g_r Y 32), (1, .int x1)] [.int p5.1] p5.2
    have hif := g_if h
    clear h
    refine g_if_eq C dX9_readOne_90 (q := 93) (tgt := 126) rfl (by decide) (fun c => ?_) (fun c => ?_)
    · have h := hif.1 c
      clear hif
      refine g_iconst C (v := 0) dX9_readOne_126 (q := 127) rfl (by decide) ?_
      obtain rfl := Option.some.inj h
      exact g_zret C (g_bz_lit (by decide)) E dX9_readOne_127
    · have h := hif.2 c
      clear hif
      refine g_aload_n C 1 dX9_readOne_93 (q := 94) rfl rfl rfl ?_
      refine g_bipush C (v := 13) dX9_readOne_94 (q := 96) rfl (by decide) ?_
      obtain ⟨p6, hp6, h⟩ := g_bind h
      refine g_callV C (k := 32) (as := [.int 13]) (st := []) (m_X9_pass hp6) (g_hR (by omega)) (by decide) (by decide) (gc_32 Y _ _) rfl kM_X9_32 kI_X9_pass kS_X9_pass kN_X9 kC_X9_pass kD_X9_pass rfl (Nat.le_of_ble_eq_true rfl) dX9_readOne_96 (q := 99) rfl ?_
      show g_G 4 X Y 99 [(2, .int (p4.1 32 6)), (0, g_r Y 32), (1, .int x1)] [.int p6.1] p6.2
      have hif := g_if h
      clear h
      refine g_if_eq C dX9_readOne_99 (q := 102) (tgt := 126) rfl (by decide) (fun c => ?_) (fun c => ?_)
      · have h := hif.1 c
        clear hif
        refine g_iconst C (v := 0) dX9_readOne_126 (q := 127) rfl (by decide) ?_
        obtain rfl := Option.some.inj h
        exact g_zret C (g_bz_lit (by decide)) E dX9_readOne_127
      · have h := hif.2 c
        clear hif
        refine g_aload_n C 1 dX9_readOne_102 (q := 103) rfl rfl rfl ?_
        obtain ⟨p7, hp7, h⟩ := g_bind h
        refine g_callV C (k := 32) (as := []) (st := []) (m_X9_readPart hp7) (g_hR (by omega)) (by decide) (by decide) (gc_32 Y _ _) rfl kM_X9_63 kI_X9_readPart kS_X9_readPart kN_X9 kC_X9_readPart kD_X9_readPart rfl (Nat.le_of_ble_eq_true rfl) dX9_readOne_103 (q := 106) rfl ?_
        show g_G 4 X Y 106 [(2, .int (p4.1 32 6)), (0, g_r Y 32), (1, .int x1)] [.int p7.1] p7.2
        have hif := g_if h
        clear h
        refine g_if_eq C dX9_readOne_106 (q := 109) (tgt := 126) rfl (by decide) (fun c => ?_) (fun c => ?_)
        · have h := hif.1 c
          clear hif
          refine g_iconst C (v := 0) dX9_readOne_126 (q := 127) rfl (by decide) ?_
          obtain rfl := Option.some.inj h
          exact g_zret C (g_bz_lit (by decide)) E dX9_readOne_127
        · have h := hif.2 c
          clear hif
          refine g_aload_n C 1 dX9_readOne_109 (q := 110) rfl rfl rfl ?_
          refine g_iconst C (v := 0) dX9_readOne_110 (q := 111) rfl (by decide) ?_
          refine g_iload_n C 0 dX9_readOne_111 (q := 112) rfl rfl rfl ?_
          refine g_aload_n C 1 dX9_readOne_112 (q := 113) rfl rfl rfl ?_
          refine g_get C (k := 32) (i := 7) (by decide) (gc_32 Y _ _) rfl kU_X9 (by decide) kF_X9_67 rfl dX9_readOne_113 (q := 116) rfl ?_
          obtain ⟨p8, hp8, h⟩ := g_bind h
          refine g_callV C (k := 32) (as := [.int 0, .int (p4.1 32 6), .int (p7.2.1 32 7)]) (st := []) (m_X9_emit hp8) (g_hR (by omega)) (by decide) (by decide) (gc_32 Y _ _) rfl kM_X9_44 kI_X9_emit kS_X9_emit kN_X9 kC_X9_emit kD_X9_emit rfl (Nat.le_of_ble_eq_true rfl) dX9_readOne_116 (q := 119) rfl ?_
          show g_G 4 X Y 119 [(2, .int (p4.1 32 6)), (0, g_r Y 32), (1, .int x1)] [.int p8.1] p8.2
          have hif := g_if h
          clear h
          refine g_if_eq C dX9_readOne_119 (q := 122) (tgt := 126) rfl (by decide) (fun c => ?_) (fun c => ?_)
          · have h := hif.1 c
            clear hif
            refine g_iconst C (v := 0) dX9_readOne_126 (q := 127) rfl (by decide) ?_
            obtain rfl := Option.some.inj h
            exact g_zret C (g_bz_lit (by decide)) E dX9_readOne_127
          · have h := hif.2 c
            clear hif
            refine g_iconst C (v := 1) dX9_readOne_122 (q := 123) rfl (by decide) ?_
            refine g_goto C dX9_readOne_123 (tgt := 127) (by decide) ?_
            obtain rfl := Option.some.inj h
            exact g_zret C (g_bz_lit (by decide)) E dX9_readOne_127
  rw [if_neg e] at h
  have n12 := g_toI (n := 12) (v := 12) (by decide) e
  by_cases e : (M.1 32 3) = 14
  · rw [if_pos e] at h
    refine g_tabI C (off := 124) (tgt := 128) dX9_readOne_4 (by rw [e]; decide) (by rw [e]; decide) (by rw [e]; decide) (by decide) ?_
    refine g_aload_n C 0 dX9_readOne_128 (q := 129) rfl rfl rfl ?_
    obtain ⟨p9, hp9, h⟩ := g_bind h
    refine g_callV C (k := 32) (as := []) (st := []) (m_X9_advance hp9) (g_hR (by omega)) (by decide) (by decide) (gc_32 Y _ _) rfl kM_X9_29 kI_X9_advance kS_X9_advance kN_X9 kC_X9_advance kD_X9_advance rfl (Nat.le_of_ble_eq_true rfl) dX9_readOne_129 (q := 132) rfl ?_
    show g_G 4 X Y 132 [(0, g_r Y 32), (1, .int x1)] [] p9
    refine g_aload_n C 0 dX9_readOne_132 (q := 133) rfl rfl rfl ?_
    obtain ⟨p10, hp10, h⟩ := g_bind h
    refine g_callV C (k := 32) (as := []) (st := []) (m_X9_readPart hp10) (g_hR (by omega)) (by decide) (by decide) (gc_32 Y _ _) rfl kM_X9_63 kI_X9_readPart kS_X9_readPart kN_X9 kC_X9_readPart kD_X9_readPart rfl (Nat.le_of_ble_eq_true rfl) dX9_readOne_133 (q := 136) rfl ?_
    show g_G 4 X Y 136 [(0, g_r Y 32), (1, .int x1)] [.int p10.1] p10.2
    have hif := g_if h
    clear h
    refine g_if_eq C dX9_readOne_136 (q := 139) (tgt := 156) rfl (by decide) (fun c => ?_) (fun c => ?_)
    · have h := hif.1 c
      clear hif
      refine g_iconst C (v := 0) dX9_readOne_156 (q := 157) rfl (by decide) ?_
      obtain rfl := Option.some.inj h
      exact g_zret C (g_bz_lit (by decide)) E dX9_readOne_157
    · have h := hif.2 c
      clear hif
      refine g_aload_n C 0 dX9_readOne_139 (q := 140) rfl rfl rfl ?_
      refine g_iconst C (v := 1) dX9_readOne_140 (q := 141) rfl (by decide) ?_
      refine g_iconst C (v := 0) dX9_readOne_141 (q := 142) rfl (by decide) ?_
      refine g_aload_n C 0 dX9_readOne_142 (q := 143) rfl rfl rfl ?_
      refine g_get C (k := 32) (i := 7) (by decide) (gc_32 Y _ _) rfl kU_X9 (by decide) kF_X9_67 rfl dX9_readOne_143 (q := 146) rfl ?_
      obtain ⟨p11, hp11, h⟩ := g_bind h
      refine g_callV C (k := 32) (as := [.int 1, .int 0, .int (p10.2.1 32 7)]) (st := []) (m_X9_emit hp11) (g_hR (by omega)) (by decide) (by decide) (gc_32 Y _ _) rfl kM_X9_44 kI_X9_emit kS_X9_emit kN_X9 kC_X9_emit kD_X9_emit rfl (Nat.le_of_ble_eq_true rfl) dX9_readOne_146 (q := 149) rfl ?_
      show g_G 4 X Y 149 [(0, g_r Y 32), (1, .int x1)] [.int p11.1] p11.2
      have hif := g_if h
      clear h
      refine g_if_eq C dX9_readOne_149 (q := 152) (tgt := 156) rfl (by decide) (fun c => ?_) (fun c => ?_)
      · have h := hif.1 c
        clear hif
        refine g_iconst C (v := 0) dX9_readOne_156 (q := 157) rfl (by decide) ?_
        obtain rfl := Option.some.inj h
        exact g_zret C (g_bz_lit (by decide)) E dX9_readOne_157
      · have h := hif.2 c
        clear hif
        refine g_iconst C (v := 1) dX9_readOne_152 (q := 153) rfl (by decide) ?_
        refine g_goto C dX9_readOne_153 (tgt := 157) (by decide) ?_
        obtain rfl := Option.some.inj h
        exact g_zret C (g_bz_lit (by decide)) E dX9_readOne_157
  rw [if_neg e] at h
  have n14 := g_toI (n := 14) (v := 14) (by decide) e
  by_cases e : (M.1 32 3) = 15
  · rw [if_pos e] at h
    refine g_tabI C (off := 154) (tgt := 158) dX9_readOne_4 (by rw [e]; decide) (by rw [e]; decide) (by rw [e]; decide) (by decide) ?_
    refine g_aload_n C 0 dX9_readOne_158 (q := 159) rfl rfl rfl ?_
    obtain ⟨p12, hp12, h⟩ := g_bind h
    refine g_callV C (k := 32) (as := []) (st := []) (m_X9_advance hp12) (g_hR (by omega)) (by decide) (by decide) (gc_32 Y _ _) rfl kM_X9_29 kI_X9_advance kS_X9_advance kN_X9 kC_X9_advance kD_X9_advance rfl (Nat.le_of_ble_eq_true rfl) dX9_readOne_159 (q := 162) rfl ?_
    show g_G 4 X Y 162 [(0, g_r Y 32), (1, .int x1)] [] p12
    refine g_aload_n C 0 dX9_readOne_162 (q := 163) rfl rfl rfl ?_
    obtain ⟨p13, hp13, h⟩ := g_bind h
    refine g_callV C (k := 32) (as := []) (st := []) (m_X9_readPart hp13) (g_hR (by omega)) (by decide) (by decide) (gc_32 Y _ _) rfl kM_X9_63 kI_X9_readPart kS_X9_readPart kN_X9 kC_X9_readPart kD_X9_readPart rfl (Nat.le_of_ble_eq_true rfl) dX9_readOne_163 (q := 166) rfl ?_
    show g_G 4 X Y 166 [(0, g_r Y 32), (1, .int x1)] [.int p13.1] p13.2
    have hif := g_if h
    clear h
    refine g_if_eq C dX9_readOne_166 (q := 169) (tgt := 186) rfl (by decide) (fun c => ?_) (fun c => ?_)
    · have h := hif.1 c
      clear hif
      refine g_iconst C (v := 0) dX9_readOne_186 (q := 187) rfl (by decide) ?_
      obtain rfl := Option.some.inj h
      exact g_zret C (g_bz_lit (by decide)) E dX9_readOne_187
    · have h := hif.2 c
      clear hif
      refine g_aload_n C 0 dX9_readOne_169 (q := 170) rfl rfl rfl ?_
      refine g_iconst C (v := 2) dX9_readOne_170 (q := 171) rfl (by decide) ?_
      refine g_iconst C (v := 0) dX9_readOne_171 (q := 172) rfl (by decide) ?_
      refine g_aload_n C 0 dX9_readOne_172 (q := 173) rfl rfl rfl ?_
      refine g_get C (k := 32) (i := 7) (by decide) (gc_32 Y _ _) rfl kU_X9 (by decide) kF_X9_67 rfl dX9_readOne_173 (q := 176) rfl ?_
      obtain ⟨p14, hp14, h⟩ := g_bind h
      refine g_callV C (k := 32) (as := [.int 2, .int 0, .int (p13.2.1 32 7)]) (st := []) (m_X9_emit hp14) (g_hR (by omega)) (by decide) (by decide) (gc_32 Y _ _) rfl kM_X9_44 kI_X9_emit kS_X9_emit kN_X9 kC_X9_emit kD_X9_emit rfl (Nat.le_of_ble_eq_true rfl) dX9_readOne_176 (q := 179) rfl ?_
      show g_G 4 X Y 179 [(0, g_r Y 32), (1, .int x1)] [.int p14.1] p14.2
      have hif := g_if h
      clear h
      refine g_if_eq C dX9_readOne_179 (q := 182) (tgt := 186) rfl (by decide) (fun c => ?_) (fun c => ?_)
      · have h := hif.1 c
        clear hif
        refine g_iconst C (v := 0) dX9_readOne_186 (q := 187) rfl (by decide) ?_
        obtain rfl := Option.some.inj h
        exact g_zret C (g_bz_lit (by decide)) E dX9_readOne_187
      · have h := hif.2 c
        clear hif
        refine g_iconst C (v := 1) dX9_readOne_182 (q := 183) rfl (by decide) ?_
        refine g_goto C dX9_readOne_183 (tgt := 187) (by decide) ?_
        obtain rfl := Option.some.inj h
        exact g_zret C (g_bz_lit (by decide)) E dX9_readOne_187
  rw [if_neg e] at h
  have n15 := g_toI (n := 15) (v := 15) (by decide) e
  by_cases e : (M.1 32 3) = 16
  · rw [if_pos e] at h
    refine g_tabI C (off := 184) (tgt := 188) dX9_readOne_4 (by rw [e]; decide) (by rw [e]; decide) (by rw [e]; decide) (by decide) ?_
    refine g_aload_n C 0 dX9_readOne_188 (q := 189) rfl rfl rfl ?_
    obtain ⟨p15, hp15, h⟩ := g_bind h
    refine g_callV C (k := 32) (as := []) (st := []) (m_X9_advance hp15) (g_hR (by omega)) (by decide) (by decide) (gc_32 Y _ _) rfl kM_X9_29 kI_X9_advance kS_X9_advance kN_X9 kC_X9_advance kD_X9_advance rfl (Nat.le_of_ble_eq_true rfl) dX9_readOne_189 (q := 192) rfl ?_
    show g_G 4 X Y 192 [(0, g_r Y 32), (1, .int x1)] [] p15
    refine g_aload_n C 0 dX9_readOne_192 (q := 193) rfl rfl rfl ?_
    refine g_get C (k := 32) (i := 6) (by decide) (gc_32 Y _ _) rfl kU_X9 (by decide) kF_X9_60 rfl dX9_readOne_193 (q := 196) rfl ?_
    refine g_istore_n C dX9_readOne_196 (q := 197) rfl rfl (by decide) (lv' := [(3, .int (p15.1 32 6)), (0, g_r Y 32), (1, .int x1)]) rfl ?_
    refine g_aload_n C 1 dX9_readOne_197 (q := 198) rfl rfl rfl ?_
    refine g_iconst C (v := 2) dX9_readOne_198 (q := 199) rfl (by decide) ?_
    obtain ⟨p16, hp16, h⟩ := g_bind h
    refine g_callV C (k := 32) (as := [.int 2]) (st := []) (m_X9_pass hp16) (g_hR (by omega)) (by decide) (by decide) (gc_32 Y _ _) rfl kM_X9_32 kI_X9_pass kS_X9_pass kN_X9 kC_X9_pass kD_X9_pass rfl (Nat.le_of_ble_eq_true rfl) dX9_readOne_199 (q := 202) rfl ?_
    show g_G 4 X Y 202 [(3, .int (p15.1 32 6)), (0, g_r Y 32), (1, .int x1)] [.int p16.1] p16.2
    have hif := g_if h
    clear h
    refine g_if_eq C dX9_readOne_202 (q := 205) (tgt := 219) rfl (by decide) (fun c => ?_) (fun c => ?_)
    · have h := hif.1 c
      clear hif
      refine g_iconst C (v := 0) dX9_readOne_219 (q := 220) rfl (by decide) ?_
      obtain rfl := Option.some.inj h
      exact g_zret C (g_bz_lit (by decide)) E dX9_readOne_220
    · have h := hif.2 c
      clear hif
      refine g_aload_n C 1 dX9_readOne_205 (q := 206) rfl rfl rfl ?_
      refine g_iconst C (v := 3) dX9_readOne_206 (q := 207) rfl (by decide) ?_
      refine g_iload_n C 0 dX9_readOne_207 (q := 208) rfl rfl rfl ?_
      refine g_iconst C (v := 0) dX9_readOne_208 (q := 209) rfl (by decide) ?_
      obtain ⟨p17, hp17, h⟩ := g_bind h
      refine g_callV C (k := 32) (as := [.int 3, .int (p15.1 32 6), .int 0]) (st := []) (m_X9_emit hp17) (g_hR (by omega)) (by decide) (by decide) (gc_32 Y _ _) rfl kM_X9_44 kI_X9_emit kS_X9_emit kN_X9 kC_X9_emit kD_X9_emit rfl (Nat.le_of_ble_eq_true rfl) dX9_readOne_209 (q := 212) rfl ?_
      show g_G 4 X Y 212 [(3, .int (p15.1 32 6)), (0, g_r Y 32), (1, .int x1)] [.int p17.1] p17.2
      have hif := g_if h
      clear h
      refine g_if_eq C dX9_readOne_212 (q := 215) (tgt := 219) rfl (by decide) (fun c => ?_) (fun c => ?_)
      · have h := hif.1 c
        clear hif
        refine g_iconst C (v := 0) dX9_readOne_219 (q := 220) rfl (by decide) ?_
        obtain rfl := Option.some.inj h
        exact g_zret C (g_bz_lit (by decide)) E dX9_readOne_220
      · have h := hif.2 c
        clear hif
        refine g_iconst C (v := 1) dX9_readOne_215 (q := 216) rfl (by decide) ?_
        refine g_goto C dX9_readOne_216 (tgt := 220) (by decide) ?_
        obtain rfl := Option.some.inj h
        exact g_zret C (g_bz_lit (by decide)) E dX9_readOne_220
  rw [if_neg e] at h
  have n16 := g_toI (n := 16) (v := 16) (by decide) e
  have hdef : g_G 4 X Y 257 [(0, g_r Y 32), (1, .int x1)] [] M := by
    refine g_iconst C (v := 0) dX9_readOne_257 (q := 258) rfl (by decide) ?_
    obtain rfl := Option.some.inj h
    exact g_zret C (g_bz_lit (by decide)) E dX9_readOne_258
  by_cases e : (M.1 32 3) = 4
  · refine g_tabI C (off := 253) (tgt := 257) dX9_readOne_4 (by rw [e]; decide) (by rw [e]; decide) (by rw [e]; decide) (by decide) ?_
    exact hdef
  have n4 := g_toI (n := 4) (v := 4) (by decide) e
  by_cases e : (M.1 32 3) = 5
  · refine g_tabI C (off := 253) (tgt := 257) dX9_readOne_4 (by rw [e]; decide) (by rw [e]; decide) (by rw [e]; decide) (by decide) ?_
    exact hdef
  have n5 := g_toI (n := 5) (v := 5) (by decide) e
  by_cases e : (M.1 32 3) = 6
  · refine g_tabI C (off := 253) (tgt := 257) dX9_readOne_4 (by rw [e]; decide) (by rw [e]; decide) (by rw [e]; decide) (by decide) ?_
    exact hdef
  have n6 := g_toI (n := 6) (v := 6) (by decide) e
  by_cases e : (M.1 32 3) = 7
  · refine g_tabI C (off := 253) (tgt := 257) dX9_readOne_4 (by rw [e]; decide) (by rw [e]; decide) (by rw [e]; decide) (by decide) ?_
    exact hdef
  have n7 := g_toI (n := 7) (v := 7) (by decide) e
  by_cases e : (M.1 32 3) = 8
  · refine g_tabI C (off := 253) (tgt := 257) dX9_readOne_4 (by rw [e]; decide) (by rw [e]; decide) (by rw [e]; decide) (by decide) ?_
    exact hdef
  have n8 := g_toI (n := 8) (v := 8) (by decide) e
  by_cases e : (M.1 32 3) = 9
  · refine g_tabI C (off := 253) (tgt := 257) dX9_readOne_4 (by rw [e]; decide) (by rw [e]; decide) (by rw [e]; decide) (by decide) ?_
    exact hdef
  have n9 := g_toI (n := 9) (v := 9) (by decide) e
  by_cases e : (M.1 32 3) = 10
  · refine g_tabI C (off := 253) (tgt := 257) dX9_readOne_4 (by rw [e]; decide) (by rw [e]; decide) (by rw [e]; decide) (by decide) ?_
    exact hdef
  have n10 := g_toI (n := 10) (v := 10) (by decide) e
  by_cases e : (M.1 32 3) = 11
  · refine g_tabI C (off := 253) (tgt := 257) dX9_readOne_4 (by rw [e]; decide) (by rw [e]; decide) (by rw [e]; decide) (by decide) ?_
    exact hdef
  have n11 := g_toI (n := 11) (v := 11) (by decide) e
  by_cases e : (M.1 32 3) = 13
  · refine g_tabI C (off := 253) (tgt := 257) dX9_readOne_4 (by rw [e]; decide) (by rw [e]; decide) (by rw [e]; decide) (by decide) ?_
    exact hdef
  have n13 := g_toI (n := 13) (v := 13) (by decide) e
  refine g_tabO C (tgt := 257) dX9_readOne_4 (by omega) (by decide) hdef
theorem r_X9_readOne {kE : Int32 → g_M → Option (Int32 × g_M)} (hE : ∀ (x1 : Int32) (M : g_M) (p : Int32 × g_M), kE x1 M = some p → g_fr [35] [(32, 2), (32, 3), (32, 4), (32, 5), (32, 6), (32, 7)] M p.2) {x1 : Int32} {M : g_M} {p : Int32 × g_M} (h : f_X9_readOne kE x1 M = some p) : g_fr [35] [(32, 2), (32, 3), (32, 4), (32, 5), (32, 6), (32, 7)] M p.2 := by
  unfold f_X9_readOne at h
  have hf := g_fr.rfl (S := [35]) (T := [(32, 2), (32, 3), (32, 4), (32, 5), (32, 6), (32, 7)]) (M := M)
  rcases g_ifs h with h | h
  · rcases g_ifs h with h | h
    · obtain ⟨p1, hp1, h⟩ := g_bind h
      have hf := hf.trans ((r_X9_advance hp1).mono (by decide) (by decide))
      obtain ⟨p2, hp2, h⟩ := g_bind h
      have hf := hf.trans ((hE _ _ _ hp2).mono (by decide) (by decide))
      rcases g_ifs h with h | h
      · obtain rfl := Option.some.inj h
        exact hf
      · obtain ⟨p3, hp3, h⟩ := g_bind h
        have hf := hf.trans ((r_X9_pass hp3).mono (by decide) (by decide))
        rcases g_ifs h with h | h
        · obtain rfl := Option.some.inj h
          exact hf
        · obtain rfl := Option.some.inj h
          exact hf
    · obtain rfl := Option.some.inj h
      exact hf
  rcases g_ifs h with h | h
  · obtain ⟨p4, hp4, h⟩ := g_bind h
    have hf := hf.trans ((r_X9_advance hp4).mono (by decide) (by decide))
    obtain ⟨p5, hp5, h⟩ := g_bind h
    have hf := hf.trans ((r_X9_pass hp5).mono (by decide) (by decide))
    rcases g_ifs h with h | h
    · obtain rfl := Option.some.inj h
      exact hf
    · obtain ⟨p6, hp6, h⟩ := g_bind h
      have hf := hf.trans ((r_X9_pass hp6).mono (by decide) (by decide))
      rcases g_ifs h with h | h
      · obtain rfl := Option.some.inj h
        exact hf
      · obtain ⟨p7, hp7, h⟩ := g_bind h
        have hf := hf.trans ((r_X9_readPart hp7).mono (by decide) (by decide))
        rcases g_ifs h with h | h
        · obtain rfl := Option.some.inj h
          exact hf
        · obtain ⟨p8, hp8, h⟩ := g_bind h
          have hf := hf.trans ((r_X9_emit hp8).mono (by decide) (by decide))
          rcases g_ifs h with h | h
          · obtain rfl := Option.some.inj h
            exact hf
          · obtain rfl := Option.some.inj h
            exact hf
  rcases g_ifs h with h | h
  · obtain ⟨p9, hp9, h⟩ := g_bind h
    have hf := hf.trans ((r_X9_advance hp9).mono (by decide) (by decide))
    obtain ⟨p10, hp10, h⟩ := g_bind h
    have hf := hf.trans ((r_X9_readPart hp10).mono (by decide) (by decide))
    rcases g_ifs h with h | h
    · obtain rfl := Option.some.inj h
      exact hf
    · obtain ⟨p11, hp11, h⟩ := g_bind h
      have hf := hf.trans ((r_X9_emit hp11).mono (by decide) (by decide))
      rcases g_ifs h with h | h
      · obtain rfl := Option.some.inj h
        exact hf
      · obtain rfl := Option.some.inj h
        exact hf
  rcases g_ifs h with h | h
  · obtain ⟨p12, hp12, h⟩ := g_bind h
    have hf := hf.trans ((r_X9_advance hp12).mono (by decide) (by decide))
    obtain ⟨p13, hp13, h⟩ := g_bind h
    have hf := hf.trans ((r_X9_readPart hp13).mono (by decide) (by decide))
    rcases g_ifs h with h | h
    · obtain rfl := Option.some.inj h
      exact hf
    · obtain ⟨p14, hp14, h⟩ := g_bind h
      have hf := hf.trans ((r_X9_emit hp14).mono (by decide) (by decide))
      rcases g_ifs h with h | h
      · obtain rfl := Option.some.inj h
        exact hf
      · obtain rfl := Option.some.inj h
        exact hf
  rcases g_ifs h with h | h
  · obtain ⟨p15, hp15, h⟩ := g_bind h
    have hf := hf.trans ((r_X9_advance hp15).mono (by decide) (by decide))
    obtain ⟨p16, hp16, h⟩ := g_bind h
    have hf := hf.trans ((r_X9_pass hp16).mono (by decide) (by decide))
    rcases g_ifs h with h | h
    · obtain rfl := Option.some.inj h
      exact hf
    · obtain ⟨p17, hp17, h⟩ := g_bind h
      have hf := hf.trans ((r_X9_emit hp17).mono (by decide) (by decide))
      rcases g_ifs h with h | h
      · obtain rfl := Option.some.inj h
        exact hf
      · obtain rfl := Option.some.inj h
        exact hf
  obtain rfl := Option.some.inj h
  exact hf
def F_X9_readNot (kE : Int32 → g_M → Option (Int32 × g_M)) (kN : Int32 → g_M → Option (Int32 × g_M)) (x1 : Int32) (M : g_M) : Option (Int32 × g_M) :=
  (if (M.1 32 3) = 11 then ((if x1 < 6 then ((f_X9_advance M).bind fun p1 => (kN (x1 + 1) p1).bind fun p2 => (f_X9_emit 4 0 0 p2.2).bind fun p3 => (g_bz p2.1).bind fun z4 => some (z4, p3.2)) else (some (0, M)))) else ((f_X9_readOne kE x1 M).bind fun p5 => (g_bz p5.1).bind fun z6 => some (z6, p5.2)))
def f_X9_readNot (kE : Int32 → g_M → Option (Int32 × g_M)) (d : Nat) (x1 : Int32) (M : g_M) : Option (Int32 × g_M) := g_lp1 (F_X9_readNot kE) d x1 M
set_option maxRecDepth 100000 in
theorem m_X9_readNot {l : Launch} {Y : g_Y} (kE : Int32 → g_M → Option (Int32 × g_M)) (hh : Nat) (hE : ∀ (x1 : Int32) (M : g_M) (p : Int32 × g_M), kE x1 M = some p → g_R l Y (hh) yX9_readEither cX9_readEither 4 (some .boolean) [g_r Y 32, .int x1] M (some (.int p.1)) p.2) (d : Nat) : ∀ (x1 : Int32) (M : g_M) (p : Int32 × g_M), f_X9_readNot kE d x1 M = some p → g_R l Y (hh + 13 + d) yX9_readNot cX9_readNot 3 (some .boolean) [g_r Y 32, .int x1] M (some (.int p.1)) p.2 := by
  induction d with
  | zero => intro x1 M p h; exact (g_nn h).elim
  | succ d hN =>
    intro x1 M p h
    have h : F_X9_readNot kE (g_lp1 (F_X9_readNot kE) d) x1 M = some p := h
    have hN : ∀ (x1 : Int32) (M : g_M) (p : Int32 × g_M), g_lp1 (F_X9_readNot kE) d x1 M = some p → g_R l Y (hh + 13 + d) yX9_readNot cX9_readNot 3 (some .boolean) [g_r Y 32, .int x1] M (some (.int p.1)) p.2 := hN
    generalize g_lp1 (F_X9_readNot kE) d = kN at h hN
    unfold F_X9_readNot at h
    refine g_R_of kP_X9 rfl (Nat.le_of_ble_eq_true rfl) (fun X C E => ?_)
    show g_G 3 X Y 0 [(0, g_r Y 32), (1, .int x1)] [] M
    refine g_aload_n C 0 dX9_readNot_0 (q := 1) rfl rfl rfl ?_
    refine g_get C (k := 32) (i := 3) (by decide) (gc_32 Y _ _) rfl kU_X9 (by decide) kF_X9_39 rfl dX9_readNot_1 (q := 4) rfl ?_
    refine g_bipush C (v := 11) dX9_readNot_4 (q := 6) rfl (by decide) ?_
    have hif := g_if h
    clear h
    refine g_icmp_eq C dX9_readNot_6 (q := 9) (tgt := 15) rfl (by decide) (fun c => ?_) (fun c => ?_)
    · have h := hif.1 c
      clear hif
      refine g_iload_n C 1 dX9_readNot_15 (q := 16) rfl rfl rfl ?_
      refine g_bipush C (v := 6) dX9_readNot_16 (q := 18) rfl (by decide) ?_
      have hif := g_if h
      clear h
      refine g_icmp_lt C dX9_readNot_18 (q := 21) (tgt := 23) rfl (by decide) (fun c => ?_) (fun c => ?_)
      · have h := hif.1 c
        clear hif
        refine g_aload_n C 0 dX9_readNot_23 (q := 24) rfl rfl rfl ?_
        obtain ⟨p1, hp1, h⟩ := g_bind h
        refine g_callV C (k := 32) (as := []) (st := []) (m_X9_advance hp1) (g_hR (by omega)) (by decide) (by decide) (gc_32 Y _ _) rfl kM_X9_29 kI_X9_advance kS_X9_advance kN_X9 kC_X9_advance kD_X9_advance rfl (Nat.le_of_ble_eq_true rfl) dX9_readNot_24 (q := 27) rfl ?_
        show g_G 3 X Y 27 [(0, g_r Y 32), (1, .int x1)] [] p1
        refine g_aload_n C 0 dX9_readNot_27 (q := 28) rfl rfl rfl ?_
        refine g_iload_n C 1 dX9_readNot_28 (q := 29) rfl rfl rfl ?_
        refine g_iconst C (v := 1) dX9_readNot_29 (q := 30) rfl (by decide) ?_
        refine g_iadd C dX9_readNot_30 (q := 31) rfl ?_
        obtain ⟨p2, hp2, h⟩ := g_bind h
        refine g_callV C (k := 32) (as := [.int (x1 + 1)]) (st := []) (hN _ _ _ hp2) (g_hR (by omega)) (by decide) (by decide) (gc_32 Y _ _) rfl kM_X9_54 kI_X9_readNot kS_X9_readNot kN_X9 kC_X9_readNot kD_X9_readNot rfl (Nat.le_of_ble_eq_true rfl) dX9_readNot_31 (q := 34) rfl ?_
        show g_G 3 X Y 34 [(0, g_r Y 32), (1, .int x1)] [.int p2.1] p2.2
        refine g_istore_n C dX9_readNot_34 (q := 35) rfl rfl (by decide) (lv' := [(2, .int p2.1), (0, g_r Y 32), (1, .int x1)]) rfl ?_
        refine g_aload_n C 1 dX9_readNot_35 (q := 36) rfl rfl rfl ?_
        refine g_iconst C (v := 4) dX9_readNot_36 (q := 37) rfl (by decide) ?_
        refine g_iconst C (v := 0) dX9_readNot_37 (q := 38) rfl (by decide) ?_
        refine g_iconst C (v := 0) dX9_readNot_38 (q := 39) rfl (by decide) ?_
        obtain ⟨p3, hp3, h⟩ := g_bind h
        refine g_callV C (k := 32) (as := [.int 4, .int 0, .int 0]) (st := []) (m_X9_emit hp3) (g_hR (by omega)) (by decide) (by decide) (gc_32 Y _ _) rfl kM_X9_44 kI_X9_emit kS_X9_emit kN_X9 kC_X9_emit kD_X9_emit rfl (Nat.le_of_ble_eq_true rfl) dX9_readNot_39 (q := 42) rfl ?_
        show g_G 3 X Y 42 [(2, .int p2.1), (0, g_r Y 32), (1, .int x1)] [.int p3.1] p3.2
        refine g_pop C dX9_readNot_42 (q := 43) rfl rfl ?_
        refine g_iload_n C 0 dX9_readNot_43 (q := 44) rfl rfl rfl ?_
        obtain ⟨z4, hz4, h⟩ := g_bind h
        obtain rfl := Option.some.inj h
        exact g_zret C hz4 E dX9_readNot_44
      · have h := hif.2 c
        clear hif
        refine g_iconst C (v := 0) dX9_readNot_21 (q := 22) rfl (by decide) ?_
        obtain rfl := Option.some.inj h
        exact g_zret C (g_bz_lit (by decide)) E dX9_readNot_22
    · have h := hif.2 c
      clear hif
      refine g_aload_n C 0 dX9_readNot_9 (q := 10) rfl rfl rfl ?_
      refine g_iload_n C 1 dX9_readNot_10 (q := 11) rfl rfl rfl ?_
      obtain ⟨p5, hp5, h⟩ := g_bind h
      refine g_callV C (k := 32) (as := [.int x1]) (st := []) (m_X9_readOne kE hh hE hp5) (g_hR (by omega)) (by decide) (by decide) (gc_32 Y _ _) rfl kM_X9_57 kI_X9_readOne kS_X9_readOne kN_X9 kC_X9_readOne kD_X9_readOne rfl (Nat.le_of_ble_eq_true rfl) dX9_readNot_11 (q := 14) rfl ?_
      show g_G 3 X Y 14 [(0, g_r Y 32), (1, .int x1)] [.int p5.1] p5.2
      obtain ⟨z6, hz6, h⟩ := g_bind h
      obtain rfl := Option.some.inj h
      exact g_zret C hz6 E dX9_readNot_14
theorem r_X9_readNot {kE : Int32 → g_M → Option (Int32 × g_M)} (hE : ∀ (x1 : Int32) (M : g_M) (p : Int32 × g_M), kE x1 M = some p → g_fr [35] [(32, 2), (32, 3), (32, 4), (32, 5), (32, 6), (32, 7)] M p.2) (d : Nat) : ∀ (x1 : Int32) (M : g_M) (p : Int32 × g_M), f_X9_readNot kE d x1 M = some p → g_fr [35] [(32, 2), (32, 3), (32, 4), (32, 5), (32, 6), (32, 7)] M p.2 := by
  induction d with
  | zero => intro x1 M p h; exact (g_nn h).elim
  | succ d hN =>
    intro x1 M p h
    have h : F_X9_readNot kE (g_lp1 (F_X9_readNot kE) d) x1 M = some p := h
    have hN : ∀ (x1 : Int32) (M : g_M) (p : Int32 × g_M), g_lp1 (F_X9_readNot kE) d x1 M = some p → g_fr [35] [(32, 2), (32, 3), (32, 4), (32, 5), (32, 6), (32, 7)] M p.2 := hN
    generalize g_lp1 (F_X9_readNot kE) d = kN at h hN
    unfold F_X9_readNot at h
    have hf := g_fr.rfl (S := [35]) (T := [(32, 2), (32, 3), (32, 4), (32, 5), (32, 6), (32, 7)]) (M := M)
    rcases g_ifs h with h | h
    · rcases g_ifs h with h | h
      · obtain ⟨p1, hp1, h⟩ := g_bind h
        have hf := hf.trans ((r_X9_advance hp1).mono (by decide) (by decide))
        obtain ⟨p2, hp2, h⟩ := g_bind h
        have hf := hf.trans ((hN _ _ _ hp2).mono (by decide) (by decide))
        obtain ⟨p3, hp3, h⟩ := g_bind h
        have hf := hf.trans ((r_X9_emit hp3).mono (by decide) (by decide))
        obtain ⟨z4, -, h⟩ := g_bind h
        obtain rfl := Option.some.inj h
        exact hf
      · obtain rfl := Option.some.inj h
        exact hf
    · obtain ⟨p5, hp5, h⟩ := g_bind h
      have hf := hf.trans ((r_X9_readOne hE hp5).mono (by decide) (by decide))
      obtain ⟨z6, -, h⟩ := g_bind h
      obtain rfl := Option.some.inj h
      exact hf
def F_X9_readBoth_8 (kE : Int32 → g_M → Option (Int32 × g_M)) (k51 : Int32 → g_M → Option (Int32 × g_M)) (k : Int32 → Int32 → Int32 → g_M → Option (Int32 × g_M)) (x1 : Int32) (x2 : Int32) (x3 : Int32) (M : g_M) : Option (Int32 × g_M) :=
  (if x2 = 0 then (k51 x2 M) else ((if (M.1 32 3) = 10 then ((if 120 ≤ x3 then (k51 x2 M) else ((f_X9_advance M).bind fun p2 => (f_X9_readNot kE 8 x1 p2).bind fun p3 => (f_X9_emit 5 0 0 p3.2).bind fun p4 => k x1 p3.1 (x3 + 1) p4.2))) else (k51 x2 M))))
set_option maxRecDepth 100000 in
theorem t_X9_readBoth_8 {l : Launch} {X : g_X} {Y : g_Y} {p : Int32 × g_M} {kE : Int32 → g_M → Option (Int32 × g_M)} {k51 : Int32 → g_M → Option (Int32 × g_M)} (hh : Nat) (hE : ∀ (x1 : Int32) (M : g_M) (p : Int32 × g_M), kE x1 M = some p → g_R l Y (hh) yX9_readEither cX9_readEither 4 (some .boolean) [g_r Y 32, .int x1] M (some (.int p.1)) p.2) (C : g_C l (g_rm (hh + 22)) RX9 cX9_readBoth 4 X Y) (E : g_E (some .boolean) X Y (some (.int p.1)) p.2) (hk51 : ∀ (x2 : Int32) (M : g_M), k51 x2 M = some p → g_G 4 X Y 51 [(2, .int x2)] [] M) (n : Nat) : ∀ (x1 : Int32) (x2 : Int32) (x3 : Int32) (M : g_M), g_lp3 (F_X9_readBoth_8 kE k51) n x1 x2 x3 M = some p → g_G 4 X Y 8 [(0, g_r Y 32), (1, .int x1), (2, .int x2), (3, .int x3)] [] M := by
  induction n with
  | zero => intro x1 x2 x3 M h; exact (g_nn h).elim
  | succ n ih =>
    intro x1 x2 x3 M h
    have h : F_X9_readBoth_8 kE k51 (g_lp3 (F_X9_readBoth_8 kE k51) n) x1 x2 x3 M = some p := h
    generalize g_lp3 (F_X9_readBoth_8 kE k51) n = k at h ih
    unfold F_X9_readBoth_8 at h
    refine g_iload_n C 2 dX9_readBoth_8 (q := 9) rfl rfl rfl ?_
    have hif := g_if h
    clear h
    refine g_if_eq C dX9_readBoth_9 (q := 12) (tgt := 51) rfl (by decide) (fun c => ?_) (fun c => ?_)
    · have h := hif.1 c
      clear hif
      refine g_sub [2] (lv' := [(2, .int x2)]) rfl ?_
      exact hk51 x2 M h
    · have h := hif.2 c
      clear hif
      refine g_aload_n C 0 dX9_readBoth_12 (q := 13) rfl rfl rfl ?_
      refine g_get C (k := 32) (i := 3) (by decide) (gc_32 Y _ _) rfl kU_X9 (by decide) kF_X9_39 rfl dX9_readBoth_13 (q := 16) rfl ?_
      refine g_bipush C (v := 10) dX9_readBoth_16 (q := 18) rfl (by decide) ?_
      have hif := g_if h
      clear h
      refine g_icmp_ne C dX9_readBoth_18 (q := 21) (tgt := 51) rfl (by decide) (fun c => ?_) (fun c => ?_)
      · have h := hif.2 c
        clear hif
        refine g_sub [2] (lv' := [(2, .int x2)]) rfl ?_
        exact hk51 x2 M h
      · have h := hif.1 c
        clear hif
        refine g_iload_n C 3 dX9_readBoth_21 (q := 22) rfl rfl rfl ?_
        refine g_bipush C (v := 120) dX9_readBoth_22 (q := 24) rfl (by decide) ?_
        have hif := g_if h
        clear h
        refine g_icmp_ge C dX9_readBoth_24 (q := 27) (tgt := 51) rfl (by decide) (fun c => ?_) (fun c => ?_)
        · have h := hif.1 c
          clear hif
          refine g_sub [2] (lv' := [(2, .int x2)]) rfl ?_
          exact hk51 x2 M h
        · have h := hif.2 c
          clear hif
          refine g_aload_n C 0 dX9_readBoth_27 (q := 28) rfl rfl rfl ?_
          obtain ⟨p2, hp2, h⟩ := g_bind h
          refine g_callV C (k := 32) (as := []) (st := []) (m_X9_advance hp2) (g_hR (by omega)) (by decide) (by decide) (gc_32 Y _ _) rfl kM_X9_29 kI_X9_advance kS_X9_advance kN_X9 kC_X9_advance kD_X9_advance rfl (Nat.le_of_ble_eq_true rfl) dX9_readBoth_28 (q := 31) rfl ?_
          show g_G 4 X Y 31 [(0, g_r Y 32), (1, .int x1), (2, .int x2), (3, .int x3)] [] p2
          refine g_aload_n C 0 dX9_readBoth_31 (q := 32) rfl rfl rfl ?_
          refine g_iload_n C 1 dX9_readBoth_32 (q := 33) rfl rfl rfl ?_
          obtain ⟨p3, hp3, h⟩ := g_bind h
          refine g_callV C (k := 32) (as := [.int x1]) (st := []) (m_X9_readNot kE hh hE 8 _ _ _ hp3) (g_hR (by omega)) (by decide) (by decide) (gc_32 Y _ _) rfl kM_X9_54 kI_X9_readNot kS_X9_readNot kN_X9 kC_X9_readNot kD_X9_readNot rfl (Nat.le_of_ble_eq_true rfl) dX9_readBoth_33 (q := 36) rfl ?_
          show g_G 4 X Y 36 [(0, g_r Y 32), (1, .int x1), (2, .int x2), (3, .int x3)] [.int p3.1] p3.2
          refine g_istore_n C dX9_readBoth_36 (q := 37) rfl rfl (by decide) (lv' := [(2, .int p3.1), (0, g_r Y 32), (1, .int x1), (3, .int x3)]) rfl ?_
          refine g_aload_n C 1 dX9_readBoth_37 (q := 38) rfl rfl rfl ?_
          refine g_iconst C (v := 5) dX9_readBoth_38 (q := 39) rfl (by decide) ?_
          refine g_iconst C (v := 0) dX9_readBoth_39 (q := 40) rfl (by decide) ?_
          refine g_iconst C (v := 0) dX9_readBoth_40 (q := 41) rfl (by decide) ?_
          obtain ⟨p4, hp4, h⟩ := g_bind h
          refine g_callV C (k := 32) (as := [.int 5, .int 0, .int 0]) (st := []) (m_X9_emit hp4) (g_hR (by omega)) (by decide) (by decide) (gc_32 Y _ _) rfl kM_X9_44 kI_X9_emit kS_X9_emit kN_X9 kC_X9_emit kD_X9_emit rfl (Nat.le_of_ble_eq_true rfl) dX9_readBoth_41 (q := 44) rfl ?_
          show g_G 4 X Y 44 [(2, .int p3.1), (0, g_r Y 32), (1, .int x1), (3, .int x3)] [.int p4.1] p4.2
          refine g_pop C dX9_readBoth_44 (q := 45) rfl rfl ?_
          refine g_iinc C (k := 3) (v := x3 + 1) dX9_readBoth_45 (q := 48) rfl rfl rfl (by decide) (lv' := [(3, .int (x3 + 1)), (2, .int p3.1), (0, g_r Y 32), (1, .int x1)]) rfl ?_
          refine g_goto C dX9_readBoth_48 (tgt := 8) (by decide) ?_
          refine g_sub [2, 3, 1, 0] (lv' := [(0, g_r Y 32), (1, .int x1), (2, .int p3.1), (3, .int (x3 + 1))]) rfl ?_
          exact ih x1 p3.1 (x3 + 1) p4.2 h
theorem r_X9_readBoth_8 {p : Int32 × g_M} {kE : Int32 → g_M → Option (Int32 × g_M)} {k51 : Int32 → g_M → Option (Int32 × g_M)} (hE : ∀ (x1 : Int32) (M : g_M) (p : Int32 × g_M), kE x1 M = some p → g_fr [35] [(32, 2), (32, 3), (32, 4), (32, 5), (32, 6), (32, 7)] M p.2) (hk51 : ∀ (x2 : Int32) (M : g_M), k51 x2 M = some p → g_fr [35] [(32, 2), (32, 3), (32, 4), (32, 5), (32, 6), (32, 7)] M p.2) (n : Nat) : ∀ (x1 : Int32) (x2 : Int32) (x3 : Int32) (M : g_M), g_lp3 (F_X9_readBoth_8 kE k51) n x1 x2 x3 M = some p → g_fr [35] [(32, 2), (32, 3), (32, 4), (32, 5), (32, 6), (32, 7)] M p.2 := by
  induction n with
  | zero => intro x1 x2 x3 M h; exact (g_nn h).elim
  | succ n ih =>
    intro x1 x2 x3 M h
    have h : F_X9_readBoth_8 kE k51 (g_lp3 (F_X9_readBoth_8 kE k51) n) x1 x2 x3 M = some p := h
    generalize g_lp3 (F_X9_readBoth_8 kE k51) n = k at h ih
    unfold F_X9_readBoth_8 at h
    have hf := g_fr.rfl (S := [35]) (T := [(32, 2), (32, 3), (32, 4), (32, 5), (32, 6), (32, 7)]) (M := M)
    rcases g_ifs h with h | h
    · exact hf.trans (hk51 x2 M h)
    · rcases g_ifs h with h | h
      · rcases g_ifs h with h | h
        · exact hf.trans (hk51 x2 M h)
        · obtain ⟨p2, hp2, h⟩ := g_bind h
          have hf := hf.trans ((r_X9_advance hp2).mono (by decide) (by decide))
          obtain ⟨p3, hp3, h⟩ := g_bind h
          have hf := hf.trans ((r_X9_readNot hE 8 _ _ _ hp3).mono (by decide) (by decide))
          obtain ⟨p4, hp4, h⟩ := g_bind h
          have hf := hf.trans ((r_X9_emit hp4).mono (by decide) (by decide))
          exact hf.trans (ih x1 p3.1 (x3 + 1) p4.2 h)
      · exact hf.trans (hk51 x2 M h)
def f_X9_readBoth (kE : Int32 → g_M → Option (Int32 × g_M)) (x1 : Int32) (M : g_M) : Option (Int32 × g_M) :=
  (f_X9_readNot kE 8 x1 M).bind fun p1 => g_lp3 (F_X9_readBoth_8 kE (fun (x2 : Int32) (M : g_M) => (g_bz x2).bind fun z5 => some (z5, M))) 20000000 x1 p1.1 0 p1.2
set_option maxRecDepth 100000 in
theorem m_X9_readBoth {l : Launch} {Y : g_Y} (kE : Int32 → g_M → Option (Int32 × g_M)) (hh : Nat) (hE : ∀ (x1 : Int32) (M : g_M) (p : Int32 × g_M), kE x1 M = some p → g_R l Y (hh) yX9_readEither cX9_readEither 4 (some .boolean) [g_r Y 32, .int x1] M (some (.int p.1)) p.2) {x1 : Int32} {M : g_M} {p : Int32 × g_M} (h : f_X9_readBoth kE x1 M = some p) : g_R l Y (hh + 22) yX9_readBoth cX9_readBoth 4 (some .boolean) [g_r Y 32, .int x1] M (some (.int p.1)) p.2 := by
  unfold f_X9_readBoth at h
  refine g_R_of kP_X9 rfl (Nat.le_of_ble_eq_true rfl) (fun X C E => ?_)
  show g_G 4 X Y 0 [(0, g_r Y 32), (1, .int x1)] [] M
  refine g_aload_n C 0 dX9_readBoth_0 (q := 1) rfl rfl rfl ?_
  refine g_iload_n C 1 dX9_readBoth_1 (q := 2) rfl rfl rfl ?_
  obtain ⟨p1, hp1, h⟩ := g_bind h
  refine g_callV C (k := 32) (as := [.int x1]) (st := []) (m_X9_readNot kE hh hE 8 _ _ _ hp1) (g_hR (by omega)) (by decide) (by decide) (gc_32 Y _ _) rfl kM_X9_54 kI_X9_readNot kS_X9_readNot kN_X9 kC_X9_readNot kD_X9_readNot rfl (Nat.le_of_ble_eq_true rfl) dX9_readBoth_2 (q := 5) rfl ?_
  show g_G 4 X Y 5 [(0, g_r Y 32), (1, .int x1)] [.int p1.1] p1.2
  refine g_istore_n C dX9_readBoth_5 (q := 6) rfl rfl (by decide) (lv' := [(2, .int p1.1), (0, g_r Y 32), (1, .int x1)]) rfl ?_
  refine g_iconst C (v := 0) dX9_readBoth_6 (q := 7) rfl (by decide) ?_
  refine g_istore_n C dX9_readBoth_7 (q := 8) rfl rfl (by decide) (lv' := [(3, .int 0), (2, .int p1.1), (0, g_r Y 32), (1, .int x1)]) rfl ?_
  refine g_sub [2, 3, 1, 0] (lv' := [(0, g_r Y 32), (1, .int x1), (2, .int p1.1), (3, .int 0)]) rfl ?_
  refine t_X9_readBoth_8 hh hE C E ?_ 20000000 x1 p1.1 0 p1.2 h
  · intro x2 M h
    try dsimp only at h
    refine g_iload_n C 0 dX9_readBoth_51 (q := 52) rfl rfl rfl ?_
    obtain ⟨z5, hz5, h⟩ := g_bind h
    obtain rfl := Option.some.inj h
    exact g_zret C hz5 E dX9_readBoth_52
theorem r_X9_readBoth {kE : Int32 → g_M → Option (Int32 × g_M)} (hE : ∀ (x1 : Int32) (M : g_M) (p : Int32 × g_M), kE x1 M = some p → g_fr [35] [(32, 2), (32, 3), (32, 4), (32, 5), (32, 6), (32, 7)] M p.2) {x1 : Int32} {M : g_M} {p : Int32 × g_M} (h : f_X9_readBoth kE x1 M = some p) : g_fr [35] [(32, 2), (32, 3), (32, 4), (32, 5), (32, 6), (32, 7)] M p.2 := by
  unfold f_X9_readBoth at h
  have hf := g_fr.rfl (S := [35]) (T := [(32, 2), (32, 3), (32, 4), (32, 5), (32, 6), (32, 7)]) (M := M)
  obtain ⟨p1, hp1, h⟩ := g_bind h
  have hf := hf.trans ((r_X9_readNot hE 8 _ _ _ hp1).mono (by decide) (by decide))
  refine hf.trans (r_X9_readBoth_8 hE ?_ 20000000 x1 p1.1 0 p1.2 h)
  · intro x2 M h
    try dsimp only at h
    have hf := g_fr.rfl (S := [35]) (T := [(32, 2), (32, 3), (32, 4), (32, 5), (32, 6), (32, 7)]) (M := M)
    obtain ⟨z5, -, h⟩ := g_bind h
    obtain rfl := Option.some.inj h
    exact hf
def F_X9_readEither_8 (kE : Int32 → g_M → Option (Int32 × g_M)) (k52 : Int32 → g_M → Option (Int32 × g_M)) (k : Int32 → Int32 → Int32 → g_M → Option (Int32 × g_M)) (x1 : Int32) (x2 : Int32) (x3 : Int32) (M : g_M) : Option (Int32 × g_M) :=
  (if x2 = 0 then (k52 x2 M) else ((if (M.1 32 3) = 9 then ((if 120 ≤ x3 then (k52 x2 M) else ((f_X9_advance M).bind fun p2 => (f_X9_readBoth kE x1 p2).bind fun p3 => (f_X9_emit 6 0 0 p3.2).bind fun p4 => k x1 p3.1 (x3 + 1) p4.2))) else (k52 x2 M))))
set_option maxRecDepth 100000 in
theorem t_X9_readEither_8 {l : Launch} {X : g_X} {Y : g_Y} {p : Int32 × g_M} {kE : Int32 → g_M → Option (Int32 × g_M)} {k52 : Int32 → g_M → Option (Int32 × g_M)} (d : Nat) (hE : ∀ (x1 : Int32) (M : g_M) (p : Int32 × g_M), kE x1 M = some p → g_R l Y (23 * d) yX9_readEither cX9_readEither 4 (some .boolean) [g_r Y 32, .int x1] M (some (.int p.1)) p.2) (C : g_C l (g_rm (23 * (d + 1))) RX9 cX9_readEither 4 X Y) (E : g_E (some .boolean) X Y (some (.int p.1)) p.2) (hk52 : ∀ (x2 : Int32) (M : g_M), k52 x2 M = some p → g_G 4 X Y 52 [(2, .int x2)] [] M) (n : Nat) : ∀ (x1 : Int32) (x2 : Int32) (x3 : Int32) (M : g_M), g_lp3 (F_X9_readEither_8 kE k52) n x1 x2 x3 M = some p → g_G 4 X Y 8 [(0, g_r Y 32), (1, .int x1), (2, .int x2), (3, .int x3)] [] M := by
  induction n with
  | zero => intro x1 x2 x3 M h; exact (g_nn h).elim
  | succ n ih =>
    intro x1 x2 x3 M h
    have h : F_X9_readEither_8 kE k52 (g_lp3 (F_X9_readEither_8 kE k52) n) x1 x2 x3 M = some p := h
    generalize g_lp3 (F_X9_readEither_8 kE k52) n = k at h ih
    unfold F_X9_readEither_8 at h
    refine g_iload_n C 2 dX9_readEither_8 (q := 9) rfl rfl rfl ?_
    have hif := g_if h
    clear h
    refine g_if_eq C dX9_readEither_9 (q := 12) (tgt := 52) rfl (by decide) (fun c => ?_) (fun c => ?_)
    · have h := hif.1 c
      clear hif
      refine g_sub [2] (lv' := [(2, .int x2)]) rfl ?_
      exact hk52 x2 M h
    · have h := hif.2 c
      clear hif
      refine g_aload_n C 0 dX9_readEither_12 (q := 13) rfl rfl rfl ?_
      refine g_get C (k := 32) (i := 3) (by decide) (gc_32 Y _ _) rfl kU_X9 (by decide) kF_X9_39 rfl dX9_readEither_13 (q := 16) rfl ?_
      refine g_bipush C (v := 9) dX9_readEither_16 (q := 18) rfl (by decide) ?_
      have hif := g_if h
      clear h
      refine g_icmp_ne C dX9_readEither_18 (q := 21) (tgt := 52) rfl (by decide) (fun c => ?_) (fun c => ?_)
      · have h := hif.2 c
        clear hif
        refine g_sub [2] (lv' := [(2, .int x2)]) rfl ?_
        exact hk52 x2 M h
      · have h := hif.1 c
        clear hif
        refine g_iload_n C 3 dX9_readEither_21 (q := 22) rfl rfl rfl ?_
        refine g_bipush C (v := 120) dX9_readEither_22 (q := 24) rfl (by decide) ?_
        have hif := g_if h
        clear h
        refine g_icmp_ge C dX9_readEither_24 (q := 27) (tgt := 52) rfl (by decide) (fun c => ?_) (fun c => ?_)
        · have h := hif.1 c
          clear hif
          refine g_sub [2] (lv' := [(2, .int x2)]) rfl ?_
          exact hk52 x2 M h
        · have h := hif.2 c
          clear hif
          refine g_aload_n C 0 dX9_readEither_27 (q := 28) rfl rfl rfl ?_
          obtain ⟨p2, hp2, h⟩ := g_bind h
          refine g_callV C (k := 32) (as := []) (st := []) (m_X9_advance hp2) (g_hR (by omega)) (by decide) (by decide) (gc_32 Y _ _) rfl kM_X9_29 kI_X9_advance kS_X9_advance kN_X9 kC_X9_advance kD_X9_advance rfl (Nat.le_of_ble_eq_true rfl) dX9_readEither_28 (q := 31) rfl ?_
          show g_G 4 X Y 31 [(0, g_r Y 32), (1, .int x1), (2, .int x2), (3, .int x3)] [] p2
          refine g_aload_n C 0 dX9_readEither_31 (q := 32) rfl rfl rfl ?_
          refine g_iload_n C 1 dX9_readEither_32 (q := 33) rfl rfl rfl ?_
          obtain ⟨p3, hp3, h⟩ := g_bind h
          refine g_callV C (k := 32) (as := [.int x1]) (st := []) (m_X9_readBoth kE (23 * d) hE hp3) (g_hR (by omega)) (by decide) (by decide) (gc_32 Y _ _) rfl kM_X9_51 kI_X9_readBoth kS_X9_readBoth kN_X9 kC_X9_readBoth kD_X9_readBoth rfl (Nat.le_of_ble_eq_true rfl) dX9_readEither_33 (q := 36) rfl ?_
          show g_G 4 X Y 36 [(0, g_r Y 32), (1, .int x1), (2, .int x2), (3, .int x3)] [.int p3.1] p3.2
          refine g_istore_n C dX9_readEither_36 (q := 37) rfl rfl (by decide) (lv' := [(2, .int p3.1), (0, g_r Y 32), (1, .int x1), (3, .int x3)]) rfl ?_
          refine g_aload_n C 1 dX9_readEither_37 (q := 38) rfl rfl rfl ?_
          refine g_bipush C (v := 6) dX9_readEither_38 (q := 40) rfl (by decide) ?_
          refine g_iconst C (v := 0) dX9_readEither_40 (q := 41) rfl (by decide) ?_
          refine g_iconst C (v := 0) dX9_readEither_41 (q := 42) rfl (by decide) ?_
          obtain ⟨p4, hp4, h⟩ := g_bind h
          refine g_callV C (k := 32) (as := [.int 6, .int 0, .int 0]) (st := []) (m_X9_emit hp4) (g_hR (by omega)) (by decide) (by decide) (gc_32 Y _ _) rfl kM_X9_44 kI_X9_emit kS_X9_emit kN_X9 kC_X9_emit kD_X9_emit rfl (Nat.le_of_ble_eq_true rfl) dX9_readEither_42 (q := 45) rfl ?_
          show g_G 4 X Y 45 [(2, .int p3.1), (0, g_r Y 32), (1, .int x1), (3, .int x3)] [.int p4.1] p4.2
          refine g_pop C dX9_readEither_45 (q := 46) rfl rfl ?_
          refine g_iinc C (k := 3) (v := x3 + 1) dX9_readEither_46 (q := 49) rfl rfl rfl (by decide) (lv' := [(3, .int (x3 + 1)), (2, .int p3.1), (0, g_r Y 32), (1, .int x1)]) rfl ?_
          refine g_goto C dX9_readEither_49 (tgt := 8) (by decide) ?_
          refine g_sub [2, 3, 1, 0] (lv' := [(0, g_r Y 32), (1, .int x1), (2, .int p3.1), (3, .int (x3 + 1))]) rfl ?_
          exact ih x1 p3.1 (x3 + 1) p4.2 h
theorem r_X9_readEither_8 {p : Int32 × g_M} {kE : Int32 → g_M → Option (Int32 × g_M)} {k52 : Int32 → g_M → Option (Int32 × g_M)} (hE : ∀ (x1 : Int32) (M : g_M) (p : Int32 × g_M), kE x1 M = some p → g_fr [35] [(32, 2), (32, 3), (32, 4), (32, 5), (32, 6), (32, 7)] M p.2) (hk52 : ∀ (x2 : Int32) (M : g_M), k52 x2 M = some p → g_fr [35] [(32, 2), (32, 3), (32, 4), (32, 5), (32, 6), (32, 7)] M p.2) (n : Nat) : ∀ (x1 : Int32) (x2 : Int32) (x3 : Int32) (M : g_M), g_lp3 (F_X9_readEither_8 kE k52) n x1 x2 x3 M = some p → g_fr [35] [(32, 2), (32, 3), (32, 4), (32, 5), (32, 6), (32, 7)] M p.2 := by
  induction n with
  | zero => intro x1 x2 x3 M h; exact (g_nn h).elim
  | succ n ih =>
    intro x1 x2 x3 M h
    have h : F_X9_readEither_8 kE k52 (g_lp3 (F_X9_readEither_8 kE k52) n) x1 x2 x3 M = some p := h
    generalize g_lp3 (F_X9_readEither_8 kE k52) n = k at h ih
    unfold F_X9_readEither_8 at h
    have hf := g_fr.rfl (S := [35]) (T := [(32, 2), (32, 3), (32, 4), (32, 5), (32, 6), (32, 7)]) (M := M)
    rcases g_ifs h with h | h
    · exact hf.trans (hk52 x2 M h)
    · rcases g_ifs h with h | h
      · rcases g_ifs h with h | h
        · exact hf.trans (hk52 x2 M h)
        · obtain ⟨p2, hp2, h⟩ := g_bind h
          have hf := hf.trans ((r_X9_advance hp2).mono (by decide) (by decide))
          obtain ⟨p3, hp3, h⟩ := g_bind h
          have hf := hf.trans ((r_X9_readBoth hE hp3).mono (by decide) (by decide))
          obtain ⟨p4, hp4, h⟩ := g_bind h
          have hf := hf.trans ((r_X9_emit hp4).mono (by decide) (by decide))
          exact hf.trans (ih x1 p3.1 (x3 + 1) p4.2 h)
      · exact hf.trans (hk52 x2 M h)
def F_X9_readEither (kE : Int32 → g_M → Option (Int32 × g_M)) (x1 : Int32) (M : g_M) : Option (Int32 × g_M) :=
  (f_X9_readBoth kE x1 M).bind fun p1 => g_lp3 (F_X9_readEither_8 kE (fun (x2 : Int32) (M : g_M) => (g_bz x2).bind fun z5 => some (z5, M))) 20000000 x1 p1.1 0 p1.2
def f_X9_readEither (d : Nat) (x1 : Int32) (M : g_M) : Option (Int32 × g_M) := g_lp1 (F_X9_readEither) d x1 M
set_option maxRecDepth 100000 in
theorem m_X9_readEither {l : Launch} {Y : g_Y} (d : Nat) : ∀ (x1 : Int32) (M : g_M) (p : Int32 × g_M), f_X9_readEither d x1 M = some p → g_R l Y (23 * d) yX9_readEither cX9_readEither 4 (some .boolean) [g_r Y 32, .int x1] M (some (.int p.1)) p.2 := by
  induction d with
  | zero => intro x1 M p h; exact (g_nn h).elim
  | succ d hE =>
    intro x1 M p h
    have h : F_X9_readEither (g_lp1 (F_X9_readEither) d) x1 M = some p := h
    have hE : ∀ (x1 : Int32) (M : g_M) (p : Int32 × g_M), g_lp1 (F_X9_readEither) d x1 M = some p → g_R l Y (23 * d) yX9_readEither cX9_readEither 4 (some .boolean) [g_r Y 32, .int x1] M (some (.int p.1)) p.2 := hE
    generalize g_lp1 (F_X9_readEither) d = kE at h hE
    unfold F_X9_readEither at h
    refine g_R_of kP_X9 rfl (Nat.le_of_ble_eq_true rfl) (fun X C E => ?_)
    show g_G 4 X Y 0 [(0, g_r Y 32), (1, .int x1)] [] M
    refine g_aload_n C 0 dX9_readEither_0 (q := 1) rfl rfl rfl ?_
    refine g_iload_n C 1 dX9_readEither_1 (q := 2) rfl rfl rfl ?_
    obtain ⟨p1, hp1, h⟩ := g_bind h
    refine g_callV C (k := 32) (as := [.int x1]) (st := []) (m_X9_readBoth kE (23 * d) hE hp1) (g_hR (by omega)) (by decide) (by decide) (gc_32 Y _ _) rfl kM_X9_51 kI_X9_readBoth kS_X9_readBoth kN_X9 kC_X9_readBoth kD_X9_readBoth rfl (Nat.le_of_ble_eq_true rfl) dX9_readEither_2 (q := 5) rfl ?_
    show g_G 4 X Y 5 [(0, g_r Y 32), (1, .int x1)] [.int p1.1] p1.2
    refine g_istore_n C dX9_readEither_5 (q := 6) rfl rfl (by decide) (lv' := [(2, .int p1.1), (0, g_r Y 32), (1, .int x1)]) rfl ?_
    refine g_iconst C (v := 0) dX9_readEither_6 (q := 7) rfl (by decide) ?_
    refine g_istore_n C dX9_readEither_7 (q := 8) rfl rfl (by decide) (lv' := [(3, .int 0), (2, .int p1.1), (0, g_r Y 32), (1, .int x1)]) rfl ?_
    refine g_sub [2, 3, 1, 0] (lv' := [(0, g_r Y 32), (1, .int x1), (2, .int p1.1), (3, .int 0)]) rfl ?_
    refine t_X9_readEither_8 d hE C E ?_ 20000000 x1 p1.1 0 p1.2 h
    · intro x2 M h
      try dsimp only at h
      refine g_iload_n C 0 dX9_readEither_52 (q := 53) rfl rfl rfl ?_
      obtain ⟨z5, hz5, h⟩ := g_bind h
      obtain rfl := Option.some.inj h
      exact g_zret C hz5 E dX9_readEither_53
theorem r_X9_readEither (d : Nat) : ∀ (x1 : Int32) (M : g_M) (p : Int32 × g_M), f_X9_readEither d x1 M = some p → g_fr [35] [(32, 2), (32, 3), (32, 4), (32, 5), (32, 6), (32, 7)] M p.2 := by
  induction d with
  | zero => intro x1 M p h; exact (g_nn h).elim
  | succ d hE =>
    intro x1 M p h
    have h : F_X9_readEither (g_lp1 (F_X9_readEither) d) x1 M = some p := h
    have hE : ∀ (x1 : Int32) (M : g_M) (p : Int32 × g_M), g_lp1 (F_X9_readEither) d x1 M = some p → g_fr [35] [(32, 2), (32, 3), (32, 4), (32, 5), (32, 6), (32, 7)] M p.2 := hE
    generalize g_lp1 (F_X9_readEither) d = kE at h hE
    unfold F_X9_readEither at h
    have hf := g_fr.rfl (S := [35]) (T := [(32, 2), (32, 3), (32, 4), (32, 5), (32, 6), (32, 7)]) (M := M)
    obtain ⟨p1, hp1, h⟩ := g_bind h
    have hf := hf.trans ((r_X9_readBoth hE hp1).mono (by decide) (by decide))
    refine hf.trans (r_X9_readEither_8 hE ?_ 20000000 x1 p1.1 0 p1.2 h)
    · intro x2 M h
      try dsimp only at h
      have hf := g_fr.rfl (S := [35]) (T := [(32, 2), (32, 3), (32, 4), (32, 5), (32, 6), (32, 7)]) (M := M)
      obtain ⟨z5, -, h⟩ := g_bind h
      obtain rfl := Option.some.inj h
      exact hf
def f_X9_readTape_76 (x1 : Int32) (M : g_M) : Option (Int32 × g_M) :=
  (if x1 = 0 then (some (M.1 32 4, M)) else ((if (M.1 32 3) = 0 then (some ((-1), M)) else (some (M.1 32 4, M)))))
set_option maxRecDepth 100000 in
theorem t_X9_readTape_76 {l : Launch} {X : g_X} {Y : g_Y} {p : Int32 × g_M} (C : g_C l (g_rm (200)) RX9 cX9_readTape 2 X Y) (E : g_E (some .int) X Y (some (.int p.1)) p.2) (x1 : Int32) (M : g_M) (h : f_X9_readTape_76 x1 M = some p) : g_G 2 X Y 76 [(0, g_r Y 32), (1, .int x1)] [] M := by
  unfold f_X9_readTape_76 at h
  refine g_iload_n C 1 dX9_readTape_76 (q := 77) rfl rfl rfl ?_
  have hif := g_if h
  clear h
  refine g_if_eq C dX9_readTape_77 (q := 80) (tgt := 91) rfl (by decide) (fun c => ?_) (fun c => ?_)
  · have h := hif.1 c
    clear hif
    refine g_aload_n C 0 dX9_readTape_91 (q := 92) rfl rfl rfl ?_
    refine g_get C (k := 32) (i := 4) (by decide) (gc_32 Y _ _) rfl kU_X9 (by decide) kF_X9_48 rfl dX9_readTape_92 (q := 95) rfl ?_
    obtain rfl := Option.some.inj h
    exact g_iret C E dX9_readTape_95
  · have h := hif.2 c
    clear hif
    refine g_aload_n C 0 dX9_readTape_80 (q := 81) rfl rfl rfl ?_
    refine g_get C (k := 32) (i := 3) (by decide) (gc_32 Y _ _) rfl kU_X9 (by decide) kF_X9_39 rfl dX9_readTape_81 (q := 84) rfl ?_
    have hif := g_if h
    clear h
    refine g_if_ne C dX9_readTape_84 (q := 87) (tgt := 91) rfl (by decide) (fun c => ?_) (fun c => ?_)
    · have h := hif.2 c
      clear hif
      refine g_aload_n C 0 dX9_readTape_91 (q := 92) rfl rfl rfl ?_
      refine g_get C (k := 32) (i := 4) (by decide) (gc_32 Y _ _) rfl kU_X9 (by decide) kF_X9_48 rfl dX9_readTape_92 (q := 95) rfl ?_
      obtain rfl := Option.some.inj h
      exact g_iret C E dX9_readTape_95
    · have h := hif.1 c
      clear hif
      refine g_iconst C (v := (-1)) dX9_readTape_87 (q := 88) rfl (by decide) ?_
      refine g_goto C dX9_readTape_88 (tgt := 95) (by decide) ?_
      obtain rfl := Option.some.inj h
      exact g_iret C E dX9_readTape_95
theorem r_X9_readTape_76 {p : Int32 × g_M} (x1 : Int32) (M : g_M) (h : f_X9_readTape_76 x1 M = some p) : g_fr [35] [(32, 2), (32, 3), (32, 4), (32, 5), (32, 6), (32, 7)] M p.2 := by
  unfold f_X9_readTape_76 at h
  have hf := g_fr.rfl (S := [35]) (T := [(32, 2), (32, 3), (32, 4), (32, 5), (32, 6), (32, 7)]) (M := M)
  rcases g_ifs h with h | h
  · obtain rfl := Option.some.inj h
    exact hf
  · rcases g_ifs h with h | h
    · obtain rfl := Option.some.inj h
      exact hf
    · obtain rfl := Option.some.inj h
      exact hf
def f_X9_readTape_36 (s0 : Int32) (M : g_M) : Option (Int32 × g_M) :=
  (if s0 = 0 then (f_X9_readTape_76 s0 M) else ((if (M.1 32 3) = 8 then ((f_X9_advance M).bind fun p5 => (f_X9_readEither 8 0 p5).bind fun p6 => (f_X9_emit 4 0 0 p6.2).bind fun p7 => (f_X9_emit 5 0 0 p7.2).bind fun p8 => f_X9_readTape_76 p6.1 p8.2) else (f_X9_readTape_76 s0 M))))
set_option maxRecDepth 100000 in
theorem t_X9_readTape_36 {l : Launch} {X : g_X} {Y : g_Y} {p : Int32 × g_M} (C : g_C l (g_rm (200)) RX9 cX9_readTape 2 X Y) (E : g_E (some .int) X Y (some (.int p.1)) p.2) (s0 : Int32) (M : g_M) (h : f_X9_readTape_36 s0 M = some p) : g_G 2 X Y 36 [(0, g_r Y 32)] [.int s0] M := by
  unfold f_X9_readTape_36 at h
  refine g_istore_n C dX9_readTape_36 (q := 37) rfl rfl (by decide) (lv' := [(1, .int s0), (0, g_r Y 32)]) rfl ?_
  refine g_iload_n C 0 dX9_readTape_37 (q := 38) rfl rfl rfl ?_
  have hif := g_if h
  clear h
  refine g_if_eq C dX9_readTape_38 (q := 41) (tgt := 76) rfl (by decide) (fun c => ?_) (fun c => ?_)
  · have h := hif.1 c
    clear hif
    refine g_sub [1, 0] (lv' := [(0, g_r Y 32), (1, .int s0)]) rfl ?_
    exact t_X9_readTape_76 C E s0 M h
  · have h := hif.2 c
    clear hif
    refine g_aload_n C 1 dX9_readTape_41 (q := 42) rfl rfl rfl ?_
    refine g_get C (k := 32) (i := 3) (by decide) (gc_32 Y _ _) rfl kU_X9 (by decide) kF_X9_39 rfl dX9_readTape_42 (q := 45) rfl ?_
    refine g_bipush C (v := 8) dX9_readTape_45 (q := 47) rfl (by decide) ?_
    have hif := g_if h
    clear h
    refine g_icmp_ne C dX9_readTape_47 (q := 50) (tgt := 76) rfl (by decide) (fun c => ?_) (fun c => ?_)
    · have h := hif.2 c
      clear hif
      refine g_sub [1, 0] (lv' := [(0, g_r Y 32), (1, .int s0)]) rfl ?_
      exact t_X9_readTape_76 C E s0 M h
    · have h := hif.1 c
      clear hif
      refine g_aload_n C 1 dX9_readTape_50 (q := 51) rfl rfl rfl ?_
      obtain ⟨p5, hp5, h⟩ := g_bind h
      refine g_callV C (k := 32) (as := []) (st := []) (m_X9_advance hp5) (g_hR (by omega)) (by decide) (by decide) (gc_32 Y _ _) rfl kM_X9_29 kI_X9_advance kS_X9_advance kN_X9 kC_X9_advance kD_X9_advance rfl (Nat.le_of_ble_eq_true rfl) dX9_readTape_51 (q := 54) rfl ?_
      show g_G 2 X Y 54 [(1, .int s0), (0, g_r Y 32)] [] p5
      refine g_aload_n C 1 dX9_readTape_54 (q := 55) rfl rfl rfl ?_
      refine g_iconst C (v := 0) dX9_readTape_55 (q := 56) rfl (by decide) ?_
      obtain ⟨p6, hp6, h⟩ := g_bind h
      refine g_callV C (k := 32) (as := [.int 0]) (st := []) (m_X9_readEither 8 _ _ _ hp6) (g_hR (by omega)) (by decide) (by decide) (gc_32 Y _ _) rfl kM_X9_36 kI_X9_readEither kS_X9_readEither kN_X9 kC_X9_readEither kD_X9_readEither rfl (Nat.le_of_ble_eq_true rfl) dX9_readTape_56 (q := 59) rfl ?_
      show g_G 2 X Y 59 [(1, .int s0), (0, g_r Y 32)] [.int p6.1] p6.2
      refine g_istore_n C dX9_readTape_59 (q := 60) rfl rfl (by decide) (lv' := [(1, .int p6.1), (0, g_r Y 32)]) rfl ?_
      refine g_aload_n C 1 dX9_readTape_60 (q := 61) rfl rfl rfl ?_
      refine g_iconst C (v := 4) dX9_readTape_61 (q := 62) rfl (by decide) ?_
      refine g_iconst C (v := 0) dX9_readTape_62 (q := 63) rfl (by decide) ?_
      refine g_iconst C (v := 0) dX9_readTape_63 (q := 64) rfl (by decide) ?_
      obtain ⟨p7, hp7, h⟩ := g_bind h
      refine g_callV C (k := 32) (as := [.int 4, .int 0, .int 0]) (st := []) (m_X9_emit hp7) (g_hR (by omega)) (by decide) (by decide) (gc_32 Y _ _) rfl kM_X9_44 kI_X9_emit kS_X9_emit kN_X9 kC_X9_emit kD_X9_emit rfl (Nat.le_of_ble_eq_true rfl) dX9_readTape_64 (q := 67) rfl ?_
      show g_G 2 X Y 67 [(1, .int p6.1), (0, g_r Y 32)] [.int p7.1] p7.2
      refine g_pop C dX9_readTape_67 (q := 68) rfl rfl ?_
      refine g_aload_n C 1 dX9_readTape_68 (q := 69) rfl rfl rfl ?_
      refine g_iconst C (v := 5) dX9_readTape_69 (q := 70) rfl (by decide) ?_
      refine g_iconst C (v := 0) dX9_readTape_70 (q := 71) rfl (by decide) ?_
      refine g_iconst C (v := 0) dX9_readTape_71 (q := 72) rfl (by decide) ?_
      obtain ⟨p8, hp8, h⟩ := g_bind h
      refine g_callV C (k := 32) (as := [.int 5, .int 0, .int 0]) (st := []) (m_X9_emit hp8) (g_hR (by omega)) (by decide) (by decide) (gc_32 Y _ _) rfl kM_X9_44 kI_X9_emit kS_X9_emit kN_X9 kC_X9_emit kD_X9_emit rfl (Nat.le_of_ble_eq_true rfl) dX9_readTape_72 (q := 75) rfl ?_
      show g_G 2 X Y 75 [(1, .int p6.1), (0, g_r Y 32)] [.int p8.1] p8.2
      refine g_pop C dX9_readTape_75 (q := 76) rfl rfl ?_
      refine g_sub [1, 0] (lv' := [(0, g_r Y 32), (1, .int p6.1)]) rfl ?_
      exact t_X9_readTape_76 C E p6.1 p8.2 h
theorem r_X9_readTape_36 {p : Int32 × g_M} (s0 : Int32) (M : g_M) (h : f_X9_readTape_36 s0 M = some p) : g_fr [35] [(32, 2), (32, 3), (32, 4), (32, 5), (32, 6), (32, 7)] M p.2 := by
  unfold f_X9_readTape_36 at h
  have hf := g_fr.rfl (S := [35]) (T := [(32, 2), (32, 3), (32, 4), (32, 5), (32, 6), (32, 7)]) (M := M)
  rcases g_ifs h with h | h
  · exact hf.trans (r_X9_readTape_76 s0 M h)
  · rcases g_ifs h with h | h
    · obtain ⟨p5, hp5, h⟩ := g_bind h
      have hf := hf.trans ((r_X9_advance hp5).mono (by decide) (by decide))
      obtain ⟨p6, hp6, h⟩ := g_bind h
      have hf := hf.trans ((r_X9_readEither 8 _ _ _ hp6).mono (by decide) (by decide))
      obtain ⟨p7, hp7, h⟩ := g_bind h
      have hf := hf.trans ((r_X9_emit hp7).mono (by decide) (by decide))
      obtain ⟨p8, hp8, h⟩ := g_bind h
      have hf := hf.trans ((r_X9_emit hp8).mono (by decide) (by decide))
      exact hf.trans (r_X9_readTape_76 p6.1 p8.2 h)
    · exact hf.trans (r_X9_readTape_76 s0 M h)
def f_X9_readTape_35 (M : g_M) : Option (Int32 × g_M) :=
  f_X9_readTape_36 0 M
set_option maxRecDepth 100000 in
theorem t_X9_readTape_35 {l : Launch} {X : g_X} {Y : g_Y} {p : Int32 × g_M} (C : g_C l (g_rm (200)) RX9 cX9_readTape 2 X Y) (E : g_E (some .int) X Y (some (.int p.1)) p.2) (M : g_M) (h : f_X9_readTape_35 M = some p) : g_G 2 X Y 35 [(0, g_r Y 32)] [] M := by
  unfold f_X9_readTape_35 at h
  refine g_iconst C (v := 0) dX9_readTape_35 (q := 36) rfl (by decide) ?_
  refine g_sub [0] (lv' := [(0, g_r Y 32)]) rfl ?_
  exact t_X9_readTape_36 C E 0 M h
theorem r_X9_readTape_35 {p : Int32 × g_M} (M : g_M) (h : f_X9_readTape_35 M = some p) : g_fr [35] [(32, 2), (32, 3), (32, 4), (32, 5), (32, 6), (32, 7)] M p.2 := by
  unfold f_X9_readTape_35 at h
  have hf := g_fr.rfl (S := [35]) (T := [(32, 2), (32, 3), (32, 4), (32, 5), (32, 6), (32, 7)]) (M := M)
  exact hf.trans (r_X9_readTape_36 0 M h)
def f_X9_readTape (M : g_M) : Option (Int32 × g_M) :=
  (some (g_u M 32 2 0)).bind fun M1 => (some (g_u M1 32 5 0)).bind fun M2 => (f_X9_advance M2).bind fun p3 => (f_X9_pass 7 p3).bind fun p4 => (if p4.1 = 0 then (f_X9_readTape_35 p4.2) else ((f_X9_readEither 8 0 p4.2).bind fun p9 => (if p9.1 = 0 then (f_X9_readTape_35 p9.2) else (f_X9_readTape_36 1 p9.2))))
set_option maxRecDepth 100000 in
theorem m_X9_readTape {l : Launch} {Y : g_Y} {M : g_M} {p : Int32 × g_M} (h : f_X9_readTape M = some p) : g_R l Y (200) yX9_readTape cX9_readTape 2 (some .int) [g_r Y 32] M (some (.int p.1)) p.2 := by
  unfold f_X9_readTape at h
  refine g_R_of kP_X9 rfl (Nat.le_of_ble_eq_true rfl) (fun X C E => ?_)
  show g_G 2 X Y 0 [(0, g_r Y 32)] [] M
  refine g_aload_n C 0 dX9_readTape_0 (q := 1) rfl rfl rfl ?_
  refine g_iconst C (v := 0) dX9_readTape_1 (q := 2) rfl (by decide) ?_
  obtain ⟨M1, hM1, h⟩ := g_bind h
  refine g_put C (k := 32) (i := 2) (ty := .int) (by decide) (gc_32 Y _ _) (gp_32_2 Y _ _ _) rfl kU_X9 tyX9_ok nmX9 (by decide) kF_X9_22 rfl rfl rfl rfl (Nat.le_of_ble_eq_true rfl) dX9_readTape_2 (q := 5) rfl ?_
  refine g_mem hM1 ?_
  refine g_aload_n C 0 dX9_readTape_5 (q := 6) rfl rfl rfl ?_
  refine g_iconst C (v := 0) dX9_readTape_6 (q := 7) rfl (by decide) ?_
  obtain ⟨M2, hM2, h⟩ := g_bind h
  refine g_put C (k := 32) (i := 5) (ty := .int) (by decide) (gc_32 Y _ _) (gp_32_5 Y _ _ _) rfl kU_X9 tyX9_ok nmX9 (by decide) kF_X9_26 rfl rfl rfl rfl (Nat.le_of_ble_eq_true rfl) dX9_readTape_7 (q := 10) rfl ?_
  refine g_mem hM2 ?_
  refine g_aload_n C 0 dX9_readTape_10 (q := 11) rfl rfl rfl ?_
  obtain ⟨p3, hp3, h⟩ := g_bind h
  refine g_callV C (k := 32) (as := []) (st := []) (m_X9_advance hp3) (g_hR (by omega)) (by decide) (by decide) (gc_32 Y _ _) rfl kM_X9_29 kI_X9_advance kS_X9_advance kN_X9 kC_X9_advance kD_X9_advance rfl (Nat.le_of_ble_eq_true rfl) dX9_readTape_11 (q := 14) rfl ?_
  show g_G 2 X Y 14 [(0, g_r Y 32)] [] p3
  refine g_aload_n C 0 dX9_readTape_14 (q := 15) rfl rfl rfl ?_
  refine g_bipush C (v := 7) dX9_readTape_15 (q := 17) rfl (by decide) ?_
  obtain ⟨p4, hp4, h⟩ := g_bind h
  refine g_callV C (k := 32) (as := [.int 7]) (st := []) (m_X9_pass hp4) (g_hR (by omega)) (by decide) (by decide) (gc_32 Y _ _) rfl kM_X9_32 kI_X9_pass kS_X9_pass kN_X9 kC_X9_pass kD_X9_pass rfl (Nat.le_of_ble_eq_true rfl) dX9_readTape_17 (q := 20) rfl ?_
  show g_G 2 X Y 20 [(0, g_r Y 32)] [.int p4.1] p4.2
  have hif := g_if h
  clear h
  refine g_if_eq C dX9_readTape_20 (q := 23) (tgt := 35) rfl (by decide) (fun c => ?_) (fun c => ?_)
  · have h := hif.1 c
    clear hif
    refine g_sub [0] (lv' := [(0, g_r Y 32)]) rfl ?_
    exact t_X9_readTape_35 C E p4.2 h
  · have h := hif.2 c
    clear hif
    refine g_aload_n C 0 dX9_readTape_23 (q := 24) rfl rfl rfl ?_
    refine g_iconst C (v := 0) dX9_readTape_24 (q := 25) rfl (by decide) ?_
    obtain ⟨p9, hp9, h⟩ := g_bind h
    refine g_callV C (k := 32) (as := [.int 0]) (st := []) (m_X9_readEither 8 _ _ _ hp9) (g_hR (by omega)) (by decide) (by decide) (gc_32 Y _ _) rfl kM_X9_36 kI_X9_readEither kS_X9_readEither kN_X9 kC_X9_readEither kD_X9_readEither rfl (Nat.le_of_ble_eq_true rfl) dX9_readTape_25 (q := 28) rfl ?_
    show g_G 2 X Y 28 [(0, g_r Y 32)] [.int p9.1] p9.2
    have hif := g_if h
    clear h
    refine g_if_eq C dX9_readTape_28 (q := 31) (tgt := 35) rfl (by decide) (fun c => ?_) (fun c => ?_)
    · have h := hif.1 c
      clear hif
      refine g_sub [0] (lv' := [(0, g_r Y 32)]) rfl ?_
      exact t_X9_readTape_35 C E p9.2 h
    · have h := hif.2 c
      clear hif
      refine g_iconst C (v := 1) dX9_readTape_31 (q := 32) rfl (by decide) ?_
      refine g_goto C dX9_readTape_32 (tgt := 36) (by decide) ?_
      refine g_sub [0] (lv' := [(0, g_r Y 32)]) rfl ?_
      exact t_X9_readTape_36 C E 1 p9.2 h
theorem r_X9_readTape {M : g_M} {p : Int32 × g_M} (h : f_X9_readTape M = some p) : g_fr [35] [(32, 2), (32, 3), (32, 4), (32, 5), (32, 6), (32, 7)] M p.2 := by
  unfold f_X9_readTape at h
  have hf := g_fr.rfl (S := [35]) (T := [(32, 2), (32, 3), (32, 4), (32, 5), (32, 6), (32, 7)]) (M := M)
  obtain ⟨M1, hM1, h⟩ := g_bind h
  have hf := hf.pu hM1 (by decide)
  obtain ⟨M2, hM2, h⟩ := g_bind h
  have hf := hf.pu hM2 (by decide)
  obtain ⟨p3, hp3, h⟩ := g_bind h
  have hf := hf.trans ((r_X9_advance hp3).mono (by decide) (by decide))
  obtain ⟨p4, hp4, h⟩ := g_bind h
  have hf := hf.trans ((r_X9_pass hp4).mono (by decide) (by decide))
  rcases g_ifs h with h | h
  · exact hf.trans (r_X9_readTape_35 p4.2 h)
  · obtain ⟨p9, hp9, h⟩ := g_bind h
    have hf := hf.trans ((r_X9_readEither 8 _ _ _ hp9).mono (by decide) (by decide))
    rcases g_ifs h with h | h
    · exact hf.trans (r_X9_readTape_35 p9.2 h)
    · exact hf.trans (r_X9_readTape_36 1 p9.2 h)
