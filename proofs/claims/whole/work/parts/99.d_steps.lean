def Rel (t : Nat) (M : g_M) : Prop := RE t M ∧ FXE M
theorem sx_0 : sp_0 Rel := by
  rintro t M a1 ht ⟨⟨n, l, m, h, c1, c2, c3, H⟩, HF⟩
  obtain ⟨p1, p2, a, b, c, d⟩ := op_elder ht H a1
  exact ⟨p1, p2, a, b, c, d, (HF.keep (r_X11_elder a) (by decide)).keep (r_X12_elder b) (by decide)⟩
theorem sx_1 : sp_1 Rel := by
  rintro t M a1 a2 ht ⟨⟨n, l, m, h, c1, c2, c3, H⟩, HF⟩
  obtain ⟨p1, p2, a, b, c, d⟩ := op_of H a1 a2
  exact ⟨p1, p2, a, b, c, d, (HF.keep (r_X11_of a) (by decide)).keep (r_X12_of b) (by decide)⟩
theorem sx_2 : sp_2 Rel := by
  rintro t M a1 a2 ht ⟨⟨n, l, m, h, c1, c2, c3, H⟩, HF⟩
  obtain ⟨p1, p2, a, b, c, d⟩ := op_gone ht H a1 (g_b a2)
  exact ⟨p1, p2, a, b, c, d, (HF.keep (r_X11_gone a) (by decide)).keep (r_X12_gone b) (by decide)⟩
theorem sx_3 : sp_3 Rel := by
  rintro t M a1 a2 ht ⟨⟨n, l, m, h, c1, c2, c3, H⟩, HF⟩
  obtain ⟨p1, p2, a, b, c, d⟩ := op_feed H a1 a2
  exact ⟨p1, p2, a, b, c, d, (HF.keep (r_X11_feed a) (by decide)).keep (r_X12_feed b) (by decide)⟩
theorem sx_4 : sp_4 Rel := by
  rintro t M  ht ⟨⟨n, l, m, h, c1, c2, c3, H⟩, HF⟩
  obtain ⟨p1, p2, a, b, c, d⟩ := op_wipe H
  exact ⟨p1, p2, a, b, c, d, (HF.keep (r_X11_wipe a) (by decide)).keep (r_X12_wipe b) (by decide)⟩
theorem sx_5 : sp_5 Rel := by
  rintro t M  ht ⟨⟨n, l, m, h, c1, c2, c3, H⟩, HF⟩
  obtain ⟨p1, p2, a, b, c, d⟩ := op_text ht H
  exact ⟨p1, p2, a, b, c, d, (HF.keep (r_X11_text a) (by decide)).keep (r_X12_text b) (by decide)⟩
theorem sx_6 : sp_6 Rel := by
  rintro t M a1 ht ⟨⟨n, l, m, h, c1, c2, c3, H⟩, HF⟩
  obtain ⟨p1, p2, a, b, c, d⟩ := op_use ht H a1
  exact ⟨p1, p2, a, b, c, d, (HF.keep (r_X11_use a) (by decide)).keep (r_X12_use b) (by decide)⟩
theorem sx_7 : sp_7 Rel := by
  rintro t M a1 a2 ht ⟨⟨n, l, m, h, c1, c2, c3, H⟩, HF⟩
  obtain ⟨p1, p2, a, b, c, d⟩ := op_may H a1 a2
  exact ⟨p1, p2, a, b, c, d, (HF.keep (r_X11_may a) (by decide)).keep (r_X12_may b) (by decide)⟩
theorem sx_8 : sp_8 Rel := by
  rintro t M  ht ⟨⟨n, l, m, h, c1, c2, c3, H⟩, HF⟩
  obtain ⟨p1, p2, a, b, c, d⟩ := op_more ht H
  exact ⟨p1, p2, a, b, c, d, (HF.keep (r_X11_more a) (by decide)).keep (r_X12_more b) (by decide)⟩
theorem sx_9 : sp_9 Rel := by
  rintro t M a1 ht ⟨⟨n, l, m, h, c1, c2, c3, H⟩, HF⟩
  obtain ⟨p1, p2, a, b, c, d⟩ := op_least ht H a1
  exact ⟨p1, p2, a, b, c, d, (HF.keep (r_X11_least a) (by decide)).keep (r_X12_least b) (by decide)⟩
theorem sx_10 : sp_10 Rel := by
  rintro t M a1 ht ⟨⟨n, l, m, h, c1, c2, c3, H⟩, HF⟩
  obtain ⟨p1, p2, a, b, c, d⟩ := op_most ht H a1
  exact ⟨p1, p2, a, b, c, d, (HF.keep (r_X11_most a) (by decide)).keep (r_X12_most b) (by decide)⟩
theorem sx_11 : sp_11 Rel := by
  rintro t M a1 a2 ht ⟨⟨n, l, m, h, c1, c2, c3, H⟩, HF⟩
  obtain ⟨p1, p2, a, b, c, d⟩ := op_lock ht H a1 (g_b a2)
  exact ⟨p1, p2, a, b, c, d, (HF.keep (r_X11_lock a) (by decide)).keep (r_X12_lock b) (by decide)⟩
theorem sx_12 : sp_12 Rel := by
  rintro t M a1 a2 a3 ht ⟨⟨n, l, m, h, c1, c2, c3, H⟩, HF⟩
  obtain ⟨p1, p2, a, b, c, d⟩ := op_chain ht H a1 a2 (g_b a3)
  exact ⟨p1, p2, a, b, c, d, (HF.keep (r_X11_chain a) (by decide)).keep (r_X12_chain b) (by decide)⟩
theorem sx_13 : sp_13 Rel := by
  rintro t M a1 a2 ht ⟨⟨n, l, m, h, c1, c2, c3, H⟩, HF⟩
  obtain ⟨p1, p2, a, b, c, d⟩ := op_box ht H a1 a2
  exact ⟨p1, p2, a, b, c, d, (HF.keep (r_X11_box a) (by decide)).keep (r_X12_box b) (by decide)⟩
theorem sx_14 : sp_14 Rel := by
  rintro t M a1 a2 ht ⟨⟨n, l, m, h, c1, c2, c3, H⟩, HF⟩
  obtain ⟨p1, p2, a, b, c, d⟩ := op_hanging H a1 a2
  exact ⟨p1, p2, a, b, c, d, (HF.keep (r_X11_hanging a) (by decide)).keep (r_X12_hanging b) (by decide)⟩
theorem sx_15 : sp_15 Rel := by
  rintro t M a1 a2 ht ⟨⟨n, l, m, h, c1, c2, c3, H⟩, HF⟩
  obtain ⟨p1, p2, a, b, c, d⟩ := op_as H a1 a2
  exact ⟨p1, p2, a, b, c, d, (HF.keep (r_X11_as a) (by decide)).keep (r_X12_as b) (by decide)⟩
theorem sx_16 : sp_16 Rel := by
  rintro t M a1 a2 a3 ht ⟨⟨n, l, m, h, c1, c2, c3, H⟩, HF⟩
  obtain ⟨p1, p2, a, b, c, d⟩ := op_key ht H a1 a2 (g_b a3)
  exact ⟨p1, p2, a, b, c, d, (HF.keep (r_X11_key a) (by decide)).keep (r_X12_key b) (by decide)⟩
theorem sx_17 : sp_17 Rel := by
  rintro t M a1 a2 a3 ht ⟨⟨n, l, m, h, c1, c2, c3, H⟩, HF⟩
  obtain ⟨p1, p2, a, b, c, d⟩ := op_lend H a1 a2 a3
  exact ⟨p1, p2, a, b, c, d, (HF.keep (r_X11_lend a) (by decide)).keep (r_X12_lend b) (by decide)⟩
theorem sx_18 : sp_18 Rel := by
  rintro t M a1 a2 ht ⟨⟨n, l, m, h, c1, c2, c3, H⟩, HF⟩
  obtain ⟨p1, p2, a, b, c, d⟩ := op_opens H a1 a2
  exact ⟨p1, p2, a, b, c, d, (HF.keep (r_X11_opens a) (by decide)).keep (r_X12_opens_ b) (by decide)⟩
theorem sx_19 : sp_19 Rel := by
  rintro t M a1 ht ⟨⟨n, l, m, h, c1, c2, c3, H⟩, HF⟩
  obtain ⟨p1, p2, a, b, c, d⟩ := op_had H a1
  exact ⟨p1, p2, a, b, c, d, (HF.keep (r_X11_had a) (by decide)).keep (r_X12_had b) (by decide)⟩
theorem sx_20 : sp_20 Rel := by
  rintro t M a1 a2 ht ⟨⟨n, l, m, h, c1, c2, c3, H⟩, HF⟩
  obtain ⟨p1, p2, a, b, c, d⟩ := op_round H a1 a2
  exact ⟨p1, p2, a, b, c, d, (HF.keep (r_X11_round a) (by decide)).keep (r_X12_round b) (by decide)⟩
theorem sx_21 : sp_21 Rel := by
  rintro t M a1 a2 ht ⟨⟨n, l, m, h, c1, c2, c3, H⟩, HF⟩
  obtain ⟨p1, p2, a, b, c, d⟩ := op_lets ht H a1 a2
  exact ⟨p1, p2, a, b, c, d, (HF.keep (r_X11_lets a) (by decide)).keep (r_X12_lets b) (by decide)⟩
theorem sx_22 : sp_22 Rel := by
  rintro t M a1 a2 ht ⟨⟨n, l, m, h, c1, c2, c3, H⟩, HF⟩
  obtain ⟨p1, p2, a, b, c, d⟩ := op_shut ht H a1 a2
  exact ⟨p1, p2, a, b, c, d, (HF.keep (r_X11_shut a) (by decide)).keep (r_X12_shut b) (by decide)⟩
theorem sx_23 : sp_23 Rel := by
  rintro t M a1 ht ⟨⟨n, l, m, h, c1, c2, c3, H⟩, HF⟩
  obtain ⟨p1, p2, a, b, c, d⟩ := op_wrongly ht H a1
  exact ⟨p1, p2, a, b, c, d, (HF.keep (r_X11_wrongly a) (by decide)).keep (r_X12_wrongly b) (by decide)⟩
theorem sx_24 : sp_24 Rel := by
  rintro t M a1 ht ⟨⟨n, l, m, h, c1, c2, c3, H⟩, HF⟩
  obtain ⟨p1, p2, a, b, c, d⟩ := op_lacks ht H a1
  exact ⟨p1, p2, a, b, c, d, (HF.keep (r_X11_lacks a) (by decide)).keep (r_X12_lacks b) (by decide)⟩
theorem sx_25 : sp_25 Rel := by
  rintro t M a1 a2 ht ⟨⟨n, l, m, h, c1, c2, c3, H⟩, HF⟩
  obtain ⟨p1, p2, a, b, c, d⟩ := op_same ht H a1 a2
  exact ⟨p1, p2, a, b, c, d, (HF.keep (r_X11_same a) (by decide)).keep (r_X12_same b) (by decide)⟩
theorem sx_26 : sp_26 Rel := by
  rintro t M a1 a2 ht ⟨⟨n, l, m, h, c1, c2, c3, H⟩, HF⟩
  obtain ⟨p1, p2, a, b, c, d⟩ := op_bears ht H a1 a2
  exact ⟨p1, p2, a, b, c, d, (HF.keep (r_X11_bears a) (by decide)).keep (r_X12_bears b) (by decide)⟩
theorem sx_27 : sp_27 Rel := by
  rintro t M a1 a2 ht ⟨⟨n, l, m, h, c1, c2, c3, H⟩, HF⟩
  obtain ⟨p1, p2, a, b, c, d⟩ := op_need H a1 a2
  exact ⟨p1, p2, a, b, c, d, (HF.keep (r_X11_need a) (by decide)).keep (r_X12_need_ b) (by decide)⟩
theorem sx_28 : sp_28 Rel := by
  rintro t M a1 ht ⟨⟨n, l, m, h, c1, c2, c3, H⟩, HF⟩
  obtain ⟨p1, p2, a, b, c, d⟩ := op_could H a1
  exact ⟨p1, p2, a, b, c, d, (HF.keep (r_X11_could a) (by decide)).keep (r_X12_could b) (by decide)⟩
theorem sx_29 : sp_29 Rel := by
  rintro t M  ht ⟨⟨n, l, m, h, c1, c2, c3, H⟩, HF⟩
  obtain ⟨p1, p2, a, b, c, d⟩ := op_build ht H
  exact ⟨p1, p2, a, b, c, d, (HF.keep (r_X11_build a) (by decide)).keep (r_X12_build b) (by decide)⟩
theorem sx_30 : sp_30 Rel := by
  rintro t M  ht ⟨⟨n, l, m, h, c1, c2, c3, H⟩, HF⟩
  obtain ⟨p1, p2, a, b, c, d, e⟩ := op_fewest ht H HF
  exact ⟨p1, p2, a, b, c, d, e⟩
theorem sx_31 : sp_31 Rel := by
  rintro t M a1 a2 a3 ht ⟨⟨n, l, m, h, c1, c2, c3, H⟩, HF⟩
  obtain ⟨p1, p2, a, b, c, d⟩ := op_spare ht H a1 a2 a3
  exact ⟨p1, p2, a, b, c, d, (HF.keep (r_X11_spare a) (by decide)).keep (r_X12_spare b) (by decide)⟩
theorem sx_32 : sp_32 Rel := by
  rintro t M a1 ht ⟨⟨n, l, m, h, c1, c2, c3, H⟩, HF⟩
  obtain ⟨p1, p2, a, b, c, d⟩ := op_thin ht H a1
  exact ⟨p1, p2, a, b, c, d, (HF.keep (r_X11_thin a) (by decide)).keep (r_X12_thin b) (by decide)⟩
theorem sx_33 : sp_33 Rel := by
  rintro t M a1 ht ⟨⟨n, l, m, h, c1, c2, c3, H⟩, HF⟩
  obtain ⟨p1, p2, a, b, c, d⟩ := op_heavy H a1
  exact ⟨p1, p2, a, b, c, d, (HF.keep (r_X11_heavy a) (by decide)).keep (r_X12_heavy b) (by decide)⟩
theorem sx_34 : sp_34 Rel := by
  rintro t M a1 a2 ht ⟨⟨n, l, m, h, c1, c2, c3, H⟩, HF⟩
  obtain ⟨p1, p2, a, b, c, d⟩ := op_judge ht H a1 a2
  exact ⟨p1, p2, a, b, c, d, (HF.keep (r_X11_judge a) (by decide)).keep (r_X12_judge b) (by decide)⟩
theorem sx_35 : sp_35 Rel := by
  rintro t M a1 a2 a3 ht ⟨⟨n, l, m, h, c1, c2, c3, H⟩, HF⟩
  obtain ⟨p1, p2, a, b, c, d⟩ := op_sheet H a1 a2 a3
  exact ⟨p1, p2, a, b, c, d, (HF.keep (r_X11_sheet a) (by decide)).keep (r_X12_sheet b) (by decide)⟩
theorem sx_36 : sp_36 Rel := by
  rintro t M a1 a2 a3 ht ⟨⟨n, l, m, h, c1, c2, c3, H⟩, HF⟩
  obtain ⟨p1, p2, a, b, c, d⟩ := op_write H a1 a2 a3
  exact ⟨p1, p2, a, b, c, d, (HF.keep (r_X11_write a) (by decide)).keep (r_X12_write b) (by decide)⟩
theorem sx_37 : sp_37 Rel := by
  rintro t M a1 a2 a3 a4 a5 ht ⟨⟨n, l, m, h, c1, c2, c3, H⟩, HF⟩
  obtain ⟨p1, p2, a, b, c, d⟩ := op_copy H a1 a2 a3 a4 a5
  exact ⟨p1, p2, a, b, c, d, (HF.keep (r_X11_copy a) (by decide)).keep (r_X12_copy b) (by decide)⟩
theorem sx_38 : sp_38 Rel := by
  rintro t M  ht ⟨⟨n, l, m, h, c1, c2, c3, H⟩, HF⟩
  obtain ⟨p1, p2, a, b, c, d⟩ := op_image H
  exact ⟨p1, p2, a, b, c, d, (HF.keep (r_X11_image a) (by decide)).keep (r_X12_image b) (by decide)⟩
theorem sx_39 : sp_39 Rel := by
  rintro t M  ht ⟨⟨n, l, m, h, c1, c2, c3, H⟩, HF⟩
  obtain ⟨p1, p2, a, b, c, d⟩ := op_undo ht H
  exact ⟨p1, p2, a, b, c, d, (HF.keep (r_X11_undo a) (by decide)).keep (r_X12_undo b) (by decide)⟩
theorem sx_40 : sp_40 Rel := by
  rintro t M  ht ⟨⟨n, l, m, h, c1, c2, c3, H⟩, HF⟩
  obtain ⟨p1, p2, a, b, c, d⟩ := op_tear H
  exact ⟨p1, p2, a, b, c, d, (HF.keep (r_X11_tear a) (by decide)).keep (r_X12_tear b) (by decide)⟩
theorem sx_41 : sp_41 Rel := by
  rintro t M a1 ht ⟨⟨n, l, m, h, c1, c2, c3, H⟩, HF⟩
  obtain ⟨p1, p2, a, b, c, d⟩ := op_look H a1
  exact ⟨p1, p2, a, b, c, d, (HF.keep (r_X11_look a) (by decide)).keep (r_X12_look b) (by decide)⟩
theorem sx_42 : sp_42 Rel := by
  rintro t M a1 ht ⟨⟨n, l, m, h, c1, c2, c3, H⟩, HF⟩
  obtain ⟨p1, p2, a, b, c, d⟩ := op_status H a1
  exact ⟨p1, p2, a, b, c, d, (HF.keep (r_X11_status a) (by decide)).keep (r_X12_status b) (by decide)⟩
theorem sx_all : lw_steps Rel := ⟨sx_0, sx_1, sx_2, sx_3, sx_4, sx_5, sx_6, sx_7, sx_8, sx_9, sx_10, sx_11, sx_12, sx_13, sx_14, sx_15, sx_16, sx_17, sx_18, sx_19, sx_20, sx_21, sx_22, sx_23, sx_24, sx_25, sx_26, sx_27, sx_28, sx_29, sx_30, sx_31, sx_32, sx_33, sx_34, sx_35, sx_36, sx_37, sx_38, sx_39, sx_40, sx_41, sx_42⟩
