-- ===== RuleBuilderModel.candidate(JJJ)I
def k_M_candidate : rb_MK := (⟨"RuleBuilderModel", "candidate", "(JJJ)I"⟩, prog_14_method_45_code, 9, some (.int))
theorem mw_M_candidate : rb_Mw k_M_candidate 3 := ⟨rb_inG 1630 (by decide +kernel) rfl, rb_inG 94 (by decide +kernel) rfl, ⟨by decide, by decide, by decide +kernel⟩, by decide⟩
theorem d_M_candidate_0 : decode prog_14_method_45_code 0 = .ok (.aload_n 0, 1) := by decide +kernel
theorem d_M_candidate_1 : decode prog_14_method_45_code 1 = .ok (.lload_n 3, 1) := by decide +kernel
theorem d_M_candidate_2 : decode prog_14_method_45_code 2 = .ok (.lload 5, 2) := by decide +kernel
theorem d_M_candidate_4 : decode prog_14_method_45_code 4 = .ok (.invokevirtual 355, 3) := by decide +kernel
theorem d_M_candidate_7 : decode prog_14_method_45_code 7 = .ok (.istore 7, 2) := by decide +kernel
theorem d_M_candidate_9 : decode prog_14_method_45_code 9 = .ok (.iload 7, 2) := by decide +kernel
theorem d_M_candidate_11 : decode prog_14_method_45_code 11 = .ok (.ifCond .lt 27, 3) := by decide +kernel
theorem d_M_candidate_14 : decode prog_14_method_45_code 14 = .ok (.aload_n 0, 1) := by decide +kernel
theorem d_M_candidate_15 : decode prog_14_method_45_code 15 = .ok (.getfield 90, 3) := by decide +kernel
theorem d_M_candidate_18 : decode prog_14_method_45_code 18 = .ok (.iload 7, 2) := by decide +kernel
theorem d_M_candidate_20 : decode prog_14_method_45_code 20 = .ok (.iaload, 1) := by decide +kernel
theorem d_M_candidate_21 : decode prog_14_method_45_code 21 = .ok (.ifCond .lt 17, 3) := by decide +kernel
theorem d_M_candidate_24 : decode prog_14_method_45_code 24 = .ok (.lload_n 1, 1) := by decide +kernel
theorem d_M_candidate_25 : decode prog_14_method_45_code 25 = .ok (.invokestatic 167, 3) := by decide +kernel
theorem d_M_candidate_28 : decode prog_14_method_45_code 28 = .ok (.lload_n 3, 1) := by decide +kernel
theorem d_M_candidate_29 : decode prog_14_method_45_code 29 = .ok (.invokestatic 167, 3) := by decide +kernel
theorem d_M_candidate_32 : decode prog_14_method_45_code 32 = .ok (.iadd, 1) := by decide +kernel
theorem d_M_candidate_33 : decode prog_14_method_45_code 33 = .ok (.bipush 8, 2) := by decide +kernel
theorem d_M_candidate_35 : decode prog_14_method_45_code 35 = .ok (.if_icmp .le 5, 3) := by decide +kernel
theorem d_M_candidate_38 : decode prog_14_method_45_code 38 = .ok (.iconst (-1), 1) := by decide +kernel
theorem d_M_candidate_39 : decode prog_14_method_45_code 39 = .ok (.ireturn, 1) := by decide +kernel
theorem d_M_candidate_40 : decode prog_14_method_45_code 40 = .ok (.aload_n 0, 1) := by decide +kernel
theorem d_M_candidate_41 : decode prog_14_method_45_code 41 = .ok (.lload_n 1, 1) := by decide +kernel
theorem d_M_candidate_42 : decode prog_14_method_45_code 42 = .ok (.bipush 7, 2) := by decide +kernel
theorem d_M_candidate_44 : decode prog_14_method_45_code 44 = .ok (.lload_n 3, 1) := by decide +kernel
theorem d_M_candidate_45 : decode prog_14_method_45_code 45 = .ok (.invokestatic 167, 3) := by decide +kernel
theorem d_M_candidate_48 : decode prog_14_method_45_code 48 = .ok (.imul, 1) := by decide +kernel
theorem d_M_candidate_49 : decode prog_14_method_45_code 49 = .ok (.lshl, 1) := by decide +kernel
theorem d_M_candidate_50 : decode prog_14_method_45_code 50 = .ok (.lload_n 3, 1) := by decide +kernel
theorem d_M_candidate_51 : decode prog_14_method_45_code 51 = .ok (.lor, 1) := by decide +kernel
theorem d_M_candidate_52 : decode prog_14_method_45_code 52 = .ok (.invokevirtual 180, 3) := by decide +kernel
theorem d_M_candidate_55 : decode prog_14_method_45_code 55 = .ok (.istore 8, 2) := by decide +kernel
theorem d_M_candidate_57 : decode prog_14_method_45_code 57 = .ok (.iload 8, 2) := by decide +kernel
theorem d_M_candidate_59 : decode prog_14_method_45_code 59 = .ok (.ifCond .lt 28, 3) := by decide +kernel
theorem d_M_candidate_62 : decode prog_14_method_45_code 62 = .ok (.aload_n 0, 1) := by decide +kernel
theorem d_M_candidate_63 : decode prog_14_method_45_code 63 = .ok (.getfield 63, 3) := by decide +kernel
theorem d_M_candidate_66 : decode prog_14_method_45_code 66 = .ok (.iload 8, 2) := by decide +kernel
theorem d_M_candidate_68 : decode prog_14_method_45_code 68 = .ok (.baload, 1) := by decide +kernel
theorem d_M_candidate_69 : decode prog_14_method_45_code 69 = .ok (.ifCond .ne 13, 3) := by decide +kernel
theorem d_M_candidate_72 : decode prog_14_method_45_code 72 = .ok (.aload_n 0, 1) := by decide +kernel
theorem d_M_candidate_73 : decode prog_14_method_45_code 73 = .ok (.getfield 17, 3) := by decide +kernel
theorem d_M_candidate_76 : decode prog_14_method_45_code 76 = .ok (.iload 8, 2) := by decide +kernel
theorem d_M_candidate_78 : decode prog_14_method_45_code 78 = .ok (.baload, 1) := by decide +kernel
theorem d_M_candidate_79 : decode prog_14_method_45_code 79 = .ok (.ifCond .eq 8, 3) := by decide +kernel
theorem d_M_candidate_82 : decode prog_14_method_45_code 82 = .ok (.iload 8, 2) := by decide +kernel
theorem d_M_candidate_84 : decode prog_14_method_45_code 84 = .ok (.goto 4, 3) := by decide +kernel
theorem d_M_candidate_87 : decode prog_14_method_45_code 87 = .ok (.iconst (-1), 1) := by decide +kernel
theorem d_M_candidate_88 : decode prog_14_method_45_code 88 = .ok (.ireturn, 1) := by decide +kernel
noncomputable def f_M_candidate (r0 : Option Nat) (y1 : Int64) (y3 : Int64) (y5 : Int64) (σ : rb_St) : Option rb_Rs :=
  (rb_fc σ r0 13).bind fun _ => rb_cI (f_M_endingOf (r0) (y3) (y5) σ) fun x_1 σ_2 => if x_1 < 0 then (some (some (.int (-1 : Int32)), σ_2)) else ((rb_gR σ_2 r0 13 36).bind fun r_3 => (rb_aI σ_2 r_3 102 x_1).bind fun x_4 => if x_4 < 0 then (some (some (.int (-1 : Int32)), σ_2)) else (rb_cI (f_M_length (y1) σ_2) fun x_5 σ_6 => rb_cI (f_M_length (y3) σ_6) fun x_7 σ_8 => if (x_5 + x_7) ≤ (8 : Int32) then (rb_cI (f_M_length (y3) σ_8) fun x_9 σ_10 => (rb_fc σ_10 r0 13).bind fun _ => rb_cI (f_M_find (r0) (((y1 <<< (((7 : Int32) * x_9).toInt64 &&& 63)) ||| y3)) σ_10) fun x_11 σ_12 => if x_11 < 0 then (some (some (.int (-1 : Int32)), σ_12)) else ((rb_gR σ_12 r0 13 24).bind fun r_13 => (rb_aI σ_12 r_13 104 x_11).bind fun x_14 => if x_14 = 0 then ((rb_gR σ_12 r0 13 4).bind fun r_15 => (rb_aI σ_12 r_15 104 x_11).bind fun x_16 => if x_16 = 0 then (some (some (.int (-1 : Int32)), σ_12)) else (some (some (.int x_11), σ_12))) else (some (some (.int x_11), σ_12)))) else (some (some (.int (-1 : Int32)), σ_8))))
theorem s_M_candidate {E : rb_EV} {d : Nat} (hdd : 1 ≤ d) (r0 : Option Nat) (y1 : Int64) (y3 : Int64) (y5 : Int64) (σ : rb_St) : rb_Does E k_M_candidate d [va_rf r0, .long y1, .long y3, .long y5] σ (f_M_candidate r0 y1 y3 y5 σ) := by
  refine rb_start (lv := [some (va_rf r0), some (.long y1), none, some (.long y3), none, some (.long y5), none, none, none]) (by decide) (by simp [lg_sl, rb_as, lv_args, rb_cat_r, rb_cat_i, rb_cat_l, rb_nL, k_M_candidate]) (fun res => ?_)
  unfold f_M_candidate
  refine rb_TC.mono (rk_aload_n 0 d_M_candidate_0 rfl rfl) ?_
  refine rb_TC.mono (rk_lload_n 3 d_M_candidate_1 rfl rfl) ?_
  refine rb_TC.mono (rk_lload d_M_candidate_2 rfl) ?_
  refine rt_vI (As := [.long y3, .long y5]) (st := []) (r0) vw_M_355 (s_M_endingOf (Nat.le_refl _) (r0) (y3) (y5) σ) (Nat.le_trans (by decide) hdd) rfl (by simp [rb_cat_r, rb_cat_i, rb_cat_l]) d_M_candidate_4 (fun x_1 σ_2 => ?_)
  refine rb_TC.mono (rk_istore (lv2 := [some (va_rf r0), some (.long y1), none, some (.long y3), none, some (.long y5), none, some (.int x_1), none]) d_M_candidate_7 (by decide) (fun _ => rb_one_n) rfl) ?_
  refine rb_TC.mono (rk_iload d_M_candidate_9 rfl) ?_
  refine rt_if_lt 38 d_M_candidate_11 (by decide) (fun _ => ?_) (fun _ => ?_)
  · refine rb_TC.mono (rk_iconst (-1 : Int32) d_M_candidate_38 (by decide)) ?_
    exact rt_iret (ty := .int) rfl rfl (fun h => h) d_M_candidate_39
  · refine rb_TC.mono (rk_aload_n 0 d_M_candidate_14 rfl rfl) ?_
    refine rt_gR r0 fw_M_90 d_M_candidate_15 (fun r_3 => ?_)
    refine rb_TC.mono (rk_iload d_M_candidate_18 rfl) ?_
    refine rt_iald r_3 d_M_candidate_20 (fun x_4 => ?_)
    refine rt_if_lt 38 d_M_candidate_21 (by decide) (fun _ => ?_) (fun _ => ?_)
    · refine rb_TC.mono (rk_iconst (-1 : Int32) d_M_candidate_38 (by decide)) ?_
      exact rt_iret (ty := .int) rfl rfl (fun h => h) d_M_candidate_39
    · refine rb_TC.mono (rk_lload_n 1 d_M_candidate_24 rfl rfl) ?_
      refine rt_sI (As := [.long y1]) (st := []) sw_M_167 (s_M_length (Nat.le_refl _) (y1) σ_2) (Nat.le_trans (by decide) hdd) rfl (by simp [rb_cat_r, rb_cat_i, rb_cat_l]) d_M_candidate_25 (fun x_5 σ_6 => ?_)
      refine rb_TC.mono (rk_lload_n 3 d_M_candidate_28 rfl rfl) ?_
      refine rt_sI (As := [.long y3]) (st := [.int x_5]) sw_M_167 (s_M_length (Nat.le_refl _) (y3) σ_6) (Nat.le_trans (by decide) hdd) rfl (by simp [rb_cat_r, rb_cat_i, rb_cat_l]) d_M_candidate_29 (fun x_7 σ_8 => ?_)
      refine rb_TC.mono (rk_iadd d_M_candidate_32) ?_
      refine rb_TC.mono (rk_bipush (8 : Int32) d_M_candidate_33 (by decide)) ?_
      refine rt_icmp_le 40 d_M_candidate_35 (by decide) (fun _ => ?_) (fun _ => ?_)
      · refine rb_TC.mono (rk_aload_n 0 d_M_candidate_40 rfl rfl) ?_
        refine rb_TC.mono (rk_lload_n 1 d_M_candidate_41 rfl rfl) ?_
        refine rb_TC.mono (rk_bipush (7 : Int32) d_M_candidate_42 (by decide)) ?_
        refine rb_TC.mono (rk_lload_n 3 d_M_candidate_44 rfl rfl) ?_
        refine rt_sI (As := [.long y3]) (st := [.int (7 : Int32), .long y1, va_rf r0]) sw_M_167 (s_M_length (Nat.le_refl _) (y3) σ_8) (Nat.le_trans (by decide) hdd) rfl (by simp [rb_cat_r, rb_cat_i, rb_cat_l]) d_M_candidate_45 (fun x_9 σ_10 => ?_)
        refine rb_TC.mono (rk_imul d_M_candidate_48) ?_
        refine rb_TC.mono (rk_lshl d_M_candidate_49) ?_
        refine rb_TC.mono (rk_lload_n 3 d_M_candidate_50 rfl rfl) ?_
        refine rb_TC.mono (rk_lor d_M_candidate_51) ?_
        refine rt_vI (As := [.long ((y1 <<< (((7 : Int32) * x_9).toInt64 &&& 63)) ||| y3)]) (st := []) (r0) vw_M_180 (s_M_find (Nat.le_refl _) (r0) (((y1 <<< (((7 : Int32) * x_9).toInt64 &&& 63)) ||| y3)) σ_10) (Nat.le_trans (by decide) hdd) rfl (by simp [rb_cat_r, rb_cat_i, rb_cat_l]) d_M_candidate_52 (fun x_11 σ_12 => ?_)
        refine rb_TC.mono (rk_istore (lv2 := [some (va_rf r0), some (.long y1), none, some (.long y3), none, some (.long y5), none, some (.int x_1), some (.int x_11)]) d_M_candidate_55 (by decide) (fun _ => rb_one_i) rfl) ?_
        refine rb_TC.mono (rk_iload d_M_candidate_57 rfl) ?_
        refine rt_if_lt 87 d_M_candidate_59 (by decide) (fun _ => ?_) (fun _ => ?_)
        · refine rb_TC.mono (rk_iconst (-1 : Int32) d_M_candidate_87 (by decide)) ?_
          exact rt_iret (ty := .int) rfl rfl (fun h => h) d_M_candidate_88
        · refine rb_TC.mono (rk_aload_n 0 d_M_candidate_62 rfl rfl) ?_
          refine rt_gR r0 fw_M_63 d_M_candidate_63 (fun r_13 => ?_)
          refine rb_TC.mono (rk_iload d_M_candidate_66 rfl) ?_
          refine rt_zald r_13 d_M_candidate_68 (fun x_14 => ?_)
          refine rt_if_ne 82 d_M_candidate_69 (by decide) (fun _ => ?_) (fun _ => ?_)
          · refine rb_TC.mono (rk_aload_n 0 d_M_candidate_72 rfl rfl) ?_
            refine rt_gR r0 fw_M_17 d_M_candidate_73 (fun r_15 => ?_)
            refine rb_TC.mono (rk_iload d_M_candidate_76 rfl) ?_
            refine rt_zald r_15 d_M_candidate_78 (fun x_16 => ?_)
            refine rt_if_eq 87 d_M_candidate_79 (by decide) (fun _ => ?_) (fun _ => ?_)
            · refine rb_TC.mono (rk_iconst (-1 : Int32) d_M_candidate_87 (by decide)) ?_
              exact rt_iret (ty := .int) rfl rfl (fun h => h) d_M_candidate_88
            · refine rb_TC.mono (rk_iload d_M_candidate_82 rfl) ?_
              refine rb_TC.mono (rk_goto 88 d_M_candidate_84 (by decide)) ?_
              exact rt_iret (ty := .int) rfl rfl (fun h => h) d_M_candidate_88
          · refine rb_TC.mono (rk_iload d_M_candidate_82 rfl) ?_
            refine rb_TC.mono (rk_goto 88 d_M_candidate_84 (by decide)) ?_
            exact rt_iret (ty := .int) rfl rfl (fun h => h) d_M_candidate_88
      · refine rb_TC.mono (rk_iconst (-1 : Int32) d_M_candidate_38 (by decide)) ?_
        exact rt_iret (ty := .int) rfl rfl (fun h => h) d_M_candidate_39
-- ===== RuleBuilderModel.take(IIJI)V
def k_M_take : rb_MK := (⟨"RuleBuilderModel", "take", "(IIJI)V"⟩, prog_14_method_46_code, 6, none)
theorem mw_M_take : rb_Mw k_M_take 4 := ⟨rb_inG 1634 (by decide +kernel) rfl, rb_inG 94 (by decide +kernel) rfl, ⟨by decide, by decide, by decide +kernel⟩, by decide⟩
theorem d_M_take_0 : decode prog_14_method_46_code 0 = .ok (.aload_n 0, 1) := by decide +kernel
theorem d_M_take_1 : decode prog_14_method_46_code 1 = .ok (.getfield 135, 3) := by decide +kernel
theorem d_M_take_4 : decode prog_14_method_46_code 4 = .ok (.iload_n 1, 1) := by decide +kernel
theorem d_M_take_5 : decode prog_14_method_46_code 5 = .ok (.iload_n 2, 1) := by decide +kernel
theorem d_M_take_6 : decode prog_14_method_46_code 6 = .ok (.iastore, 1) := by decide +kernel
theorem d_M_take_7 : decode prog_14_method_46_code 7 = .ok (.aload_n 0, 1) := by decide +kernel
theorem d_M_take_8 : decode prog_14_method_46_code 8 = .ok (.getfield 138, 3) := by decide +kernel
theorem d_M_take_11 : decode prog_14_method_46_code 11 = .ok (.iload_n 1, 1) := by decide +kernel
theorem d_M_take_12 : decode prog_14_method_46_code 12 = .ok (.lload_n 3, 1) := by decide +kernel
theorem d_M_take_13 : decode prog_14_method_46_code 13 = .ok (.lastore, 1) := by decide +kernel
theorem d_M_take_14 : decode prog_14_method_46_code 14 = .ok (.aload_n 0, 1) := by decide +kernel
theorem d_M_take_15 : decode prog_14_method_46_code 15 = .ok (.getfield 141, 3) := by decide +kernel
theorem d_M_take_18 : decode prog_14_method_46_code 18 = .ok (.iload_n 1, 1) := by decide +kernel
theorem d_M_take_19 : decode prog_14_method_46_code 19 = .ok (.aload_n 0, 1) := by decide +kernel
theorem d_M_take_20 : decode prog_14_method_46_code 20 = .ok (.getfield 90, 3) := by decide +kernel
theorem d_M_take_23 : decode prog_14_method_46_code 23 = .ok (.iload 5, 2) := by decide +kernel
theorem d_M_take_25 : decode prog_14_method_46_code 25 = .ok (.iaload, 1) := by decide +kernel
theorem d_M_take_26 : decode prog_14_method_46_code 26 = .ok (.iastore, 1) := by decide +kernel
theorem d_M_take_27 : decode prog_14_method_46_code 27 = .ok (.return_, 1) := by decide +kernel
noncomputable def f_M_take (r0 : Option Nat) (x1 : Int32) (x2 : Int32) (y3 : Int64) (x5 : Int32) (σ : rb_St) : Option rb_Rs :=
  (rb_gR σ r0 13 61).bind fun r_1 => (rb_sI σ r_1 102 x1 x2).bind fun σ_2 => (rb_gR σ_2 r0 13 62).bind fun r_3 => (rb_sL σ_2 r_3 103 x1 y3).bind fun σ_4 => (rb_gR σ_4 r0 13 63).bind fun r_5 => (rb_gR σ_4 r0 13 36).bind fun r_6 => (rb_aI σ_4 r_6 102 x5).bind fun x_7 => (rb_sI σ_4 r_5 102 x1 x_7).bind fun σ_8 => some (none, σ_8)
theorem s_M_take {E : rb_EV} {d : Nat} (hdd : 0 ≤ d) (r0 : Option Nat) (x1 : Int32) (x2 : Int32) (y3 : Int64) (x5 : Int32) (σ : rb_St) : rb_Does E k_M_take d [va_rf r0, .int x1, .int x2, .long y3, .int x5] σ (f_M_take r0 x1 x2 y3 x5 σ) := by
  refine rb_start (lv := [some (va_rf r0), some (.int x1), some (.int x2), some (.long y3), none, some (.int x5)]) (by decide) (by simp [lg_sl, rb_as, lv_args, rb_cat_r, rb_cat_i, rb_cat_l, rb_nL, k_M_take]) (fun res => ?_)
  unfold f_M_take
  refine rb_TC.mono (rk_aload_n 0 d_M_take_0 rfl rfl) ?_
  refine rt_gR r0 fw_M_135 d_M_take_1 (fun r_1 => ?_)
  refine rb_TC.mono (rk_iload_n 1 d_M_take_4 rfl rfl) ?_
  refine rb_TC.mono (rk_iload_n 2 d_M_take_5 rfl rfl) ?_
  refine rt_iast r_1 d_M_take_6 (fun σ_2 => ?_)
  refine rb_TC.mono (rk_aload_n 0 d_M_take_7 rfl rfl) ?_
  refine rt_gR r0 fw_M_138 d_M_take_8 (fun r_3 => ?_)
  refine rb_TC.mono (rk_iload_n 1 d_M_take_11 rfl rfl) ?_
  refine rb_TC.mono (rk_lload_n 3 d_M_take_12 rfl rfl) ?_
  refine rt_last r_3 d_M_take_13 (fun σ_4 => ?_)
  refine rb_TC.mono (rk_aload_n 0 d_M_take_14 rfl rfl) ?_
  refine rt_gR r0 fw_M_141 d_M_take_15 (fun r_5 => ?_)
  refine rb_TC.mono (rk_iload_n 1 d_M_take_18 rfl rfl) ?_
  refine rb_TC.mono (rk_aload_n 0 d_M_take_19 rfl rfl) ?_
  refine rt_gR r0 fw_M_90 d_M_take_20 (fun r_6 => ?_)
  refine rb_TC.mono (rk_iload d_M_take_23 rfl) ?_
  refine rt_iald r_6 d_M_take_25 (fun x_7 => ?_)
  refine rt_iast r_5 d_M_take_26 (fun σ_8 => ?_)
  exact rt_vret rfl (fun h => h) d_M_take_27
-- ===== RuleBuilderModel.lookForEnding(I)V
def k_M_lookForEnding : rb_MK := (⟨"RuleBuilderModel", "lookForEnding", "(I)V"⟩, prog_14_method_47_code, 9, none)
theorem mw_M_lookForEnding : rb_Mw k_M_lookForEnding 1 := ⟨rb_inG 1626 (by decide +kernel) rfl, rb_inG 94 (by decide +kernel) rfl, ⟨by decide, by decide, by decide +kernel⟩, by decide⟩
theorem vw_M_362 : rb_Vw "RuleBuilderModel" 362 k_M_candidate 13 3 := ⟨mw_M_candidate, rb_inG 1627 (by decide +kernel) rfl, rb_inG 1629 (by decide +kernel) rfl, rb_inG 70 (by decide +kernel) rfl, by decide, by decide, _, rfl, rfl⟩
theorem vw_M_366 : rb_Vw "RuleBuilderModel" 366 k_M_take 13 4 := ⟨mw_M_take, rb_inG 1631 (by decide +kernel) rfl, rb_inG 1633 (by decide +kernel) rfl, rb_inG 71 (by decide +kernel) rfl, by decide, by decide, _, rfl, rfl⟩
theorem d_M_lookForEnding_0 : decode prog_14_method_47_code 0 = .ok (.aload_n 0, 1) := by decide +kernel
theorem d_M_lookForEnding_1 : decode prog_14_method_47_code 1 = .ok (.getfield 13, 3) := by decide +kernel
theorem d_M_lookForEnding_4 : decode prog_14_method_47_code 4 = .ok (.iload_n 1, 1) := by decide +kernel
theorem d_M_lookForEnding_5 : decode prog_14_method_47_code 5 = .ok (.laload, 1) := by decide +kernel
theorem d_M_lookForEnding_6 : decode prog_14_method_47_code 6 = .ok (.lstore_n 2, 1) := by decide +kernel
theorem d_M_lookForEnding_7 : decode prog_14_method_47_code 7 = .ok (.iconst 0, 1) := by decide +kernel
theorem d_M_lookForEnding_8 : decode prog_14_method_47_code 8 = .ok (.istore 4, 2) := by decide +kernel
theorem d_M_lookForEnding_10 : decode prog_14_method_47_code 10 = .ok (.iload 4, 2) := by decide +kernel
theorem d_M_lookForEnding_12 : decode prog_14_method_47_code 12 = .ok (.aload_n 0, 1) := by decide +kernel
theorem d_M_lookForEnding_13 : decode prog_14_method_47_code 13 = .ok (.getfield 261, 3) := by decide +kernel
theorem d_M_lookForEnding_16 : decode prog_14_method_47_code 16 = .ok (.if_icmp .ge 155, 3) := by decide +kernel
theorem d_M_lookForEnding_19 : decode prog_14_method_47_code 19 = .ok (.aload_n 0, 1) := by decide +kernel
theorem d_M_lookForEnding_20 : decode prog_14_method_47_code 20 = .ok (.getfield 51, 3) := by decide +kernel
theorem d_M_lookForEnding_23 : decode prog_14_method_47_code 23 = .ok (.iload 4, 2) := by decide +kernel
theorem d_M_lookForEnding_25 : decode prog_14_method_47_code 25 = .ok (.laload, 1) := by decide +kernel
theorem d_M_lookForEnding_26 : decode prog_14_method_47_code 26 = .ok (.invokestatic 167, 3) := by decide +kernel
theorem d_M_lookForEnding_29 : decode prog_14_method_47_code 29 = .ok (.istore 5, 2) := by decide +kernel
theorem d_M_lookForEnding_31 : decode prog_14_method_47_code 31 = .ok (.lload_n 2, 1) := by decide +kernel
theorem d_M_lookForEnding_32 : decode prog_14_method_47_code 32 = .ok (.invokestatic 167, 3) := by decide +kernel
theorem d_M_lookForEnding_35 : decode prog_14_method_47_code 35 = .ok (.iload 5, 2) := by decide +kernel
theorem d_M_lookForEnding_37 : decode prog_14_method_47_code 37 = .ok (.if_icmp .le 29, 3) := by decide +kernel
theorem d_M_lookForEnding_40 : decode prog_14_method_47_code 40 = .ok (.lload_n 2, 1) := by decide +kernel
theorem d_M_lookForEnding_41 : decode prog_14_method_47_code 41 = .ok (.lconst 1, 1) := by decide +kernel
theorem d_M_lookForEnding_42 : decode prog_14_method_47_code 42 = .ok (.bipush 7, 2) := by decide +kernel
theorem d_M_lookForEnding_44 : decode prog_14_method_47_code 44 = .ok (.iload 5, 2) := by decide +kernel
theorem d_M_lookForEnding_46 : decode prog_14_method_47_code 46 = .ok (.imul, 1) := by decide +kernel
theorem d_M_lookForEnding_47 : decode prog_14_method_47_code 47 = .ok (.lshl, 1) := by decide +kernel
theorem d_M_lookForEnding_48 : decode prog_14_method_47_code 48 = .ok (.lconst 1, 1) := by decide +kernel
theorem d_M_lookForEnding_49 : decode prog_14_method_47_code 49 = .ok (.lsub, 1) := by decide +kernel
theorem d_M_lookForEnding_50 : decode prog_14_method_47_code 50 = .ok (.land, 1) := by decide +kernel
theorem d_M_lookForEnding_51 : decode prog_14_method_47_code 51 = .ok (.aload_n 0, 1) := by decide +kernel
theorem d_M_lookForEnding_52 : decode prog_14_method_47_code 52 = .ok (.getfield 51, 3) := by decide +kernel
theorem d_M_lookForEnding_55 : decode prog_14_method_47_code 55 = .ok (.iload 4, 2) := by decide +kernel
theorem d_M_lookForEnding_57 : decode prog_14_method_47_code 57 = .ok (.laload, 1) := by decide +kernel
theorem d_M_lookForEnding_58 : decode prog_14_method_47_code 58 = .ok (.lcmp, 1) := by decide +kernel
theorem d_M_lookForEnding_59 : decode prog_14_method_47_code 59 = .ok (.ifCond .ne 7, 3) := by decide +kernel
theorem d_M_lookForEnding_62 : decode prog_14_method_47_code 62 = .ok (.iconst 1, 1) := by decide +kernel
theorem d_M_lookForEnding_63 : decode prog_14_method_47_code 63 = .ok (.goto 4, 3) := by decide +kernel
theorem d_M_lookForEnding_66 : decode prog_14_method_47_code 66 = .ok (.iconst 0, 1) := by decide +kernel
theorem d_M_lookForEnding_67 : decode prog_14_method_47_code 67 = .ok (.istore 6, 2) := by decide +kernel
theorem d_M_lookForEnding_69 : decode prog_14_method_47_code 69 = .ok (.iconst 0, 1) := by decide +kernel
theorem d_M_lookForEnding_70 : decode prog_14_method_47_code 70 = .ok (.istore 7, 2) := by decide +kernel
theorem d_M_lookForEnding_72 : decode prog_14_method_47_code 72 = .ok (.iload 7, 2) := by decide +kernel
theorem d_M_lookForEnding_74 : decode prog_14_method_47_code 74 = .ok (.aload_n 0, 1) := by decide +kernel
theorem d_M_lookForEnding_75 : decode prog_14_method_47_code 75 = .ok (.getfield 261, 3) := by decide +kernel
theorem d_M_lookForEnding_78 : decode prog_14_method_47_code 78 = .ok (.if_icmp .ge 87, 3) := by decide +kernel
theorem d_M_lookForEnding_81 : decode prog_14_method_47_code 81 = .ok (.iload 6, 2) := by decide +kernel
theorem d_M_lookForEnding_83 : decode prog_14_method_47_code 83 = .ok (.ifCond .eq 82, 3) := by decide +kernel
theorem d_M_lookForEnding_86 : decode prog_14_method_47_code 86 = .ok (.aload_n 0, 1) := by decide +kernel
theorem d_M_lookForEnding_87 : decode prog_14_method_47_code 87 = .ok (.getfield 135, 3) := by decide +kernel
theorem d_M_lookForEnding_90 : decode prog_14_method_47_code 90 = .ok (.iload_n 1, 1) := by decide +kernel
theorem d_M_lookForEnding_91 : decode prog_14_method_47_code 91 = .ok (.iaload, 1) := by decide +kernel
theorem d_M_lookForEnding_92 : decode prog_14_method_47_code 92 = .ok (.ifCond .ge 73, 3) := by decide +kernel
theorem d_M_lookForEnding_95 : decode prog_14_method_47_code 95 = .ok (.aload_n 0, 1) := by decide +kernel
theorem d_M_lookForEnding_96 : decode prog_14_method_47_code 96 = .ok (.lload_n 2, 1) := by decide +kernel
theorem d_M_lookForEnding_97 : decode prog_14_method_47_code 97 = .ok (.bipush 7, 2) := by decide +kernel
theorem d_M_lookForEnding_99 : decode prog_14_method_47_code 99 = .ok (.iload 5, 2) := by decide +kernel
theorem d_M_lookForEnding_101 : decode prog_14_method_47_code 101 = .ok (.imul, 1) := by decide +kernel
theorem d_M_lookForEnding_102 : decode prog_14_method_47_code 102 = .ok (.lshr, 1) := by decide +kernel
theorem d_M_lookForEnding_103 : decode prog_14_method_47_code 103 = .ok (.aload_n 0, 1) := by decide +kernel
theorem d_M_lookForEnding_104 : decode prog_14_method_47_code 104 = .ok (.getfield 51, 3) := by decide +kernel
theorem d_M_lookForEnding_107 : decode prog_14_method_47_code 107 = .ok (.iload 7, 2) := by decide +kernel
theorem d_M_lookForEnding_109 : decode prog_14_method_47_code 109 = .ok (.laload, 1) := by decide +kernel
theorem d_M_lookForEnding_110 : decode prog_14_method_47_code 110 = .ok (.aload_n 0, 1) := by decide +kernel
theorem d_M_lookForEnding_111 : decode prog_14_method_47_code 111 = .ok (.getfield 51, 3) := by decide +kernel
theorem d_M_lookForEnding_114 : decode prog_14_method_47_code 114 = .ok (.iload 4, 2) := by decide +kernel
theorem d_M_lookForEnding_116 : decode prog_14_method_47_code 116 = .ok (.laload, 1) := by decide +kernel
theorem d_M_lookForEnding_117 : decode prog_14_method_47_code 117 = .ok (.invokevirtual 362, 3) := by decide +kernel
theorem d_M_lookForEnding_120 : decode prog_14_method_47_code 120 = .ok (.istore 8, 2) := by decide +kernel
theorem d_M_lookForEnding_122 : decode prog_14_method_47_code 122 = .ok (.iload 8, 2) := by decide +kernel
theorem d_M_lookForEnding_124 : decode prog_14_method_47_code 124 = .ok (.ifCond .lt 35, 3) := by decide +kernel
theorem d_M_lookForEnding_127 : decode prog_14_method_47_code 127 = .ok (.aload_n 0, 1) := by decide +kernel
theorem d_M_lookForEnding_128 : decode prog_14_method_47_code 128 = .ok (.iload_n 1, 1) := by decide +kernel
theorem d_M_lookForEnding_129 : decode prog_14_method_47_code 129 = .ok (.iload 8, 2) := by decide +kernel
theorem d_M_lookForEnding_131 : decode prog_14_method_47_code 131 = .ok (.lload_n 2, 1) := by decide +kernel
theorem d_M_lookForEnding_132 : decode prog_14_method_47_code 132 = .ok (.bipush 7, 2) := by decide +kernel
theorem d_M_lookForEnding_134 : decode prog_14_method_47_code 134 = .ok (.iload 5, 2) := by decide +kernel
theorem d_M_lookForEnding_136 : decode prog_14_method_47_code 136 = .ok (.imul, 1) := by decide +kernel
theorem d_M_lookForEnding_137 : decode prog_14_method_47_code 137 = .ok (.lshr, 1) := by decide +kernel
theorem d_M_lookForEnding_138 : decode prog_14_method_47_code 138 = .ok (.aload_n 0, 1) := by decide +kernel
theorem d_M_lookForEnding_139 : decode prog_14_method_47_code 139 = .ok (.aload_n 0, 1) := by decide +kernel
theorem d_M_lookForEnding_140 : decode prog_14_method_47_code 140 = .ok (.getfield 51, 3) := by decide +kernel
theorem d_M_lookForEnding_143 : decode prog_14_method_47_code 143 = .ok (.iload 7, 2) := by decide +kernel
theorem d_M_lookForEnding_145 : decode prog_14_method_47_code 145 = .ok (.laload, 1) := by decide +kernel
theorem d_M_lookForEnding_146 : decode prog_14_method_47_code 146 = .ok (.aload_n 0, 1) := by decide +kernel
theorem d_M_lookForEnding_147 : decode prog_14_method_47_code 147 = .ok (.getfield 51, 3) := by decide +kernel
theorem d_M_lookForEnding_150 : decode prog_14_method_47_code 150 = .ok (.iload 4, 2) := by decide +kernel
theorem d_M_lookForEnding_152 : decode prog_14_method_47_code 152 = .ok (.laload, 1) := by decide +kernel
theorem d_M_lookForEnding_153 : decode prog_14_method_47_code 153 = .ok (.invokevirtual 355, 3) := by decide +kernel
theorem d_M_lookForEnding_156 : decode prog_14_method_47_code 156 = .ok (.invokevirtual 366, 3) := by decide +kernel
theorem d_M_lookForEnding_159 : decode prog_14_method_47_code 159 = .ok (.iinc 7 1, 3) := by decide +kernel
theorem d_M_lookForEnding_162 : decode prog_14_method_47_code 162 = .ok (.goto (-90), 3) := by decide +kernel
theorem d_M_lookForEnding_165 : decode prog_14_method_47_code 165 = .ok (.iinc 4 1, 3) := by decide +kernel
theorem d_M_lookForEnding_168 : decode prog_14_method_47_code 168 = .ok (.goto (-158), 3) := by decide +kernel
theorem d_M_lookForEnding_171 : decode prog_14_method_47_code 171 = .ok (.iconst 0, 1) := by decide +kernel
theorem d_M_lookForEnding_172 : decode prog_14_method_47_code 172 = .ok (.istore 4, 2) := by decide +kernel
theorem d_M_lookForEnding_174 : decode prog_14_method_47_code 174 = .ok (.iload 4, 2) := by decide +kernel
theorem d_M_lookForEnding_176 : decode prog_14_method_47_code 176 = .ok (.aload_n 0, 1) := by decide +kernel
theorem d_M_lookForEnding_177 : decode prog_14_method_47_code 177 = .ok (.getfield 261, 3) := by decide +kernel
theorem d_M_lookForEnding_180 : decode prog_14_method_47_code 180 = .ok (.if_icmp .ge 58, 3) := by decide +kernel
theorem d_M_lookForEnding_183 : decode prog_14_method_47_code 183 = .ok (.aload_n 0, 1) := by decide +kernel
theorem d_M_lookForEnding_184 : decode prog_14_method_47_code 184 = .ok (.getfield 135, 3) := by decide +kernel
theorem d_M_lookForEnding_187 : decode prog_14_method_47_code 187 = .ok (.iload_n 1, 1) := by decide +kernel
theorem d_M_lookForEnding_188 : decode prog_14_method_47_code 188 = .ok (.iaload, 1) := by decide +kernel
theorem d_M_lookForEnding_189 : decode prog_14_method_47_code 189 = .ok (.ifCond .ge 49, 3) := by decide +kernel
theorem d_M_lookForEnding_192 : decode prog_14_method_47_code 192 = .ok (.aload_n 0, 1) := by decide +kernel
theorem d_M_lookForEnding_193 : decode prog_14_method_47_code 193 = .ok (.lload_n 2, 1) := by decide +kernel
theorem d_M_lookForEnding_194 : decode prog_14_method_47_code 194 = .ok (.aload_n 0, 1) := by decide +kernel
theorem d_M_lookForEnding_195 : decode prog_14_method_47_code 195 = .ok (.getfield 51, 3) := by decide +kernel
theorem d_M_lookForEnding_198 : decode prog_14_method_47_code 198 = .ok (.iload 4, 2) := by decide +kernel
theorem d_M_lookForEnding_200 : decode prog_14_method_47_code 200 = .ok (.laload, 1) := by decide +kernel
theorem d_M_lookForEnding_201 : decode prog_14_method_47_code 201 = .ok (.lconst 0, 1) := by decide +kernel
theorem d_M_lookForEnding_202 : decode prog_14_method_47_code 202 = .ok (.invokevirtual 362, 3) := by decide +kernel
theorem d_M_lookForEnding_205 : decode prog_14_method_47_code 205 = .ok (.istore 5, 2) := by decide +kernel
theorem d_M_lookForEnding_207 : decode prog_14_method_47_code 207 = .ok (.iload 5, 2) := by decide +kernel
theorem d_M_lookForEnding_209 : decode prog_14_method_47_code 209 = .ok (.ifCond .lt 23, 3) := by decide +kernel
theorem d_M_lookForEnding_212 : decode prog_14_method_47_code 212 = .ok (.aload_n 0, 1) := by decide +kernel
theorem d_M_lookForEnding_213 : decode prog_14_method_47_code 213 = .ok (.iload_n 1, 1) := by decide +kernel
theorem d_M_lookForEnding_214 : decode prog_14_method_47_code 214 = .ok (.iload 5, 2) := by decide +kernel
theorem d_M_lookForEnding_216 : decode prog_14_method_47_code 216 = .ok (.lload_n 2, 1) := by decide +kernel
theorem d_M_lookForEnding_217 : decode prog_14_method_47_code 217 = .ok (.aload_n 0, 1) := by decide +kernel
theorem d_M_lookForEnding_218 : decode prog_14_method_47_code 218 = .ok (.aload_n 0, 1) := by decide +kernel
theorem d_M_lookForEnding_219 : decode prog_14_method_47_code 219 = .ok (.getfield 51, 3) := by decide +kernel
theorem d_M_lookForEnding_222 : decode prog_14_method_47_code 222 = .ok (.iload 4, 2) := by decide +kernel
theorem d_M_lookForEnding_224 : decode prog_14_method_47_code 224 = .ok (.laload, 1) := by decide +kernel
theorem d_M_lookForEnding_225 : decode prog_14_method_47_code 225 = .ok (.lconst 0, 1) := by decide +kernel
theorem d_M_lookForEnding_226 : decode prog_14_method_47_code 226 = .ok (.invokevirtual 355, 3) := by decide +kernel
theorem d_M_lookForEnding_229 : decode prog_14_method_47_code 229 = .ok (.invokevirtual 366, 3) := by decide +kernel
theorem d_M_lookForEnding_232 : decode prog_14_method_47_code 232 = .ok (.iinc 4 1, 3) := by decide +kernel
theorem d_M_lookForEnding_235 : decode prog_14_method_47_code 235 = .ok (.goto (-61), 3) := by decide +kernel
theorem d_M_lookForEnding_238 : decode prog_14_method_47_code 238 = .ok (.return_, 1) := by decide +kernel
noncomputable def f_M_lookForEnding_j238  (σ : rb_St) : Option rb_Rs :=
  some (none, σ)
theorem t_M_lookForEnding_j238 {E : rb_EV} {d : Nat} {σ0 : rb_St} {res : rb_Rs} (hdd : 2 ≤ d)   (σ : rb_St) : rb_TC (f_M_lookForEnding_j238  σ) (fun r => r = res) (rb_WK E k_M_lookForEnding d σ0 res 238 [none, none, none, none, none, none, none, none, none] [] σ) := by
  unfold f_M_lookForEnding_j238
  exact rt_vret rfl (fun h => h) d_M_lookForEnding_238
noncomputable def f_M_lookForEnding_b174 (r0 : Option Nat) (x1 : Int32) (y2 : Int64) (x4 : Int32) (σ : rb_St) : Option ((Int32 × rb_St) ⊕ rb_Rs) :=
  (rb_gI σ r0 13 18).bind fun x_4 => if x_4 ≤ x4 then ((f_M_lookForEnding_j238  σ).map Sum.inr) else ((rb_gR σ r0 13 61).bind fun r_5 => (rb_aI σ r_5 102 x1).bind fun x_6 => if 0 ≤ x_6 then ((f_M_lookForEnding_j238  σ).map Sum.inr) else ((rb_gR σ r0 13 17).bind fun r_7 => (rb_aL σ r_7 103 x4).bind fun y_8 => (rb_fc σ r0 13).bind fun _ => rb_cI (f_M_candidate (r0) (y2) (y_8) ((0 : Int64)) σ) fun x_9 σ_10 => if x_9 < 0 then (some (.inl ((x4 + 1), σ_10))) else ((rb_gR σ_10 r0 13 17).bind fun r_11 => (rb_aL σ_10 r_11 103 x4).bind fun y_12 => (rb_fc σ_10 r0 13).bind fun _ => rb_cI (f_M_endingOf (r0) (y_12) ((0 : Int64)) σ_10) fun x_13 σ_14 => (rb_fc σ_14 r0 13).bind fun _ => rb_cV (f_M_take (r0) (x1) (x_9) (y2) (x_13) σ_14) fun σ_15 => some (.inl ((x4 + 1), σ_15)))))
theorem t_M_lookForEnding_b174 {E : rb_EV} {d : Nat} {σ0 : rb_St} {res : rb_Rs} (hdd : 2 ≤ d)  (r0 : Option Nat) (x1 : Int32) (y2 : Int64) (x4 : Int32) (σ : rb_St) : rb_TC (f_M_lookForEnding_b174 r0 x1 y2 x4 σ) (Sum.elim (fun z : (Int32 × rb_St) => rb_WK E k_M_lookForEnding d σ0 res 174 [some (va_rf r0), some (.int x1), some (.long y2), none, some (.int z.1), none, none, none, none] [] z.2) (fun r => r = res)) (rb_WK E k_M_lookForEnding d σ0 res 174 [some (va_rf r0), some (.int x1), some (.long y2), none, some (.int x4), none, none, none, none] [] σ) := by
  unfold f_M_lookForEnding_b174
  refine rb_TC.mono (rk_iload d_M_lookForEnding_174 rfl) ?_
  refine rb_TC.mono (rk_aload_n 0 d_M_lookForEnding_176 rfl rfl) ?_
  refine rt_gI r0 fw_M_261 d_M_lookForEnding_177 (fun x_4 => ?_)
  refine rt_icmp_ge 238 d_M_lookForEnding_180 (by decide) (fun _ => ?_) (fun _ => ?_)
  · refine rb_TC.out ?_
    refine rb_TC.mono (rk_less (lv2 := [none, none, none, none, none, none, none, none, none]) (rb_le_ok (rb_leN (rb_leN (rb_leN (rb_leN (rb_leN (rb_leN (rb_leN (rb_leN (rb_leN rb_le0))))))))))) ?_
    exact t_M_lookForEnding_j238 hdd   σ
  · refine rb_TC.mono (rk_aload_n 0 d_M_lookForEnding_183 rfl rfl) ?_
    refine rt_gR r0 fw_M_135 d_M_lookForEnding_184 (fun r_5 => ?_)
    refine rb_TC.mono (rk_iload_n 1 d_M_lookForEnding_187 rfl rfl) ?_
    refine rt_iald r_5 d_M_lookForEnding_188 (fun x_6 => ?_)
    refine rt_if_ge 238 d_M_lookForEnding_189 (by decide) (fun _ => ?_) (fun _ => ?_)
    · refine rb_TC.out ?_
      refine rb_TC.mono (rk_less (lv2 := [none, none, none, none, none, none, none, none, none]) (rb_le_ok (rb_leN (rb_leN (rb_leN (rb_leN (rb_leN (rb_leN (rb_leN (rb_leN (rb_leN rb_le0))))))))))) ?_
      exact t_M_lookForEnding_j238 hdd   σ
    · refine rb_TC.mono (rk_aload_n 0 d_M_lookForEnding_192 rfl rfl) ?_
      refine rb_TC.mono (rk_lload_n 2 d_M_lookForEnding_193 rfl rfl) ?_
      refine rb_TC.mono (rk_aload_n 0 d_M_lookForEnding_194 rfl rfl) ?_
      refine rt_gR r0 fw_M_51 d_M_lookForEnding_195 (fun r_7 => ?_)
      refine rb_TC.mono (rk_iload d_M_lookForEnding_198 rfl) ?_
      refine rt_lald r_7 d_M_lookForEnding_200 (fun y_8 => ?_)
      refine rb_TC.mono (rk_lconst (0 : Int64) d_M_lookForEnding_201 (by decide)) ?_
      refine rt_vI (As := [.long y2, .long y_8, .long (0 : Int64)]) (st := []) (r0) vw_M_362 (s_M_candidate (Nat.le_refl _) (r0) (y2) (y_8) ((0 : Int64)) σ) (Nat.le_trans (by decide) hdd) rfl (by simp [rb_cat_r, rb_cat_i, rb_cat_l]) d_M_lookForEnding_202 (fun x_9 σ_10 => ?_)
      refine rb_TC.mono (rk_istore (lv2 := [some (va_rf r0), some (.int x1), some (.long y2), none, some (.int x4), some (.int x_9), none, none, none]) d_M_lookForEnding_205 (by decide) (fun _ => rb_one_i) rfl) ?_
      refine rb_TC.mono (rk_iload d_M_lookForEnding_207 rfl) ?_
      refine rt_if_lt 232 d_M_lookForEnding_209 (by decide) (fun _ => ?_) (fun _ => ?_)
      · refine rb_TC.mono (rk_iinc (lv2 := [some (va_rf r0), some (.int x1), some (.long y2), none, some (.int (x4 + 1)), some (.int x_9), none, none, none]) (x4 + 1) d_M_lookForEnding_232 rfl rfl (by decide) (fun _ => rb_one_n) rfl) ?_
        refine rb_TC.mono (rk_goto 174 d_M_lookForEnding_235 (by decide)) ?_
        refine rb_TC.mono (rk_less (lv2 := [some (va_rf r0), some (.int x1), some (.long y2), none, some (.int (x4 + 1)), none, none, none, none]) (rb_le_ok (rb_leS (rb_leS (rb_leS (rb_leN (rb_leS (rb_leN (rb_leN (rb_leN (rb_leN rb_le0))))))))))) ?_
        exact rb_back
      · refine rb_TC.mono (rk_aload_n 0 d_M_lookForEnding_212 rfl rfl) ?_
        refine rb_TC.mono (rk_iload_n 1 d_M_lookForEnding_213 rfl rfl) ?_
        refine rb_TC.mono (rk_iload d_M_lookForEnding_214 rfl) ?_
        refine rb_TC.mono (rk_lload_n 2 d_M_lookForEnding_216 rfl rfl) ?_
        refine rb_TC.mono (rk_aload_n 0 d_M_lookForEnding_217 rfl rfl) ?_
        refine rb_TC.mono (rk_aload_n 0 d_M_lookForEnding_218 rfl rfl) ?_
        refine rt_gR r0 fw_M_51 d_M_lookForEnding_219 (fun r_11 => ?_)
        refine rb_TC.mono (rk_iload d_M_lookForEnding_222 rfl) ?_
        refine rt_lald r_11 d_M_lookForEnding_224 (fun y_12 => ?_)
        refine rb_TC.mono (rk_lconst (0 : Int64) d_M_lookForEnding_225 (by decide)) ?_
        refine rt_vI (As := [.long y_12, .long (0 : Int64)]) (st := [.long y2, .int x_9, .int x1, va_rf r0]) (r0) vw_M_355 (s_M_endingOf (Nat.le_refl _) (r0) (y_12) ((0 : Int64)) σ_10) (Nat.le_trans (by decide) hdd) rfl (by simp [rb_cat_r, rb_cat_i, rb_cat_l]) d_M_lookForEnding_226 (fun x_13 σ_14 => ?_)
        refine rt_vV (As := [.int x1, .int x_9, .long y2, .int x_13]) (st := []) (r0) vw_M_366 (s_M_take (Nat.le_refl _) (r0) (x1) (x_9) (y2) (x_13) σ_14) (Nat.le_trans (by decide) hdd) rfl (by simp [rb_cat_r, rb_cat_i, rb_cat_l]) d_M_lookForEnding_229 (fun σ_15 => ?_)
        refine rb_TC.mono (rk_iinc (lv2 := [some (va_rf r0), some (.int x1), some (.long y2), none, some (.int (x4 + 1)), some (.int x_9), none, none, none]) (x4 + 1) d_M_lookForEnding_232 rfl rfl (by decide) (fun _ => rb_one_n) rfl) ?_
        refine rb_TC.mono (rk_goto 174 d_M_lookForEnding_235 (by decide)) ?_
        refine rb_TC.mono (rk_less (lv2 := [some (va_rf r0), some (.int x1), some (.long y2), none, some (.int (x4 + 1)), none, none, none, none]) (rb_le_ok (rb_leS (rb_leS (rb_leS (rb_leN (rb_leS (rb_leN (rb_leN (rb_leN (rb_leN rb_le0))))))))))) ?_
        exact rb_back
noncomputable def f_M_lookForEnding_j165 (r0 : Option Nat) (x1 : Int32) (y2 : Int64) (x4 : Int32) (σ : rb_St) : Option ((Int32 × rb_St) ⊕ rb_Rs) :=
  some (.inl ((x4 + 1), σ))
theorem t_M_lookForEnding_j165 {E : rb_EV} {d : Nat} {σ0 : rb_St} {res : rb_Rs} (hdd : 2 ≤ d)  (r0 : Option Nat) (x1 : Int32) (y2 : Int64) (x4 : Int32) (σ : rb_St) : rb_TC (f_M_lookForEnding_j165 r0 x1 y2 x4 σ) (Sum.elim (fun z : (Int32 × rb_St) => rb_WK E k_M_lookForEnding d σ0 res 10 [some (va_rf r0), some (.int x1), some (.long y2), none, some (.int z.1), none, none, none, none] [] z.2) (fun r => r = res)) (rb_WK E k_M_lookForEnding d σ0 res 165 [some (va_rf r0), some (.int x1), some (.long y2), none, some (.int x4), none, none, none, none] [] σ) := by
  unfold f_M_lookForEnding_j165
  refine rb_TC.mono (rk_iinc (lv2 := [some (va_rf r0), some (.int x1), some (.long y2), none, some (.int (x4 + 1)), none, none, none, none]) (x4 + 1) d_M_lookForEnding_165 rfl rfl (by decide) (fun _ => rb_one_n) rfl) ?_
  refine rb_TC.mono (rk_goto 10 d_M_lookForEnding_168 (by decide)) ?_
  exact rb_back
noncomputable def f_M_lookForEnding_b72 (r0 : Option Nat) (x1 : Int32) (y2 : Int64) (x4 : Int32) (x5 : Int32) (x6 : Int32) (x7 : Int32) (σ : rb_St) : Option ((Int32 × rb_St) ⊕ ((Int32 × rb_St) ⊕ rb_Rs)) :=
  (rb_gI σ r0 13 18).bind fun x_22 => if x_22 ≤ x7 then ((f_M_lookForEnding_j165 (r0) (x1) (y2) (x4) σ).map Sum.inr) else (if x6 = 0 then ((f_M_lookForEnding_j165 (r0) (x1) (y2) (x4) σ).map Sum.inr) else ((rb_gR σ r0 13 61).bind fun r_23 => (rb_aI σ r_23 102 x1).bind fun x_24 => if 0 ≤ x_24 then ((f_M_lookForEnding_j165 (r0) (x1) (y2) (x4) σ).map Sum.inr) else ((rb_gR σ r0 13 17).bind fun r_25 => (rb_aL σ r_25 103 x7).bind fun y_26 => (rb_gR σ r0 13 17).bind fun r_27 => (rb_aL σ r_27 103 x4).bind fun y_28 => (rb_fc σ r0 13).bind fun _ => rb_cI (f_M_candidate (r0) ((y2 >>> (((7 : Int32) * x5).toInt64 &&& 63))) (y_26) (y_28) σ) fun x_29 σ_30 => if x_29 < 0 then (some (.inl ((x7 + 1), σ_30))) else ((rb_gR σ_30 r0 13 17).bind fun r_31 => (rb_aL σ_30 r_31 103 x7).bind fun y_32 => (rb_gR σ_30 r0 13 17).bind fun r_33 => (rb_aL σ_30 r_33 103 x4).bind fun y_34 => (rb_fc σ_30 r0 13).bind fun _ => rb_cI (f_M_endingOf (r0) (y_32) (y_34) σ_30) fun x_35 σ_36 => (rb_fc σ_36 r0 13).bind fun _ => rb_cV (f_M_take (r0) (x1) (x_29) ((y2 >>> (((7 : Int32) * x5).toInt64 &&& 63))) (x_35) σ_36) fun σ_37 => some (.inl ((x7 + 1), σ_37))))))
theorem t_M_lookForEnding_b72 {E : rb_EV} {d : Nat} {σ0 : rb_St} {res : rb_Rs} (hdd : 2 ≤ d)  (r0 : Option Nat) (x1 : Int32) (y2 : Int64) (x4 : Int32) (x5 : Int32) (x6 : Int32) (x7 : Int32) (σ : rb_St) : rb_TC (f_M_lookForEnding_b72 r0 x1 y2 x4 x5 x6 x7 σ) (Sum.elim (fun z : (Int32 × rb_St) => rb_WK E k_M_lookForEnding d σ0 res 72 [some (va_rf r0), some (.int x1), some (.long y2), none, some (.int x4), some (.int x5), some (.int x6), some (.int z.1), none] [] z.2) (Sum.elim (fun z : (Int32 × rb_St) => rb_WK E k_M_lookForEnding d σ0 res 10 [some (va_rf r0), some (.int x1), some (.long y2), none, some (.int z.1), none, none, none, none] [] z.2) (fun r => r = res))) (rb_WK E k_M_lookForEnding d σ0 res 72 [some (va_rf r0), some (.int x1), some (.long y2), none, some (.int x4), some (.int x5), some (.int x6), some (.int x7), none] [] σ) := by
  unfold f_M_lookForEnding_b72
  refine rb_TC.mono (rk_iload d_M_lookForEnding_72 rfl) ?_
  refine rb_TC.mono (rk_aload_n 0 d_M_lookForEnding_74 rfl rfl) ?_
  refine rt_gI r0 fw_M_261 d_M_lookForEnding_75 (fun x_22 => ?_)
  refine rt_icmp_ge 165 d_M_lookForEnding_78 (by decide) (fun _ => ?_) (fun _ => ?_)
  · refine rb_TC.out ?_
    refine rb_TC.mono (rk_less (lv2 := [some (va_rf r0), some (.int x1), some (.long y2), none, some (.int x4), none, none, none, none]) (rb_le_ok (rb_leS (rb_leS (rb_leS (rb_leN (rb_leS (rb_leN (rb_leN (rb_leN (rb_leN rb_le0))))))))))) ?_
    exact t_M_lookForEnding_j165 hdd  (r0) (x1) (y2) (x4) σ
  · refine rb_TC.mono (rk_iload d_M_lookForEnding_81 rfl) ?_
    refine rt_if_eq 165 d_M_lookForEnding_83 (by decide) (fun _ => ?_) (fun _ => ?_)
    · refine rb_TC.out ?_
      refine rb_TC.mono (rk_less (lv2 := [some (va_rf r0), some (.int x1), some (.long y2), none, some (.int x4), none, none, none, none]) (rb_le_ok (rb_leS (rb_leS (rb_leS (rb_leN (rb_leS (rb_leN (rb_leN (rb_leN (rb_leN rb_le0))))))))))) ?_
      exact t_M_lookForEnding_j165 hdd  (r0) (x1) (y2) (x4) σ
    · refine rb_TC.mono (rk_aload_n 0 d_M_lookForEnding_86 rfl rfl) ?_
      refine rt_gR r0 fw_M_135 d_M_lookForEnding_87 (fun r_23 => ?_)
      refine rb_TC.mono (rk_iload_n 1 d_M_lookForEnding_90 rfl rfl) ?_
      refine rt_iald r_23 d_M_lookForEnding_91 (fun x_24 => ?_)
      refine rt_if_ge 165 d_M_lookForEnding_92 (by decide) (fun _ => ?_) (fun _ => ?_)
      · refine rb_TC.out ?_
        refine rb_TC.mono (rk_less (lv2 := [some (va_rf r0), some (.int x1), some (.long y2), none, some (.int x4), none, none, none, none]) (rb_le_ok (rb_leS (rb_leS (rb_leS (rb_leN (rb_leS (rb_leN (rb_leN (rb_leN (rb_leN rb_le0))))))))))) ?_
        exact t_M_lookForEnding_j165 hdd  (r0) (x1) (y2) (x4) σ
      · refine rb_TC.mono (rk_aload_n 0 d_M_lookForEnding_95 rfl rfl) ?_
        refine rb_TC.mono (rk_lload_n 2 d_M_lookForEnding_96 rfl rfl) ?_
        refine rb_TC.mono (rk_bipush (7 : Int32) d_M_lookForEnding_97 (by decide)) ?_
        refine rb_TC.mono (rk_iload d_M_lookForEnding_99 rfl) ?_
        refine rb_TC.mono (rk_imul d_M_lookForEnding_101) ?_
        refine rb_TC.mono (rk_lshr d_M_lookForEnding_102) ?_
        refine rb_TC.mono (rk_aload_n 0 d_M_lookForEnding_103 rfl rfl) ?_
        refine rt_gR r0 fw_M_51 d_M_lookForEnding_104 (fun r_25 => ?_)
        refine rb_TC.mono (rk_iload d_M_lookForEnding_107 rfl) ?_
        refine rt_lald r_25 d_M_lookForEnding_109 (fun y_26 => ?_)
        refine rb_TC.mono (rk_aload_n 0 d_M_lookForEnding_110 rfl rfl) ?_
        refine rt_gR r0 fw_M_51 d_M_lookForEnding_111 (fun r_27 => ?_)
        refine rb_TC.mono (rk_iload d_M_lookForEnding_114 rfl) ?_
        refine rt_lald r_27 d_M_lookForEnding_116 (fun y_28 => ?_)
        refine rt_vI (As := [.long (y2 >>> (((7 : Int32) * x5).toInt64 &&& 63)), .long y_26, .long y_28]) (st := []) (r0) vw_M_362 (s_M_candidate (Nat.le_refl _) (r0) ((y2 >>> (((7 : Int32) * x5).toInt64 &&& 63))) (y_26) (y_28) σ) (Nat.le_trans (by decide) hdd) rfl (by simp [rb_cat_r, rb_cat_i, rb_cat_l]) d_M_lookForEnding_117 (fun x_29 σ_30 => ?_)
        refine rb_TC.mono (rk_istore (lv2 := [some (va_rf r0), some (.int x1), some (.long y2), none, some (.int x4), some (.int x5), some (.int x6), some (.int x7), some (.int x_29)]) d_M_lookForEnding_120 (by decide) (fun _ => rb_one_i) rfl) ?_
        refine rb_TC.mono (rk_iload d_M_lookForEnding_122 rfl) ?_
        refine rt_if_lt 159 d_M_lookForEnding_124 (by decide) (fun _ => ?_) (fun _ => ?_)
        · refine rb_TC.mono (rk_iinc (lv2 := [some (va_rf r0), some (.int x1), some (.long y2), none, some (.int x4), some (.int x5), some (.int x6), some (.int (x7 + 1)), some (.int x_29)]) (x7 + 1) d_M_lookForEnding_159 rfl rfl (by decide) (fun _ => rb_one_i) rfl) ?_
          refine rb_TC.mono (rk_goto 72 d_M_lookForEnding_162 (by decide)) ?_
          refine rb_TC.mono (rk_less (lv2 := [some (va_rf r0), some (.int x1), some (.long y2), none, some (.int x4), some (.int x5), some (.int x6), some (.int (x7 + 1)), none]) (rb_le_ok (rb_leS (rb_leS (rb_leS (rb_leN (rb_leS (rb_leS (rb_leS (rb_leS (rb_leN rb_le0))))))))))) ?_
          exact rb_back
        · refine rb_TC.mono (rk_aload_n 0 d_M_lookForEnding_127 rfl rfl) ?_
          refine rb_TC.mono (rk_iload_n 1 d_M_lookForEnding_128 rfl rfl) ?_
          refine rb_TC.mono (rk_iload d_M_lookForEnding_129 rfl) ?_
          refine rb_TC.mono (rk_lload_n 2 d_M_lookForEnding_131 rfl rfl) ?_
          refine rb_TC.mono (rk_bipush (7 : Int32) d_M_lookForEnding_132 (by decide)) ?_
          refine rb_TC.mono (rk_iload d_M_lookForEnding_134 rfl) ?_
          refine rb_TC.mono (rk_imul d_M_lookForEnding_136) ?_
          refine rb_TC.mono (rk_lshr d_M_lookForEnding_137) ?_
          refine rb_TC.mono (rk_aload_n 0 d_M_lookForEnding_138 rfl rfl) ?_
          refine rb_TC.mono (rk_aload_n 0 d_M_lookForEnding_139 rfl rfl) ?_
          refine rt_gR r0 fw_M_51 d_M_lookForEnding_140 (fun r_31 => ?_)
          refine rb_TC.mono (rk_iload d_M_lookForEnding_143 rfl) ?_
          refine rt_lald r_31 d_M_lookForEnding_145 (fun y_32 => ?_)
          refine rb_TC.mono (rk_aload_n 0 d_M_lookForEnding_146 rfl rfl) ?_
          refine rt_gR r0 fw_M_51 d_M_lookForEnding_147 (fun r_33 => ?_)
          refine rb_TC.mono (rk_iload d_M_lookForEnding_150 rfl) ?_
          refine rt_lald r_33 d_M_lookForEnding_152 (fun y_34 => ?_)
          refine rt_vI (As := [.long y_32, .long y_34]) (st := [.long (y2 >>> (((7 : Int32) * x5).toInt64 &&& 63)), .int x_29, .int x1, va_rf r0]) (r0) vw_M_355 (s_M_endingOf (Nat.le_refl _) (r0) (y_32) (y_34) σ_30) (Nat.le_trans (by decide) hdd) rfl (by simp [rb_cat_r, rb_cat_i, rb_cat_l]) d_M_lookForEnding_153 (fun x_35 σ_36 => ?_)
          refine rt_vV (As := [.int x1, .int x_29, .long (y2 >>> (((7 : Int32) * x5).toInt64 &&& 63)), .int x_35]) (st := []) (r0) vw_M_366 (s_M_take (Nat.le_refl _) (r0) (x1) (x_29) ((y2 >>> (((7 : Int32) * x5).toInt64 &&& 63))) (x_35) σ_36) (Nat.le_trans (by decide) hdd) rfl (by simp [rb_cat_r, rb_cat_i, rb_cat_l]) d_M_lookForEnding_156 (fun σ_37 => ?_)
          refine rb_TC.mono (rk_iinc (lv2 := [some (va_rf r0), some (.int x1), some (.long y2), none, some (.int x4), some (.int x5), some (.int x6), some (.int (x7 + 1)), some (.int x_29)]) (x7 + 1) d_M_lookForEnding_159 rfl rfl (by decide) (fun _ => rb_one_i) rfl) ?_
          refine rb_TC.mono (rk_goto 72 d_M_lookForEnding_162 (by decide)) ?_
          refine rb_TC.mono (rk_less (lv2 := [some (va_rf r0), some (.int x1), some (.long y2), none, some (.int x4), some (.int x5), some (.int x6), some (.int (x7 + 1)), none]) (rb_le_ok (rb_leS (rb_leS (rb_leS (rb_leN (rb_leS (rb_leS (rb_leS (rb_leS (rb_leN rb_le0))))))))))) ?_
          exact rb_back
noncomputable def f_M_lookForEnding_b10 (r0 : Option Nat) (x1 : Int32) (y2 : Int64) (x4 : Int32) (σ : rb_St) : Option ((Int32 × rb_St) ⊕ rb_Rs) :=
  (rb_gI σ r0 13 18).bind fun x_3 => if x_3 ≤ x4 then ((rb_it (fun z : (Int32 × rb_St) => f_M_lookForEnding_b174 (r0) (x1) (y2) (z.1) z.2) ((0 : Int32), σ)).map Sum.inr) else ((rb_gR σ r0 13 17).bind fun r_16 => (rb_aL σ r_16 103 x4).bind fun y_17 => rb_cI (f_M_length (y_17) σ) fun x_18 σ_19 => rb_cI (f_M_length (y2) σ_19) fun x_20 σ_21 => if x_20 ≤ x_18 then (rb_it (fun z : (Int32 × rb_St) => f_M_lookForEnding_b72 (r0) (x1) (y2) (x4) (x_18) ((0 : Int32)) (z.1) z.2) ((0 : Int32), σ_21)) else ((rb_gR σ_21 r0 13 17).bind fun r_38 => (rb_aL σ_21 r_38 103 x4).bind fun y_39 => if (lg_cmp (y2 &&& (((1 : Int64) <<< (((7 : Int32) * x_18).toInt64 &&& 63)) - (1 : Int64))) y_39) = 0 then (rb_it (fun z : (Int32 × rb_St) => f_M_lookForEnding_b72 (r0) (x1) (y2) (x4) (x_18) ((1 : Int32)) (z.1) z.2) ((0 : Int32), σ_21)) else (rb_it (fun z : (Int32 × rb_St) => f_M_lookForEnding_b72 (r0) (x1) (y2) (x4) (x_18) ((0 : Int32)) (z.1) z.2) ((0 : Int32), σ_21))))
theorem t_M_lookForEnding_b10 {E : rb_EV} {d : Nat} {σ0 : rb_St} {res : rb_Rs} (hdd : 2 ≤ d)  (r0 : Option Nat) (x1 : Int32) (y2 : Int64) (x4 : Int32) (σ : rb_St) : rb_TC (f_M_lookForEnding_b10 r0 x1 y2 x4 σ) (Sum.elim (fun z : (Int32 × rb_St) => rb_WK E k_M_lookForEnding d σ0 res 10 [some (va_rf r0), some (.int x1), some (.long y2), none, some (.int z.1), none, none, none, none] [] z.2) (fun r => r = res)) (rb_WK E k_M_lookForEnding d σ0 res 10 [some (va_rf r0), some (.int x1), some (.long y2), none, some (.int x4), none, none, none, none] [] σ) := by
  unfold f_M_lookForEnding_b10
  refine rb_TC.mono (rk_iload d_M_lookForEnding_10 rfl) ?_
  refine rb_TC.mono (rk_aload_n 0 d_M_lookForEnding_12 rfl rfl) ?_
  refine rt_gI r0 fw_M_261 d_M_lookForEnding_13 (fun x_3 => ?_)
  refine rt_icmp_ge 171 d_M_lookForEnding_16 (by decide) (fun _ => ?_) (fun _ => ?_)
  · refine rb_TC.out ?_
    refine rb_TC.mono (rk_iconst (0 : Int32) d_M_lookForEnding_171 (by decide)) ?_
    refine rb_TC.mono (rk_istore (lv2 := [some (va_rf r0), some (.int x1), some (.long y2), none, some (.int (0 : Int32)), none, none, none, none]) d_M_lookForEnding_172 (by decide) (fun _ => rb_one_n) rfl) ?_
    exact rb_TC.loop2 (A := (fun z : (Int32 × rb_St) => rb_WK E k_M_lookForEnding d σ0 res 174 [some (va_rf r0), some (.int x1), some (.long y2), none, some (.int z.1), none, none, none, none] [] z.2)) ((0 : Int32), σ) (fun z => t_M_lookForEnding_b174 hdd  (r0) (x1) (y2) (z.1) z.2)
  · refine rb_TC.mono (rk_aload_n 0 d_M_lookForEnding_19 rfl rfl) ?_
    refine rt_gR r0 fw_M_51 d_M_lookForEnding_20 (fun r_16 => ?_)
    refine rb_TC.mono (rk_iload d_M_lookForEnding_23 rfl) ?_
    refine rt_lald r_16 d_M_lookForEnding_25 (fun y_17 => ?_)
    refine rt_sI (As := [.long y_17]) (st := []) sw_M_167 (s_M_length (Nat.le_refl _) (y_17) σ) (Nat.le_trans (by decide) hdd) rfl (by simp [rb_cat_r, rb_cat_i, rb_cat_l]) d_M_lookForEnding_26 (fun x_18 σ_19 => ?_)
    refine rb_TC.mono (rk_istore (lv2 := [some (va_rf r0), some (.int x1), some (.long y2), none, some (.int x4), some (.int x_18), none, none, none]) d_M_lookForEnding_29 (by decide) (fun _ => rb_one_i) rfl) ?_
    refine rb_TC.mono (rk_lload_n 2 d_M_lookForEnding_31 rfl rfl) ?_
    refine rt_sI (As := [.long y2]) (st := []) sw_M_167 (s_M_length (Nat.le_refl _) (y2) σ_19) (Nat.le_trans (by decide) hdd) rfl (by simp [rb_cat_r, rb_cat_i, rb_cat_l]) d_M_lookForEnding_32 (fun x_20 σ_21 => ?_)
    refine rb_TC.mono (rk_iload d_M_lookForEnding_35 rfl) ?_
    refine rt_icmp_le 66 d_M_lookForEnding_37 (by decide) (fun _ => ?_) (fun _ => ?_)
    · refine rb_TC.mono (rk_iconst (0 : Int32) d_M_lookForEnding_66 (by decide)) ?_
      refine rb_TC.mono (rk_istore (lv2 := [some (va_rf r0), some (.int x1), some (.long y2), none, some (.int x4), some (.int x_18), some (.int (0 : Int32)), none, none]) d_M_lookForEnding_67 (by decide) (fun _ => rb_one_i) rfl) ?_
      refine rb_TC.mono (rk_iconst (0 : Int32) d_M_lookForEnding_69 (by decide)) ?_
      refine rb_TC.mono (rk_istore (lv2 := [some (va_rf r0), some (.int x1), some (.long y2), none, some (.int x4), some (.int x_18), some (.int (0 : Int32)), some (.int (0 : Int32)), none]) d_M_lookForEnding_70 (by decide) (fun _ => rb_one_i) rfl) ?_
      exact rb_TC.loop2 (A := (fun z : (Int32 × rb_St) => rb_WK E k_M_lookForEnding d σ0 res 72 [some (va_rf r0), some (.int x1), some (.long y2), none, some (.int x4), some (.int x_18), some (.int (0 : Int32)), some (.int z.1), none] [] z.2)) ((0 : Int32), σ_21) (fun z => t_M_lookForEnding_b72 hdd  (r0) (x1) (y2) (x4) (x_18) ((0 : Int32)) (z.1) z.2)
    · refine rb_TC.mono (rk_lload_n 2 d_M_lookForEnding_40 rfl rfl) ?_
      refine rb_TC.mono (rk_lconst (1 : Int64) d_M_lookForEnding_41 (by decide)) ?_
      refine rb_TC.mono (rk_bipush (7 : Int32) d_M_lookForEnding_42 (by decide)) ?_
      refine rb_TC.mono (rk_iload d_M_lookForEnding_44 rfl) ?_
      refine rb_TC.mono (rk_imul d_M_lookForEnding_46) ?_
      refine rb_TC.mono (rk_lshl d_M_lookForEnding_47) ?_
      refine rb_TC.mono (rk_lconst (1 : Int64) d_M_lookForEnding_48 (by decide)) ?_
      refine rb_TC.mono (rk_lsub d_M_lookForEnding_49) ?_
      refine rb_TC.mono (rk_land d_M_lookForEnding_50) ?_
      refine rb_TC.mono (rk_aload_n 0 d_M_lookForEnding_51 rfl rfl) ?_
      refine rt_gR r0 fw_M_51 d_M_lookForEnding_52 (fun r_38 => ?_)
      refine rb_TC.mono (rk_iload d_M_lookForEnding_55 rfl) ?_
      refine rt_lald r_38 d_M_lookForEnding_57 (fun y_39 => ?_)
      refine rb_TC.mono (rk_lcmp d_M_lookForEnding_58) ?_
      refine rt_if_ne 66 d_M_lookForEnding_59 (by decide) (fun _ => ?_) (fun _ => ?_)
      · refine rb_TC.mono (rk_iconst (1 : Int32) d_M_lookForEnding_62 (by decide)) ?_
        refine rb_TC.mono (rk_goto 67 d_M_lookForEnding_63 (by decide)) ?_
        refine rb_TC.mono (rk_istore (lv2 := [some (va_rf r0), some (.int x1), some (.long y2), none, some (.int x4), some (.int x_18), some (.int (1 : Int32)), none, none]) d_M_lookForEnding_67 (by decide) (fun _ => rb_one_i) rfl) ?_
        refine rb_TC.mono (rk_iconst (0 : Int32) d_M_lookForEnding_69 (by decide)) ?_
        refine rb_TC.mono (rk_istore (lv2 := [some (va_rf r0), some (.int x1), some (.long y2), none, some (.int x4), some (.int x_18), some (.int (1 : Int32)), some (.int (0 : Int32)), none]) d_M_lookForEnding_70 (by decide) (fun _ => rb_one_i) rfl) ?_
        exact rb_TC.loop2 (A := (fun z : (Int32 × rb_St) => rb_WK E k_M_lookForEnding d σ0 res 72 [some (va_rf r0), some (.int x1), some (.long y2), none, some (.int x4), some (.int x_18), some (.int (1 : Int32)), some (.int z.1), none] [] z.2)) ((0 : Int32), σ_21) (fun z => t_M_lookForEnding_b72 hdd  (r0) (x1) (y2) (x4) (x_18) ((1 : Int32)) (z.1) z.2)
      · refine rb_TC.mono (rk_iconst (0 : Int32) d_M_lookForEnding_66 (by decide)) ?_
        refine rb_TC.mono (rk_istore (lv2 := [some (va_rf r0), some (.int x1), some (.long y2), none, some (.int x4), some (.int x_18), some (.int (0 : Int32)), none, none]) d_M_lookForEnding_67 (by decide) (fun _ => rb_one_i) rfl) ?_
        refine rb_TC.mono (rk_iconst (0 : Int32) d_M_lookForEnding_69 (by decide)) ?_
        refine rb_TC.mono (rk_istore (lv2 := [some (va_rf r0), some (.int x1), some (.long y2), none, some (.int x4), some (.int x_18), some (.int (0 : Int32)), some (.int (0 : Int32)), none]) d_M_lookForEnding_70 (by decide) (fun _ => rb_one_i) rfl) ?_
        exact rb_TC.loop2 (A := (fun z : (Int32 × rb_St) => rb_WK E k_M_lookForEnding d σ0 res 72 [some (va_rf r0), some (.int x1), some (.long y2), none, some (.int x4), some (.int x_18), some (.int (0 : Int32)), some (.int z.1), none] [] z.2)) ((0 : Int32), σ_21) (fun z => t_M_lookForEnding_b72 hdd  (r0) (x1) (y2) (x4) (x_18) ((0 : Int32)) (z.1) z.2)
noncomputable def f_M_lookForEnding (r0 : Option Nat) (x1 : Int32) (σ : rb_St) : Option rb_Rs :=
  (rb_gR σ r0 13 3).bind fun r_1 => (rb_aL σ r_1 103 x1).bind fun y_2 => rb_it (fun z : (Int32 × rb_St) => f_M_lookForEnding_b10 (r0) (x1) (y_2) (z.1) z.2) ((0 : Int32), σ)
theorem s_M_lookForEnding {E : rb_EV} {d : Nat} (hdd : 2 ≤ d) (r0 : Option Nat) (x1 : Int32) (σ : rb_St) : rb_Does E k_M_lookForEnding d [va_rf r0, .int x1] σ (f_M_lookForEnding r0 x1 σ) := by
  refine rb_start (lv := [some (va_rf r0), some (.int x1), none, none, none, none, none, none, none]) (by decide) (by simp [lg_sl, rb_as, lv_args, rb_cat_r, rb_cat_i, rb_cat_l, rb_nL, k_M_lookForEnding]) (fun res => ?_)
  unfold f_M_lookForEnding
  refine rb_TC.mono (rk_aload_n 0 d_M_lookForEnding_0 rfl rfl) ?_
  refine rt_gR r0 fw_M_13 d_M_lookForEnding_1 (fun r_1 => ?_)
  refine rb_TC.mono (rk_iload_n 1 d_M_lookForEnding_4 rfl rfl) ?_
  refine rt_lald r_1 d_M_lookForEnding_5 (fun y_2 => ?_)
  refine rb_TC.mono (rk_lstore_n (lv2 := [some (va_rf r0), some (.int x1), some (.long y_2), none, none, none, none, none, none]) 2 d_M_lookForEnding_6 rfl (by decide) (fun _ => rb_one_i) rfl) ?_
  refine rb_TC.mono (rk_iconst (0 : Int32) d_M_lookForEnding_7 (by decide)) ?_
  refine rb_TC.mono (rk_istore (lv2 := [some (va_rf r0), some (.int x1), some (.long y_2), none, some (.int (0 : Int32)), none, none, none, none]) d_M_lookForEnding_8 (by decide) (fun _ => rb_one_n) rfl) ?_
  exact rb_TC.loop2 (A := (fun z : (Int32 × rb_St) => rb_WK E k_M_lookForEnding d σ res 10 [some (va_rf r0), some (.int x1), some (.long y_2), none, some (.int z.1), none, none, none, none] [] z.2)) ((0 : Int32), σ) (fun z => t_M_lookForEnding_b10 hdd  (r0) (x1) (y_2) (z.1) z.2)
-- ===== RuleBuilderModel.begin(I)V
def k_M_begin : rb_MK := (⟨"RuleBuilderModel", "begin", "(I)V"⟩, prog_14_method_48_code, 2, none)
theorem mw_M_begin : rb_Mw k_M_begin 1 := ⟨rb_inG 1622 (by decide +kernel) rfl, rb_inG 94 (by decide +kernel) rfl, ⟨by decide, by decide, by decide +kernel⟩, by decide⟩
theorem fw_M_373 : rb_Fw "RuleBuilderModel" 373 13 66 := ⟨_, rfl, by decide, by decide, by decide, rfl, rb_inG 1286 (by decide +kernel) rfl⟩
theorem fp_M_begin_373 : rb_Fp k_M_begin 373 13 66 .int := ⟨fw_M_373, rfl, fun q h => by cases h; exact Or.inl rfl⟩
theorem vw_M_370 : rb_Vw "RuleBuilderModel" 370 k_M_lookForEnding 13 1 := ⟨mw_M_lookForEnding, rb_inG 1623 (by decide +kernel) rfl, rb_inG 1625 (by decide +kernel) rfl, rb_inG 69 (by decide +kernel) rfl, by decide, by decide, _, rfl, rfl⟩
theorem d_M_begin_0 : decode prog_14_method_48_code 0 = .ok (.aload_n 0, 1) := by decide +kernel
theorem d_M_begin_1 : decode prog_14_method_48_code 1 = .ok (.getfield 135, 3) := by decide +kernel
theorem d_M_begin_4 : decode prog_14_method_48_code 4 = .ok (.iload_n 1, 1) := by decide +kernel
theorem d_M_begin_5 : decode prog_14_method_48_code 5 = .ok (.iconst (-1), 1) := by decide +kernel
theorem d_M_begin_6 : decode prog_14_method_48_code 6 = .ok (.iastore, 1) := by decide +kernel
theorem d_M_begin_7 : decode prog_14_method_48_code 7 = .ok (.aload_n 0, 1) := by decide +kernel
theorem d_M_begin_8 : decode prog_14_method_48_code 8 = .ok (.getfield 141, 3) := by decide +kernel
theorem d_M_begin_11 : decode prog_14_method_48_code 11 = .ok (.iload_n 1, 1) := by decide +kernel
theorem d_M_begin_12 : decode prog_14_method_48_code 12 = .ok (.aload_n 0, 1) := by decide +kernel
theorem d_M_begin_13 : decode prog_14_method_48_code 13 = .ok (.getfield 66, 3) := by decide +kernel
theorem d_M_begin_16 : decode prog_14_method_48_code 16 = .ok (.iload_n 1, 1) := by decide +kernel
theorem d_M_begin_17 : decode prog_14_method_48_code 17 = .ok (.iaload, 1) := by decide +kernel
theorem d_M_begin_18 : decode prog_14_method_48_code 18 = .ok (.iastore, 1) := by decide +kernel
theorem d_M_begin_19 : decode prog_14_method_48_code 19 = .ok (.aload_n 0, 1) := by decide +kernel
theorem d_M_begin_20 : decode prog_14_method_48_code 20 = .ok (.getfield 144, 3) := by decide +kernel
theorem d_M_begin_23 : decode prog_14_method_48_code 23 = .ok (.iload_n 1, 1) := by decide +kernel
theorem d_M_begin_24 : decode prog_14_method_48_code 24 = .ok (.iconst 0, 1) := by decide +kernel
theorem d_M_begin_25 : decode prog_14_method_48_code 25 = .ok (.bastore, 1) := by decide +kernel
theorem d_M_begin_26 : decode prog_14_method_48_code 26 = .ok (.aload_n 0, 1) := by decide +kernel
theorem d_M_begin_27 : decode prog_14_method_48_code 27 = .ok (.getfield 129, 3) := by decide +kernel
theorem d_M_begin_30 : decode prog_14_method_48_code 30 = .ok (.iload_n 1, 1) := by decide +kernel
theorem d_M_begin_31 : decode prog_14_method_48_code 31 = .ok (.iconst 0, 1) := by decide +kernel
theorem d_M_begin_32 : decode prog_14_method_48_code 32 = .ok (.bastore, 1) := by decide +kernel
theorem d_M_begin_33 : decode prog_14_method_48_code 33 = .ok (.aload_n 0, 1) := by decide +kernel
theorem d_M_begin_34 : decode prog_14_method_48_code 34 = .ok (.getfield 132, 3) := by decide +kernel
theorem d_M_begin_37 : decode prog_14_method_48_code 37 = .ok (.iload_n 1, 1) := by decide +kernel
theorem d_M_begin_38 : decode prog_14_method_48_code 38 = .ok (.iconst 0, 1) := by decide +kernel
theorem d_M_begin_39 : decode prog_14_method_48_code 39 = .ok (.iastore, 1) := by decide +kernel
theorem d_M_begin_40 : decode prog_14_method_48_code 40 = .ok (.aload_n 0, 1) := by decide +kernel
theorem d_M_begin_41 : decode prog_14_method_48_code 41 = .ok (.getfield 66, 3) := by decide +kernel
theorem d_M_begin_44 : decode prog_14_method_48_code 44 = .ok (.iload_n 1, 1) := by decide +kernel
theorem d_M_begin_45 : decode prog_14_method_48_code 45 = .ok (.iaload, 1) := by decide +kernel
theorem d_M_begin_46 : decode prog_14_method_48_code 46 = .ok (.ifCond .ge 8, 3) := by decide +kernel
theorem d_M_begin_49 : decode prog_14_method_48_code 49 = .ok (.aload_n 0, 1) := by decide +kernel
theorem d_M_begin_50 : decode prog_14_method_48_code 50 = .ok (.iload_n 1, 1) := by decide +kernel
theorem d_M_begin_51 : decode prog_14_method_48_code 51 = .ok (.invokevirtual 370, 3) := by decide +kernel
theorem d_M_begin_54 : decode prog_14_method_48_code 54 = .ok (.aload_n 0, 1) := by decide +kernel
theorem d_M_begin_55 : decode prog_14_method_48_code 55 = .ok (.getfield 66, 3) := by decide +kernel
theorem d_M_begin_58 : decode prog_14_method_48_code 58 = .ok (.iload_n 1, 1) := by decide +kernel
theorem d_M_begin_59 : decode prog_14_method_48_code 59 = .ok (.iaload, 1) := by decide +kernel
theorem d_M_begin_60 : decode prog_14_method_48_code 60 = .ok (.ifCond .ge 76, 3) := by decide +kernel
theorem d_M_begin_63 : decode prog_14_method_48_code 63 = .ok (.aload_n 0, 1) := by decide +kernel
theorem d_M_begin_64 : decode prog_14_method_48_code 64 = .ok (.getfield 135, 3) := by decide +kernel
theorem d_M_begin_67 : decode prog_14_method_48_code 67 = .ok (.iload_n 1, 1) := by decide +kernel
theorem d_M_begin_68 : decode prog_14_method_48_code 68 = .ok (.iaload, 1) := by decide +kernel
theorem d_M_begin_69 : decode prog_14_method_48_code 69 = .ok (.ifCond .ge 67, 3) := by decide +kernel
theorem d_M_begin_72 : decode prog_14_method_48_code 72 = .ok (.aload_n 0, 1) := by decide +kernel
theorem d_M_begin_73 : decode prog_14_method_48_code 73 = .ok (.getfield 63, 3) := by decide +kernel
theorem d_M_begin_76 : decode prog_14_method_48_code 76 = .ok (.iload_n 1, 1) := by decide +kernel
theorem d_M_begin_77 : decode prog_14_method_48_code 77 = .ok (.baload, 1) := by decide +kernel
theorem d_M_begin_78 : decode prog_14_method_48_code 78 = .ok (.ifCond .ne 58, 3) := by decide +kernel
theorem d_M_begin_81 : decode prog_14_method_48_code 81 = .ok (.aload_n 0, 1) := by decide +kernel
theorem d_M_begin_82 : decode prog_14_method_48_code 82 = .ok (.getfield 17, 3) := by decide +kernel
theorem d_M_begin_85 : decode prog_14_method_48_code 85 = .ok (.iload_n 1, 1) := by decide +kernel
theorem d_M_begin_86 : decode prog_14_method_48_code 86 = .ok (.baload, 1) := by decide +kernel
theorem d_M_begin_87 : decode prog_14_method_48_code 87 = .ok (.ifCond .ne 49, 3) := by decide +kernel
theorem d_M_begin_90 : decode prog_14_method_48_code 90 = .ok (.aload_n 0, 1) := by decide +kernel
theorem d_M_begin_91 : decode prog_14_method_48_code 91 = .ok (.getfield 141, 3) := by decide +kernel
theorem d_M_begin_94 : decode prog_14_method_48_code 94 = .ok (.iload_n 1, 1) := by decide +kernel
theorem d_M_begin_95 : decode prog_14_method_48_code 95 = .ok (.aload_n 0, 1) := by decide +kernel
theorem d_M_begin_96 : decode prog_14_method_48_code 96 = .ok (.getfield 283, 3) := by decide +kernel
theorem d_M_begin_99 : decode prog_14_method_48_code 99 = .ok (.iastore, 1) := by decide +kernel
theorem d_M_begin_100 : decode prog_14_method_48_code 100 = .ok (.aload_n 0, 1) := by decide +kernel
theorem d_M_begin_101 : decode prog_14_method_48_code 101 = .ok (.getfield 144, 3) := by decide +kernel
theorem d_M_begin_104 : decode prog_14_method_48_code 104 = .ok (.iload_n 1, 1) := by decide +kernel
theorem d_M_begin_105 : decode prog_14_method_48_code 105 = .ok (.aload_n 0, 1) := by decide +kernel
theorem d_M_begin_106 : decode prog_14_method_48_code 106 = .ok (.getfield 283, 3) := by decide +kernel
theorem d_M_begin_109 : decode prog_14_method_48_code 109 = .ok (.ifCond .lt 7, 3) := by decide +kernel
theorem d_M_begin_112 : decode prog_14_method_48_code 112 = .ok (.iconst 1, 1) := by decide +kernel
theorem d_M_begin_113 : decode prog_14_method_48_code 113 = .ok (.goto 4, 3) := by decide +kernel
theorem d_M_begin_116 : decode prog_14_method_48_code 116 = .ok (.iconst 0, 1) := by decide +kernel
theorem d_M_begin_117 : decode prog_14_method_48_code 117 = .ok (.bastore, 1) := by decide +kernel
theorem d_M_begin_118 : decode prog_14_method_48_code 118 = .ok (.aload_n 0, 1) := by decide +kernel
theorem d_M_begin_119 : decode prog_14_method_48_code 119 = .ok (.getfield 123, 3) := by decide +kernel
theorem d_M_begin_122 : decode prog_14_method_48_code 122 = .ok (.iload_n 1, 1) := by decide +kernel
theorem d_M_begin_123 : decode prog_14_method_48_code 123 = .ok (.aload_n 0, 1) := by decide +kernel
theorem d_M_begin_124 : decode prog_14_method_48_code 124 = .ok (.getfield 283, 3) := by decide +kernel
theorem d_M_begin_127 : decode prog_14_method_48_code 127 = .ok (.ifCond .ge 7, 3) := by decide +kernel
theorem d_M_begin_130 : decode prog_14_method_48_code 130 = .ok (.iconst 3, 1) := by decide +kernel
theorem d_M_begin_131 : decode prog_14_method_48_code 131 = .ok (.goto 4, 3) := by decide +kernel
theorem d_M_begin_134 : decode prog_14_method_48_code 134 = .ok (.iconst 0, 1) := by decide +kernel
theorem d_M_begin_135 : decode prog_14_method_48_code 135 = .ok (.iastore, 1) := by decide +kernel
theorem d_M_begin_136 : decode prog_14_method_48_code 136 = .ok (.aload_n 0, 1) := by decide +kernel
theorem d_M_begin_137 : decode prog_14_method_48_code 137 = .ok (.getfield 123, 3) := by decide +kernel
theorem d_M_begin_140 : decode prog_14_method_48_code 140 = .ok (.iload_n 1, 1) := by decide +kernel
theorem d_M_begin_141 : decode prog_14_method_48_code 141 = .ok (.iaload, 1) := by decide +kernel
theorem d_M_begin_142 : decode prog_14_method_48_code 142 = .ok (.ifCond .ne 30, 3) := by decide +kernel
theorem d_M_begin_145 : decode prog_14_method_48_code 145 = .ok (.aload_n 0, 1) := by decide +kernel
theorem d_M_begin_146 : decode prog_14_method_48_code 146 = .ok (.getfield 126, 3) := by decide +kernel
theorem d_M_begin_149 : decode prog_14_method_48_code 149 = .ok (.iload_n 1, 1) := by decide +kernel
theorem d_M_begin_150 : decode prog_14_method_48_code 150 = .ok (.iconst 1, 1) := by decide +kernel
theorem d_M_begin_151 : decode prog_14_method_48_code 151 = .ok (.bastore, 1) := by decide +kernel
theorem d_M_begin_152 : decode prog_14_method_48_code 152 = .ok (.aload_n 0, 1) := by decide +kernel
theorem d_M_begin_153 : decode prog_14_method_48_code 153 = .ok (.getfield 147, 3) := by decide +kernel
theorem d_M_begin_156 : decode prog_14_method_48_code 156 = .ok (.aload_n 0, 1) := by decide +kernel
theorem d_M_begin_157 : decode prog_14_method_48_code 157 = .ok (.getfield 373, 3) := by decide +kernel
theorem d_M_begin_160 : decode prog_14_method_48_code 160 = .ok (.iload_n 1, 1) := by decide +kernel
theorem d_M_begin_161 : decode prog_14_method_48_code 161 = .ok (.iastore, 1) := by decide +kernel
theorem d_M_begin_162 : decode prog_14_method_48_code 162 = .ok (.aload_n 0, 1) := by decide +kernel
theorem d_M_begin_163 : decode prog_14_method_48_code 163 = .ok (.dup, 1) := by decide +kernel
theorem d_M_begin_164 : decode prog_14_method_48_code 164 = .ok (.getfield 373, 3) := by decide +kernel
theorem d_M_begin_167 : decode prog_14_method_48_code 167 = .ok (.iconst 1, 1) := by decide +kernel
theorem d_M_begin_168 : decode prog_14_method_48_code 168 = .ok (.iadd, 1) := by decide +kernel
theorem d_M_begin_169 : decode prog_14_method_48_code 169 = .ok (.putfield 373, 3) := by decide +kernel
theorem d_M_begin_172 : decode prog_14_method_48_code 172 = .ok (.return_, 1) := by decide +kernel
noncomputable def f_M_begin_j136 (r0 : Option Nat) (x1 : Int32) (σ : rb_St) : Option rb_Rs :=
  (rb_gR σ r0 13 57).bind fun r_17 => (rb_aI σ r_17 102 x1).bind fun x_18 => if x_18 = 0 then ((rb_gR σ r0 13 58).bind fun r_19 => (rb_sI σ r_19 104 x1 (1 : Int32)).bind fun σ_20 => (rb_gR σ_20 r0 13 65).bind fun r_21 => (rb_gI σ_20 r0 13 66).bind fun x_22 => (rb_sI σ_20 r_21 102 x_22 x1).bind fun σ_23 => (rb_gI σ_23 r0 13 66).bind fun x_24 => (rb_pI σ_23 r0 13 66 (x_24 + (1 : Int32))).bind fun σ_25 => some (none, σ_25)) else (some (none, σ))
theorem t_M_begin_j136 {E : rb_EV} {d : Nat} {σ0 : rb_St} {res : rb_Rs} (hdd : 3 ≤ d)  (r0 : Option Nat) (x1 : Int32) (σ : rb_St) : rb_TC (f_M_begin_j136 r0 x1 σ) (fun r => r = res) (rb_WK E k_M_begin d σ0 res 136 [some (va_rf r0), some (.int x1)] [] σ) := by
  unfold f_M_begin_j136
  refine rb_TC.mono (rk_aload_n 0 d_M_begin_136 rfl rfl) ?_
  refine rt_gR r0 fw_M_123 d_M_begin_137 (fun r_17 => ?_)
  refine rb_TC.mono (rk_iload_n 1 d_M_begin_140 rfl rfl) ?_
  refine rt_iald r_17 d_M_begin_141 (fun x_18 => ?_)
  refine rt_if_ne 172 d_M_begin_142 (by decide) (fun _ => ?_) (fun _ => ?_)
  · refine rb_TC.mono (rk_aload_n 0 d_M_begin_145 rfl rfl) ?_
    refine rt_gR r0 fw_M_126 d_M_begin_146 (fun r_19 => ?_)
    refine rb_TC.mono (rk_iload_n 1 d_M_begin_149 rfl rfl) ?_
    refine rb_TC.mono (rk_iconst (1 : Int32) d_M_begin_150 (by decide)) ?_
    refine rt_zast r_19 d_M_begin_151 (fun σ_20 => ?_)
    refine rb_TC.mono (rk_aload_n 0 d_M_begin_152 rfl rfl) ?_
    refine rt_gR r0 fw_M_147 d_M_begin_153 (fun r_21 => ?_)
    refine rb_TC.mono (rk_aload_n 0 d_M_begin_156 rfl rfl) ?_
    refine rt_gI r0 fw_M_373 d_M_begin_157 (fun x_22 => ?_)
    refine rb_TC.mono (rk_iload_n 1 d_M_begin_160 rfl rfl) ?_
    refine rt_iast r_21 d_M_begin_161 (fun σ_23 => ?_)
    refine rb_TC.mono (rk_aload_n 0 d_M_begin_162 rfl rfl) ?_
    refine rb_TC.mono (rk_dupr d_M_begin_163) ?_
    refine rt_gI r0 fw_M_373 d_M_begin_164 (fun x_24 => ?_)
    refine rb_TC.mono (rk_iconst (1 : Int32) d_M_begin_167 (by decide)) ?_
    refine rb_TC.mono (rk_iadd d_M_begin_168) ?_
    refine rt_pI r0 fp_M_begin_373 d_M_begin_169 (fun σ_25 => ?_)
    exact rt_vret rfl (fun h => h) d_M_begin_172
  · exact rt_vret rfl (fun h => h) d_M_begin_172
noncomputable def f_M_begin_j135 (r0 : Option Nat) (x1 : Int32) (sx0 : Int32) (sx1 : Int32) (sr2 : Option Nat) (σ : rb_St) : Option rb_Rs :=
  (rb_sI σ sr2 102 sx1 sx0).bind fun σ_40 => f_M_begin_j136 (r0) (x1) σ_40
theorem t_M_begin_j135 {E : rb_EV} {d : Nat} {σ0 : rb_St} {res : rb_Rs} (hdd : 3 ≤ d)  (r0 : Option Nat) (x1 : Int32) (sx0 : Int32) (sx1 : Int32) (sr2 : Option Nat) (σ : rb_St) : rb_TC (f_M_begin_j135 r0 x1 sx0 sx1 sr2 σ) (fun r => r = res) (rb_WK E k_M_begin d σ0 res 135 [some (va_rf r0), some (.int x1)] [.int sx0, .int sx1, va_rf sr2] σ) := by
  unfold f_M_begin_j135
  refine rt_iast sr2 d_M_begin_135 (fun σ_40 => ?_)
  exact t_M_begin_j136 hdd  (r0) (x1) σ_40
noncomputable def f_M_begin_j117 (r0 : Option Nat) (x1 : Int32) (sx0 : Int32) (sx1 : Int32) (sr2 : Option Nat) (σ : rb_St) : Option rb_Rs :=
  (rb_sI σ sr2 104 sx1 sx0).bind fun σ_37 => (rb_gR σ_37 r0 13 57).bind fun r_38 => (rb_gI σ_37 r0 13 38).bind fun x_39 => if 0 ≤ x_39 then (f_M_begin_j135 (r0) (x1) ((0 : Int32)) (x1) (r_38) σ_37) else (f_M_begin_j135 (r0) (x1) ((3 : Int32)) (x1) (r_38) σ_37)
theorem t_M_begin_j117 {E : rb_EV} {d : Nat} {σ0 : rb_St} {res : rb_Rs} (hdd : 3 ≤ d)  (r0 : Option Nat) (x1 : Int32) (sx0 : Int32) (sx1 : Int32) (sr2 : Option Nat) (σ : rb_St) : rb_TC (f_M_begin_j117 r0 x1 sx0 sx1 sr2 σ) (fun r => r = res) (rb_WK E k_M_begin d σ0 res 117 [some (va_rf r0), some (.int x1)] [.int sx0, .int sx1, va_rf sr2] σ) := by
  unfold f_M_begin_j117
  refine rt_zast sr2 d_M_begin_117 (fun σ_37 => ?_)
  refine rb_TC.mono (rk_aload_n 0 d_M_begin_118 rfl rfl) ?_
  refine rt_gR r0 fw_M_123 d_M_begin_119 (fun r_38 => ?_)
  refine rb_TC.mono (rk_iload_n 1 d_M_begin_122 rfl rfl) ?_
  refine rb_TC.mono (rk_aload_n 0 d_M_begin_123 rfl rfl) ?_
  refine rt_gI r0 fw_M_283 d_M_begin_124 (fun x_39 => ?_)
  refine rt_if_ge 134 d_M_begin_127 (by decide) (fun _ => ?_) (fun _ => ?_)
  · refine rb_TC.mono (rk_iconst (0 : Int32) d_M_begin_134 (by decide)) ?_
    exact t_M_begin_j135 hdd  (r0) (x1) ((0 : Int32)) (x1) (r_38) σ_37
  · refine rb_TC.mono (rk_iconst (3 : Int32) d_M_begin_130 (by decide)) ?_
    refine rb_TC.mono (rk_goto 135 d_M_begin_131 (by decide)) ?_
    exact t_M_begin_j135 hdd  (r0) (x1) ((3 : Int32)) (x1) (r_38) σ_37
noncomputable def f_M_begin_j54 (r0 : Option Nat) (x1 : Int32) (σ : rb_St) : Option rb_Rs :=
  (rb_gR σ r0 13 25).bind fun r_15 => (rb_aI σ r_15 102 x1).bind fun x_16 => if 0 ≤ x_16 then (f_M_begin_j136 (r0) (x1) σ) else ((rb_gR σ r0 13 61).bind fun r_26 => (rb_aI σ r_26 102 x1).bind fun x_27 => if 0 ≤ x_27 then (f_M_begin_j136 (r0) (x1) σ) else ((rb_gR σ r0 13 24).bind fun r_28 => (rb_aI σ r_28 104 x1).bind fun x_29 => if x_29 = 0 then ((rb_gR σ r0 13 4).bind fun r_30 => (rb_aI σ r_30 104 x1).bind fun x_31 => if x_31 = 0 then ((rb_gR σ r0 13 63).bind fun r_32 => (rb_gI σ r0 13 38).bind fun x_33 => (rb_sI σ r_32 102 x1 x_33).bind fun σ_34 => (rb_gR σ_34 r0 13 64).bind fun r_35 => (rb_gI σ_34 r0 13 38).bind fun x_36 => if x_36 < 0 then (f_M_begin_j117 (r0) (x1) ((0 : Int32)) (x1) (r_35) σ_34) else (f_M_begin_j117 (r0) (x1) ((1 : Int32)) (x1) (r_35) σ_34)) else (f_M_begin_j136 (r0) (x1) σ)) else (f_M_begin_j136 (r0) (x1) σ)))
theorem t_M_begin_j54 {E : rb_EV} {d : Nat} {σ0 : rb_St} {res : rb_Rs} (hdd : 3 ≤ d)  (r0 : Option Nat) (x1 : Int32) (σ : rb_St) : rb_TC (f_M_begin_j54 r0 x1 σ) (fun r => r = res) (rb_WK E k_M_begin d σ0 res 54 [some (va_rf r0), some (.int x1)] [] σ) := by
  unfold f_M_begin_j54
  refine rb_TC.mono (rk_aload_n 0 d_M_begin_54 rfl rfl) ?_
  refine rt_gR r0 fw_M_66 d_M_begin_55 (fun r_15 => ?_)
  refine rb_TC.mono (rk_iload_n 1 d_M_begin_58 rfl rfl) ?_
  refine rt_iald r_15 d_M_begin_59 (fun x_16 => ?_)
  refine rt_if_ge 136 d_M_begin_60 (by decide) (fun _ => ?_) (fun _ => ?_)
  · exact t_M_begin_j136 hdd  (r0) (x1) σ
  · refine rb_TC.mono (rk_aload_n 0 d_M_begin_63 rfl rfl) ?_
    refine rt_gR r0 fw_M_135 d_M_begin_64 (fun r_26 => ?_)
    refine rb_TC.mono (rk_iload_n 1 d_M_begin_67 rfl rfl) ?_
    refine rt_iald r_26 d_M_begin_68 (fun x_27 => ?_)
    refine rt_if_ge 136 d_M_begin_69 (by decide) (fun _ => ?_) (fun _ => ?_)
    · exact t_M_begin_j136 hdd  (r0) (x1) σ
    · refine rb_TC.mono (rk_aload_n 0 d_M_begin_72 rfl rfl) ?_
      refine rt_gR r0 fw_M_63 d_M_begin_73 (fun r_28 => ?_)
      refine rb_TC.mono (rk_iload_n 1 d_M_begin_76 rfl rfl) ?_
      refine rt_zald r_28 d_M_begin_77 (fun x_29 => ?_)
      refine rt_if_ne 136 d_M_begin_78 (by decide) (fun _ => ?_) (fun _ => ?_)
      · refine rb_TC.mono (rk_aload_n 0 d_M_begin_81 rfl rfl) ?_
        refine rt_gR r0 fw_M_17 d_M_begin_82 (fun r_30 => ?_)
        refine rb_TC.mono (rk_iload_n 1 d_M_begin_85 rfl rfl) ?_
        refine rt_zald r_30 d_M_begin_86 (fun x_31 => ?_)
        refine rt_if_ne 136 d_M_begin_87 (by decide) (fun _ => ?_) (fun _ => ?_)
        · refine rb_TC.mono (rk_aload_n 0 d_M_begin_90 rfl rfl) ?_
          refine rt_gR r0 fw_M_141 d_M_begin_91 (fun r_32 => ?_)
          refine rb_TC.mono (rk_iload_n 1 d_M_begin_94 rfl rfl) ?_
          refine rb_TC.mono (rk_aload_n 0 d_M_begin_95 rfl rfl) ?_
          refine rt_gI r0 fw_M_283 d_M_begin_96 (fun x_33 => ?_)
          refine rt_iast r_32 d_M_begin_99 (fun σ_34 => ?_)
          refine rb_TC.mono (rk_aload_n 0 d_M_begin_100 rfl rfl) ?_
          refine rt_gR r0 fw_M_144 d_M_begin_101 (fun r_35 => ?_)
          refine rb_TC.mono (rk_iload_n 1 d_M_begin_104 rfl rfl) ?_
          refine rb_TC.mono (rk_aload_n 0 d_M_begin_105 rfl rfl) ?_
          refine rt_gI r0 fw_M_283 d_M_begin_106 (fun x_36 => ?_)
          refine rt_if_lt 116 d_M_begin_109 (by decide) (fun _ => ?_) (fun _ => ?_)
          · refine rb_TC.mono (rk_iconst (0 : Int32) d_M_begin_116 (by decide)) ?_
            exact t_M_begin_j117 hdd  (r0) (x1) ((0 : Int32)) (x1) (r_35) σ_34
          · refine rb_TC.mono (rk_iconst (1 : Int32) d_M_begin_112 (by decide)) ?_
            refine rb_TC.mono (rk_goto 117 d_M_begin_113 (by decide)) ?_
            exact t_M_begin_j117 hdd  (r0) (x1) ((1 : Int32)) (x1) (r_35) σ_34
        · exact t_M_begin_j136 hdd  (r0) (x1) σ
      · exact t_M_begin_j136 hdd  (r0) (x1) σ
noncomputable def f_M_begin (r0 : Option Nat) (x1 : Int32) (σ : rb_St) : Option rb_Rs :=
  (rb_gR σ r0 13 61).bind fun r_1 => (rb_sI σ r_1 102 x1 (-1 : Int32)).bind fun σ_2 => (rb_gR σ_2 r0 13 63).bind fun r_3 => (rb_gR σ_2 r0 13 25).bind fun r_4 => (rb_aI σ_2 r_4 102 x1).bind fun x_5 => (rb_sI σ_2 r_3 102 x1 x_5).bind fun σ_6 => (rb_gR σ_6 r0 13 64).bind fun r_7 => (rb_sI σ_6 r_7 104 x1 (0 : Int32)).bind fun σ_8 => (rb_gR σ_8 r0 13 59).bind fun r_9 => (rb_sI σ_8 r_9 104 x1 (0 : Int32)).bind fun σ_10 => (rb_gR σ_10 r0 13 60).bind fun r_11 => (rb_sI σ_10 r_11 102 x1 (0 : Int32)).bind fun σ_12 => (rb_gR σ_12 r0 13 25).bind fun r_13 => (rb_aI σ_12 r_13 102 x1).bind fun x_14 => if 0 ≤ x_14 then (f_M_begin_j54 (r0) (x1) σ_12) else ((rb_fc σ_12 r0 13).bind fun _ => rb_cV (f_M_lookForEnding (r0) (x1) σ_12) fun σ_41 => f_M_begin_j54 (r0) (x1) σ_41)
theorem s_M_begin {E : rb_EV} {d : Nat} (hdd : 3 ≤ d) (r0 : Option Nat) (x1 : Int32) (σ : rb_St) : rb_Does E k_M_begin d [va_rf r0, .int x1] σ (f_M_begin r0 x1 σ) := by
  refine rb_start (lv := [some (va_rf r0), some (.int x1)]) (by decide) (by simp [lg_sl, rb_as, lv_args, rb_cat_r, rb_cat_i, rb_cat_l, rb_nL, k_M_begin]) (fun res => ?_)
  unfold f_M_begin
  refine rb_TC.mono (rk_aload_n 0 d_M_begin_0 rfl rfl) ?_
  refine rt_gR r0 fw_M_135 d_M_begin_1 (fun r_1 => ?_)
  refine rb_TC.mono (rk_iload_n 1 d_M_begin_4 rfl rfl) ?_
  refine rb_TC.mono (rk_iconst (-1 : Int32) d_M_begin_5 (by decide)) ?_
  refine rt_iast r_1 d_M_begin_6 (fun σ_2 => ?_)
  refine rb_TC.mono (rk_aload_n 0 d_M_begin_7 rfl rfl) ?_
  refine rt_gR r0 fw_M_141 d_M_begin_8 (fun r_3 => ?_)
  refine rb_TC.mono (rk_iload_n 1 d_M_begin_11 rfl rfl) ?_
  refine rb_TC.mono (rk_aload_n 0 d_M_begin_12 rfl rfl) ?_
  refine rt_gR r0 fw_M_66 d_M_begin_13 (fun r_4 => ?_)
  refine rb_TC.mono (rk_iload_n 1 d_M_begin_16 rfl rfl) ?_
  refine rt_iald r_4 d_M_begin_17 (fun x_5 => ?_)
  refine rt_iast r_3 d_M_begin_18 (fun σ_6 => ?_)
  refine rb_TC.mono (rk_aload_n 0 d_M_begin_19 rfl rfl) ?_
  refine rt_gR r0 fw_M_144 d_M_begin_20 (fun r_7 => ?_)
  refine rb_TC.mono (rk_iload_n 1 d_M_begin_23 rfl rfl) ?_
  refine rb_TC.mono (rk_iconst (0 : Int32) d_M_begin_24 (by decide)) ?_
  refine rt_zast r_7 d_M_begin_25 (fun σ_8 => ?_)
  refine rb_TC.mono (rk_aload_n 0 d_M_begin_26 rfl rfl) ?_
  refine rt_gR r0 fw_M_129 d_M_begin_27 (fun r_9 => ?_)
  refine rb_TC.mono (rk_iload_n 1 d_M_begin_30 rfl rfl) ?_
  refine rb_TC.mono (rk_iconst (0 : Int32) d_M_begin_31 (by decide)) ?_
  refine rt_zast r_9 d_M_begin_32 (fun σ_10 => ?_)
  refine rb_TC.mono (rk_aload_n 0 d_M_begin_33 rfl rfl) ?_
  refine rt_gR r0 fw_M_132 d_M_begin_34 (fun r_11 => ?_)
  refine rb_TC.mono (rk_iload_n 1 d_M_begin_37 rfl rfl) ?_
  refine rb_TC.mono (rk_iconst (0 : Int32) d_M_begin_38 (by decide)) ?_
  refine rt_iast r_11 d_M_begin_39 (fun σ_12 => ?_)
  refine rb_TC.mono (rk_aload_n 0 d_M_begin_40 rfl rfl) ?_
  refine rt_gR r0 fw_M_66 d_M_begin_41 (fun r_13 => ?_)
  refine rb_TC.mono (rk_iload_n 1 d_M_begin_44 rfl rfl) ?_
  refine rt_iald r_13 d_M_begin_45 (fun x_14 => ?_)
  refine rt_if_ge 54 d_M_begin_46 (by decide) (fun _ => ?_) (fun _ => ?_)
  · exact t_M_begin_j54 hdd  (r0) (x1) σ_12
  · refine rb_TC.mono (rk_aload_n 0 d_M_begin_49 rfl rfl) ?_
    refine rb_TC.mono (rk_iload_n 1 d_M_begin_50 rfl rfl) ?_
    refine rt_vV (As := [.int x1]) (st := []) (r0) vw_M_370 (s_M_lookForEnding (Nat.le_refl _) (r0) (x1) σ_12) (Nat.le_trans (by decide) hdd) rfl (by simp [rb_cat_r, rb_cat_i, rb_cat_l]) d_M_begin_51 (fun σ_41 => ?_)
    exact t_M_begin_j54 hdd  (r0) (x1) σ_41
-- ===== RuleBuilderModel.option(I)Z
def k_M_option : rb_MK := (⟨"RuleBuilderModel", "option", "(I)Z"⟩, prog_14_method_44_code, 2, some (.boolean))
theorem mw_M_option : rb_Mw k_M_option 1 := ⟨rb_inG 1638 (by decide +kernel) rfl, rb_inG 94 (by decide +kernel) rfl, ⟨by decide, by decide, by decide +kernel⟩, by decide⟩
theorem fw_M_359 : rb_Fw "RuleBuilderModel" 359 13 56 := ⟨_, rfl, by decide, by decide, by decide, rfl, rb_inG 1276 (by decide +kernel) rfl⟩
theorem d_M_option_0 : decode prog_14_method_44_code 0 = .ok (.aload_n 0, 1) := by decide +kernel
theorem d_M_option_1 : decode prog_14_method_44_code 1 = .ok (.getfield 359, 3) := by decide +kernel
theorem d_M_option_4 : decode prog_14_method_44_code 4 = .ok (.iload_n 1, 1) := by decide +kernel
theorem d_M_option_5 : decode prog_14_method_44_code 5 = .ok (.iand, 1) := by decide +kernel
theorem d_M_option_6 : decode prog_14_method_44_code 6 = .ok (.ifCond .eq 7, 3) := by decide +kernel
theorem d_M_option_9 : decode prog_14_method_44_code 9 = .ok (.iconst 1, 1) := by decide +kernel
theorem d_M_option_10 : decode prog_14_method_44_code 10 = .ok (.goto 4, 3) := by decide +kernel
theorem d_M_option_13 : decode prog_14_method_44_code 13 = .ok (.iconst 0, 1) := by decide +kernel
theorem d_M_option_14 : decode prog_14_method_44_code 14 = .ok (.ireturn, 1) := by decide +kernel
noncomputable def f_M_option (r0 : Option Nat) (x1 : Int32) (σ : rb_St) : Option rb_Rs :=
  (rb_gI σ r0 13 56).bind fun x_1 => if (x_1 &&& x1) = 0 then (some (some (.int (0 : Int32)), σ)) else (some (some (.int (1 : Int32)), σ))
theorem s_M_option {E : rb_EV} {d : Nat} (hdd : 0 ≤ d) (r0 : Option Nat) (x1 : Int32) (σ : rb_St) : rb_Does E k_M_option d [va_rf r0, .int x1] σ (f_M_option r0 x1 σ) := by
  refine rb_start (lv := [some (va_rf r0), some (.int x1)]) (by decide) (by simp [lg_sl, rb_as, lv_args, rb_cat_r, rb_cat_i, rb_cat_l, rb_nL, k_M_option]) (fun res => ?_)
  unfold f_M_option
  refine rb_TC.mono (rk_aload_n 0 d_M_option_0 rfl rfl) ?_
  refine rt_gI r0 fw_M_359 d_M_option_1 (fun x_1 => ?_)
  refine rb_TC.mono (rk_iload_n 1 d_M_option_4 rfl rfl) ?_
  refine rb_TC.mono (rk_iand d_M_option_5) ?_
  refine rt_if_eq 13 d_M_option_6 (by decide) (fun _ => ?_) (fun _ => ?_)
  · refine rb_TC.mono (rk_iconst (0 : Int32) d_M_option_13 (by decide)) ?_
    exact rt_iret (ty := .boolean) rfl (by decide) (fun h => h) d_M_option_14
  · refine rb_TC.mono (rk_iconst (1 : Int32) d_M_option_9 (by decide)) ?_
    refine rb_TC.mono (rk_goto 14 d_M_option_10 (by decide)) ?_
    exact rt_iret (ty := .boolean) rfl (by decide) (fun h => h) d_M_option_14
-- ===== RuleBuilderModel.isSilent(I)Z
def k_M_isSilent : rb_MK := (⟨"RuleBuilderModel", "isSilent", "(I)Z"⟩, prog_14_method_51_code, 2, some (.boolean))
theorem mw_M_isSilent : rb_Mw k_M_isSilent 1 := ⟨rb_inG 1650 (by decide +kernel) rfl, rb_inG 94 (by decide +kernel) rfl, ⟨by decide, by decide, by decide +kernel⟩, by decide⟩
theorem d_M_isSilent_0 : decode prog_14_method_51_code 0 = .ok (.aload_n 0, 1) := by decide +kernel
theorem d_M_isSilent_1 : decode prog_14_method_51_code 1 = .ok (.getfield 60, 3) := by decide +kernel
theorem d_M_isSilent_4 : decode prog_14_method_51_code 4 = .ok (.iload_n 1, 1) := by decide +kernel
theorem d_M_isSilent_5 : decode prog_14_method_51_code 5 = .ok (.baload, 1) := by decide +kernel
theorem d_M_isSilent_6 : decode prog_14_method_51_code 6 = .ok (.ifCond .ne 10, 3) := by decide +kernel
theorem d_M_isSilent_9 : decode prog_14_method_51_code 9 = .ok (.aload_n 0, 1) := by decide +kernel
theorem d_M_isSilent_10 : decode prog_14_method_51_code 10 = .ok (.getfield 268, 3) := by decide +kernel
theorem d_M_isSilent_13 : decode prog_14_method_51_code 13 = .ok (.ifCond .eq 7, 3) := by decide +kernel
theorem d_M_isSilent_16 : decode prog_14_method_51_code 16 = .ok (.iconst 1, 1) := by decide +kernel
theorem d_M_isSilent_17 : decode prog_14_method_51_code 17 = .ok (.goto 4, 3) := by decide +kernel
theorem d_M_isSilent_20 : decode prog_14_method_51_code 20 = .ok (.iconst 0, 1) := by decide +kernel
theorem d_M_isSilent_21 : decode prog_14_method_51_code 21 = .ok (.ireturn, 1) := by decide +kernel
noncomputable def f_M_isSilent (r0 : Option Nat) (x1 : Int32) (σ : rb_St) : Option rb_Rs :=
  (rb_gR σ r0 13 21).bind fun r_1 => (rb_aI σ r_1 104 x1).bind fun x_2 => if x_2 = 0 then ((rb_gI σ r0 13 23).bind fun x_3 => if x_3 = 0 then (some (some (.int (0 : Int32)), σ)) else (some (some (.int (1 : Int32)), σ))) else (some (some (.int (1 : Int32)), σ))
theorem s_M_isSilent {E : rb_EV} {d : Nat} (hdd : 0 ≤ d) (r0 : Option Nat) (x1 : Int32) (σ : rb_St) : rb_Does E k_M_isSilent d [va_rf r0, .int x1] σ (f_M_isSilent r0 x1 σ) := by
  refine rb_start (lv := [some (va_rf r0), some (.int x1)]) (by decide) (by simp [lg_sl, rb_as, lv_args, rb_cat_r, rb_cat_i, rb_cat_l, rb_nL, k_M_isSilent]) (fun res => ?_)
  unfold f_M_isSilent
  refine rb_TC.mono (rk_aload_n 0 d_M_isSilent_0 rfl rfl) ?_
  refine rt_gR r0 fw_M_60 d_M_isSilent_1 (fun r_1 => ?_)
  refine rb_TC.mono (rk_iload_n 1 d_M_isSilent_4 rfl rfl) ?_
  refine rt_zald r_1 d_M_isSilent_5 (fun x_2 => ?_)
  refine rt_if_ne 16 d_M_isSilent_6 (by decide) (fun _ => ?_) (fun _ => ?_)
  · refine rb_TC.mono (rk_aload_n 0 d_M_isSilent_9 rfl rfl) ?_
    refine rt_gI r0 fw_M_268 d_M_isSilent_10 (fun x_3 => ?_)
    refine rt_if_eq 20 d_M_isSilent_13 (by decide) (fun _ => ?_) (fun _ => ?_)
    · refine rb_TC.mono (rk_iconst (0 : Int32) d_M_isSilent_20 (by decide)) ?_
      exact rt_iret (ty := .boolean) rfl (by decide) (fun h => h) d_M_isSilent_21
    · refine rb_TC.mono (rk_iconst (1 : Int32) d_M_isSilent_16 (by decide)) ?_
      refine rb_TC.mono (rk_goto 21 d_M_isSilent_17 (by decide)) ?_
      exact rt_iret (ty := .boolean) rfl (by decide) (fun h => h) d_M_isSilent_21
  · refine rb_TC.mono (rk_iconst (1 : Int32) d_M_isSilent_16 (by decide)) ?_
    refine rb_TC.mono (rk_goto 21 d_M_isSilent_17 (by decide)) ?_
    exact rt_iret (ty := .boolean) rfl (by decide) (fun h => h) d_M_isSilent_21
-- ===== RuleBuilderModel.put(I)V
def k_M_put : rb_MK := (⟨"RuleBuilderModel", "put", "(I)V"⟩, prog_14_method_54_code, 2, none)
theorem mw_M_put : rb_Mw k_M_put 1 := ⟨rb_inG 1659 (by decide +kernel) rfl, rb_inG 94 (by decide +kernel) rfl, ⟨by decide, by decide, by decide +kernel⟩, by decide⟩
theorem fp_M_put_413 : rb_Fp k_M_put 413 13 72 .int := ⟨fw_M_413, rfl, fun q h => by cases h; exact Or.inl rfl⟩
theorem d_M_put_0 : decode prog_14_method_54_code 0 = .ok (.aload_n 0, 1) := by decide +kernel
theorem d_M_put_1 : decode prog_14_method_54_code 1 = .ok (.getfield 413, 3) := by decide +kernel
theorem d_M_put_4 : decode prog_14_method_54_code 4 = .ok (.sipush 400, 3) := by decide +kernel
theorem d_M_put_7 : decode prog_14_method_54_code 7 = .ok (.if_icmp .ge 23, 3) := by decide +kernel
theorem d_M_put_10 : decode prog_14_method_54_code 10 = .ok (.aload_n 0, 1) := by decide +kernel
theorem d_M_put_11 : decode prog_14_method_54_code 11 = .ok (.getfield 153, 3) := by decide +kernel
theorem d_M_put_14 : decode prog_14_method_54_code 14 = .ok (.aload_n 0, 1) := by decide +kernel
theorem d_M_put_15 : decode prog_14_method_54_code 15 = .ok (.getfield 413, 3) := by decide +kernel
theorem d_M_put_18 : decode prog_14_method_54_code 18 = .ok (.iload_n 1, 1) := by decide +kernel
theorem d_M_put_19 : decode prog_14_method_54_code 19 = .ok (.iastore, 1) := by decide +kernel
theorem d_M_put_20 : decode prog_14_method_54_code 20 = .ok (.aload_n 0, 1) := by decide +kernel
theorem d_M_put_21 : decode prog_14_method_54_code 21 = .ok (.dup, 1) := by decide +kernel
theorem d_M_put_22 : decode prog_14_method_54_code 22 = .ok (.getfield 413, 3) := by decide +kernel
theorem d_M_put_25 : decode prog_14_method_54_code 25 = .ok (.iconst 1, 1) := by decide +kernel
theorem d_M_put_26 : decode prog_14_method_54_code 26 = .ok (.iadd, 1) := by decide +kernel
theorem d_M_put_27 : decode prog_14_method_54_code 27 = .ok (.putfield 413, 3) := by decide +kernel
theorem d_M_put_30 : decode prog_14_method_54_code 30 = .ok (.return_, 1) := by decide +kernel
noncomputable def f_M_put (r0 : Option Nat) (x1 : Int32) (σ : rb_St) : Option rb_Rs :=
  (rb_gI σ r0 13 72).bind fun x_1 => if (400 : Int32) ≤ x_1 then (some (none, σ)) else ((rb_gR σ r0 13 71).bind fun r_2 => (rb_gI σ r0 13 72).bind fun x_3 => (rb_sI σ r_2 102 x_3 x1).bind fun σ_4 => (rb_gI σ_4 r0 13 72).bind fun x_5 => (rb_pI σ_4 r0 13 72 (x_5 + (1 : Int32))).bind fun σ_6 => some (none, σ_6))
theorem s_M_put {E : rb_EV} {d : Nat} (hdd : 0 ≤ d) (r0 : Option Nat) (x1 : Int32) (σ : rb_St) : rb_Does E k_M_put d [va_rf r0, .int x1] σ (f_M_put r0 x1 σ) := by
  refine rb_start (lv := [some (va_rf r0), some (.int x1)]) (by decide) (by simp [lg_sl, rb_as, lv_args, rb_cat_r, rb_cat_i, rb_cat_l, rb_nL, k_M_put]) (fun res => ?_)
  unfold f_M_put
  refine rb_TC.mono (rk_aload_n 0 d_M_put_0 rfl rfl) ?_
  refine rt_gI r0 fw_M_413 d_M_put_1 (fun x_1 => ?_)
  refine rb_TC.mono (rk_sipush (400 : Int32) d_M_put_4 (by decide)) ?_
  refine rt_icmp_ge 30 d_M_put_7 (by decide) (fun _ => ?_) (fun _ => ?_)
  · exact rt_vret rfl (fun h => h) d_M_put_30
  · refine rb_TC.mono (rk_aload_n 0 d_M_put_10 rfl rfl) ?_
    refine rt_gR r0 fw_M_153 d_M_put_11 (fun r_2 => ?_)
    refine rb_TC.mono (rk_aload_n 0 d_M_put_14 rfl rfl) ?_
    refine rt_gI r0 fw_M_413 d_M_put_15 (fun x_3 => ?_)
    refine rb_TC.mono (rk_iload_n 1 d_M_put_18 rfl rfl) ?_
    refine rt_iast r_2 d_M_put_19 (fun σ_4 => ?_)
    refine rb_TC.mono (rk_aload_n 0 d_M_put_20 rfl rfl) ?_
    refine rb_TC.mono (rk_dupr d_M_put_21) ?_
    refine rt_gI r0 fw_M_413 d_M_put_22 (fun x_5 => ?_)
    refine rb_TC.mono (rk_iconst (1 : Int32) d_M_put_25 (by decide)) ?_
    refine rb_TC.mono (rk_iadd d_M_put_26) ?_
    refine rt_pI r0 fp_M_put_413 d_M_put_27 (fun σ_6 => ?_)
    exact rt_vret rfl (fun h => h) d_M_put_30
-- ===== RuleBuilderModel.printWord(J)V
def k_M_printWord : rb_MK := (⟨"RuleBuilderModel", "printWord", "(J)V"⟩, prog_14_method_55_code, 4, none)
theorem mw_M_printWord : rb_Mw k_M_printWord 1 := ⟨rb_inG 1655 (by decide +kernel) rfl, rb_inG 94 (by decide +kernel) rfl, ⟨by decide, by decide, by decide +kernel⟩, by decide⟩
theorem vw_M_401 : rb_Vw "RuleBuilderModel" 401 k_M_put 13 1 := ⟨mw_M_put, rb_inG 1656 (by decide +kernel) rfl, rb_inG 1658 (by decide +kernel) rfl, rb_inG 77 (by decide +kernel) rfl, by decide, by decide, _, rfl, rfl⟩
theorem d_M_printWord_0 : decode prog_14_method_55_code 0 = .ok (.lload_n 1, 1) := by decide +kernel
theorem d_M_printWord_1 : decode prog_14_method_55_code 1 = .ok (.invokestatic 167, 3) := by decide +kernel
theorem d_M_printWord_4 : decode prog_14_method_55_code 4 = .ok (.iconst 1, 1) := by decide +kernel
theorem d_M_printWord_5 : decode prog_14_method_55_code 5 = .ok (.isub, 1) := by decide +kernel
theorem d_M_printWord_6 : decode prog_14_method_55_code 6 = .ok (.istore_n 3, 1) := by decide +kernel
theorem d_M_printWord_7 : decode prog_14_method_55_code 7 = .ok (.iload_n 3, 1) := by decide +kernel
theorem d_M_printWord_8 : decode prog_14_method_55_code 8 = .ok (.ifCond .lt 24, 3) := by decide +kernel
theorem d_M_printWord_11 : decode prog_14_method_55_code 11 = .ok (.aload_n 0, 1) := by decide +kernel
theorem d_M_printWord_12 : decode prog_14_method_55_code 12 = .ok (.lload_n 1, 1) := by decide +kernel
theorem d_M_printWord_13 : decode prog_14_method_55_code 13 = .ok (.bipush 7, 2) := by decide +kernel
theorem d_M_printWord_15 : decode prog_14_method_55_code 15 = .ok (.iload_n 3, 1) := by decide +kernel
theorem d_M_printWord_16 : decode prog_14_method_55_code 16 = .ok (.imul, 1) := by decide +kernel
theorem d_M_printWord_17 : decode prog_14_method_55_code 17 = .ok (.lshr, 1) := by decide +kernel
theorem d_M_printWord_18 : decode prog_14_method_55_code 18 = .ok (.ldc2_w 171, 3) := by decide +kernel
theorem d_M_printWord_21 : decode prog_14_method_55_code 21 = .ok (.land, 1) := by decide +kernel
theorem d_M_printWord_22 : decode prog_14_method_55_code 22 = .ok (.l2i, 1) := by decide +kernel
theorem d_M_printWord_23 : decode prog_14_method_55_code 23 = .ok (.invokevirtual 401, 3) := by decide +kernel
theorem d_M_printWord_26 : decode prog_14_method_55_code 26 = .ok (.iinc 3 (-1), 3) := by decide +kernel
theorem d_M_printWord_29 : decode prog_14_method_55_code 29 = .ok (.goto (-22), 3) := by decide +kernel
theorem d_M_printWord_32 : decode prog_14_method_55_code 32 = .ok (.return_, 1) := by decide +kernel
noncomputable def f_M_printWord_b7 (r0 : Option Nat) (y1 : Int64) (x3 : Int32) (σ : rb_St) : Option ((Int32 × rb_St) ⊕ rb_Rs) :=
  if x3 < 0 then ((some (none, σ)).map Sum.inr) else ((rb_fc σ r0 13).bind fun _ => rb_cV (f_M_put (r0) ((((y1 >>> (((7 : Int32) * x3).toInt64 &&& 63)) &&& (127 : Int64)).toInt32)) σ) fun σ_3 => some (.inl ((x3 + (-1)), σ_3)))
theorem t_M_printWord_b7 {E : rb_EV} {d : Nat} {σ0 : rb_St} {res : rb_Rs} (hdd : 1 ≤ d)  (r0 : Option Nat) (y1 : Int64) (x3 : Int32) (σ : rb_St) : rb_TC (f_M_printWord_b7 r0 y1 x3 σ) (Sum.elim (fun z : (Int32 × rb_St) => rb_WK E k_M_printWord d σ0 res 7 [some (va_rf r0), some (.long y1), none, some (.int z.1)] [] z.2) (fun r => r = res)) (rb_WK E k_M_printWord d σ0 res 7 [some (va_rf r0), some (.long y1), none, some (.int x3)] [] σ) := by
  unfold f_M_printWord_b7
  refine rb_TC.mono (rk_iload_n 3 d_M_printWord_7 rfl rfl) ?_
  refine rt_if_lt 32 d_M_printWord_8 (by decide) (fun _ => ?_) (fun _ => ?_)
  · refine rb_TC.out ?_
    exact rt_vret rfl (fun h => h) d_M_printWord_32
  · refine rb_TC.mono (rk_aload_n 0 d_M_printWord_11 rfl rfl) ?_
    refine rb_TC.mono (rk_lload_n 1 d_M_printWord_12 rfl rfl) ?_
    refine rb_TC.mono (rk_bipush (7 : Int32) d_M_printWord_13 (by decide)) ?_
    refine rb_TC.mono (rk_iload_n 3 d_M_printWord_15 rfl rfl) ?_
    refine rb_TC.mono (rk_imul d_M_printWord_16) ?_
    refine rb_TC.mono (rk_lshr d_M_printWord_17) ?_
    refine rb_TC.mono (rk_ldc2 d_M_printWord_18 w_long_M_171) ?_
    refine rb_TC.mono (rk_land d_M_printWord_21) ?_
    refine rb_TC.mono (rk_l2i d_M_printWord_22) ?_
    refine rt_vV (As := [.int (((y1 >>> (((7 : Int32) * x3).toInt64 &&& 63)) &&& (127 : Int64)).toInt32)]) (st := []) (r0) vw_M_401 (s_M_put (Nat.le_refl _) (r0) ((((y1 >>> (((7 : Int32) * x3).toInt64 &&& 63)) &&& (127 : Int64)).toInt32)) σ) (Nat.le_trans (by decide) hdd) rfl (by simp [rb_cat_r, rb_cat_i, rb_cat_l]) d_M_printWord_23 (fun σ_3 => ?_)
    refine rb_TC.mono (rk_iinc (lv2 := [some (va_rf r0), some (.long y1), none, some (.int (x3 + (-1)))]) (x3 + (-1)) d_M_printWord_26 rfl rfl (by decide) (fun _ => rb_one_n) rfl) ?_
    refine rb_TC.mono (rk_goto 7 d_M_printWord_29 (by decide)) ?_
    exact rb_back
noncomputable def f_M_printWord (r0 : Option Nat) (y1 : Int64) (σ : rb_St) : Option rb_Rs :=
  rb_cI (f_M_length (y1) σ) fun x_1 σ_2 => rb_it (fun z : (Int32 × rb_St) => f_M_printWord_b7 (r0) (y1) (z.1) z.2) ((x_1 - (1 : Int32)), σ_2)
theorem s_M_printWord {E : rb_EV} {d : Nat} (hdd : 1 ≤ d) (r0 : Option Nat) (y1 : Int64) (σ : rb_St) : rb_Does E k_M_printWord d [va_rf r0, .long y1] σ (f_M_printWord r0 y1 σ) := by
  refine rb_start (lv := [some (va_rf r0), some (.long y1), none, none]) (by decide) (by simp [lg_sl, rb_as, lv_args, rb_cat_r, rb_cat_i, rb_cat_l, rb_nL, k_M_printWord]) (fun res => ?_)
  unfold f_M_printWord
  refine rb_TC.mono (rk_lload_n 1 d_M_printWord_0 rfl rfl) ?_
  refine rt_sI (As := [.long y1]) (st := []) sw_M_167 (s_M_length (Nat.le_refl _) (y1) σ) (Nat.le_trans (by decide) hdd) rfl (by simp [rb_cat_r, rb_cat_i, rb_cat_l]) d_M_printWord_1 (fun x_1 σ_2 => ?_)
  refine rb_TC.mono (rk_iconst (1 : Int32) d_M_printWord_4 (by decide)) ?_
  refine rb_TC.mono (rk_isub d_M_printWord_5) ?_
  refine rb_TC.mono (rk_istore_n (lv2 := [some (va_rf r0), some (.long y1), none, some (.int (x_1 - (1 : Int32)))]) 3 d_M_printWord_6 rfl (by decide) (fun _ => rb_one_n) rfl) ?_
  exact rb_TC.loop2 (A := (fun z : (Int32 × rb_St) => rb_WK E k_M_printWord d σ res 7 [some (va_rf r0), some (.long y1), none, some (.int z.1)] [] z.2)) ((x_1 - (1 : Int32)), σ_2) (fun z => t_M_printWord_b7 hdd  (r0) (y1) (z.1) z.2)
-- ===== RuleBuilderModel.allNames(I)Z
def k_M_allNames : rb_MK := (⟨"RuleBuilderModel", "allNames", "(I)Z"⟩, prog_14_method_57_code, 4, some (.boolean))
theorem mw_M_allNames : rb_Mw k_M_allNames 1 := ⟨rb_inG 1674 (by decide +kernel) rfl, rb_inG 94 (by decide +kernel) rfl, ⟨by decide, by decide, by decide +kernel⟩, by decide⟩
theorem d_M_allNames_0 : decode prog_14_method_57_code 0 = .ok (.iconst 1, 1) := by decide +kernel
theorem d_M_allNames_1 : decode prog_14_method_57_code 1 = .ok (.istore_n 2, 1) := by decide +kernel
theorem d_M_allNames_2 : decode prog_14_method_57_code 2 = .ok (.iconst 1, 1) := by decide +kernel
theorem d_M_allNames_3 : decode prog_14_method_57_code 3 = .ok (.istore_n 3, 1) := by decide +kernel
theorem d_M_allNames_4 : decode prog_14_method_57_code 4 = .ok (.iload_n 3, 1) := by decide +kernel
theorem d_M_allNames_5 : decode prog_14_method_57_code 5 = .ok (.iload_n 1, 1) := by decide +kernel
theorem d_M_allNames_6 : decode prog_14_method_57_code 6 = .ok (.if_icmp .ge 31, 3) := by decide +kernel
theorem d_M_allNames_9 : decode prog_14_method_57_code 9 = .ok (.iload_n 2, 1) := by decide +kernel
theorem d_M_allNames_10 : decode prog_14_method_57_code 10 = .ok (.ifCond .eq 27, 3) := by decide +kernel
theorem d_M_allNames_13 : decode prog_14_method_57_code 13 = .ok (.aload_n 0, 1) := by decide +kernel
theorem d_M_allNames_14 : decode prog_14_method_57_code 14 = .ok (.aload_n 0, 1) := by decide +kernel
theorem d_M_allNames_15 : decode prog_14_method_57_code 15 = .ok (.iload_n 3, 1) := by decide +kernel
theorem d_M_allNames_16 : decode prog_14_method_57_code 16 = .ok (.invokevirtual 320, 3) := by decide +kernel
theorem d_M_allNames_19 : decode prog_14_method_57_code 19 = .ok (.invokevirtual 192, 3) := by decide +kernel
theorem d_M_allNames_22 : decode prog_14_method_57_code 22 = .ok (.ifCond .lt 7, 3) := by decide +kernel
theorem d_M_allNames_25 : decode prog_14_method_57_code 25 = .ok (.iconst 1, 1) := by decide +kernel
theorem d_M_allNames_26 : decode prog_14_method_57_code 26 = .ok (.goto 4, 3) := by decide +kernel
theorem d_M_allNames_29 : decode prog_14_method_57_code 29 = .ok (.iconst 0, 1) := by decide +kernel
theorem d_M_allNames_30 : decode prog_14_method_57_code 30 = .ok (.istore_n 2, 1) := by decide +kernel
theorem d_M_allNames_31 : decode prog_14_method_57_code 31 = .ok (.iinc 3 1, 3) := by decide +kernel
theorem d_M_allNames_34 : decode prog_14_method_57_code 34 = .ok (.goto (-30), 3) := by decide +kernel
theorem d_M_allNames_37 : decode prog_14_method_57_code 37 = .ok (.iload_n 2, 1) := by decide +kernel
theorem d_M_allNames_38 : decode prog_14_method_57_code 38 = .ok (.ireturn, 1) := by decide +kernel
noncomputable def f_M_allNames_j37 (x2 : Int32) (σ : rb_St) : Option rb_Rs :=
  if rb_isZ x2 then some (some (.int x2), σ) else none
theorem t_M_allNames_j37 {E : rb_EV} {d : Nat} {σ0 : rb_St} {res : rb_Rs} (hdd : 3 ≤ d)  (x2 : Int32) (σ : rb_St) : rb_TC (f_M_allNames_j37 x2 σ) (fun r => r = res) (rb_WK E k_M_allNames d σ0 res 37 [none, none, some (.int x2), none] [] σ) := by
  unfold f_M_allNames_j37
  refine rb_TC.mono (rk_iload_n 2 d_M_allNames_37 rfl rfl) ?_
  refine rb_TC.ite (fun hn => ?_) (fun _ => rb_TC.none)
  exact rt_iret (ty := .boolean) rfl (rb_nar_Z hn) (fun h => h) d_M_allNames_38
noncomputable def f_M_allNames_b4 (r0 : Option Nat) (x1 : Int32) (x2 : Int32) (x3 : Int32) (σ : rb_St) : Option ((Int32 × Int32 × rb_St) ⊕ rb_Rs) :=
  if x1 ≤ x3 then ((f_M_allNames_j37 (x2) σ).map Sum.inr) else (if x2 = 0 then ((f_M_allNames_j37 (x2) σ).map Sum.inr) else ((rb_fc σ r0 13).bind fun _ => rb_cL (f_M_word (r0) (x3) σ) fun y_1 σ_2 => (rb_fc σ_2 r0 13).bind fun _ => rb_cI (f_M_meet (r0) (y_1) σ_2) fun x_3 σ_4 => if x_3 < 0 then (some (.inl ((0 : Int32), (x3 + 1), σ_4))) else (some (.inl ((1 : Int32), (x3 + 1), σ_4)))))
theorem t_M_allNames_b4 {E : rb_EV} {d : Nat} {σ0 : rb_St} {res : rb_Rs} (hdd : 3 ≤ d)  (r0 : Option Nat) (x1 : Int32) (x2 : Int32) (x3 : Int32) (σ : rb_St) : rb_TC (f_M_allNames_b4 r0 x1 x2 x3 σ) (Sum.elim (fun z : (Int32 × Int32 × rb_St) => rb_WK E k_M_allNames d σ0 res 4 [some (va_rf r0), some (.int x1), some (.int z.1), some (.int z.2.1)] [] z.2.2) (fun r => r = res)) (rb_WK E k_M_allNames d σ0 res 4 [some (va_rf r0), some (.int x1), some (.int x2), some (.int x3)] [] σ) := by
  unfold f_M_allNames_b4
  refine rb_TC.mono (rk_iload_n 3 d_M_allNames_4 rfl rfl) ?_
  refine rb_TC.mono (rk_iload_n 1 d_M_allNames_5 rfl rfl) ?_
  refine rt_icmp_ge 37 d_M_allNames_6 (by decide) (fun _ => ?_) (fun _ => ?_)
  · refine rb_TC.out ?_
    refine rb_TC.mono (rk_less (lv2 := [none, none, some (.int x2), none]) (rb_le_ok (rb_leN (rb_leN (rb_leS (rb_leN rb_le0)))))) ?_
    exact t_M_allNames_j37 hdd  (x2) σ
  · refine rb_TC.mono (rk_iload_n 2 d_M_allNames_9 rfl rfl) ?_
    refine rt_if_eq 37 d_M_allNames_10 (by decide) (fun _ => ?_) (fun _ => ?_)
    · refine rb_TC.out ?_
      refine rb_TC.mono (rk_less (lv2 := [none, none, some (.int x2), none]) (rb_le_ok (rb_leN (rb_leN (rb_leS (rb_leN rb_le0)))))) ?_
      exact t_M_allNames_j37 hdd  (x2) σ
    · refine rb_TC.mono (rk_aload_n 0 d_M_allNames_13 rfl rfl) ?_
      refine rb_TC.mono (rk_aload_n 0 d_M_allNames_14 rfl rfl) ?_
      refine rb_TC.mono (rk_iload_n 3 d_M_allNames_15 rfl rfl) ?_
      refine rt_vL (As := [.int x3]) (st := [va_rf r0]) (r0) vw_M_320 (s_M_word (Nat.le_refl _) (r0) (x3) σ) (Nat.le_trans (by decide) hdd) rfl (by simp [rb_cat_r, rb_cat_i, rb_cat_l]) d_M_allNames_16 (fun y_1 σ_2 => ?_)
      refine rt_vI (As := [.long y_1]) (st := []) (r0) vw_M_192 (s_M_meet (Nat.le_refl _) (r0) (y_1) σ_2) (Nat.le_trans (by decide) hdd) rfl (by simp [rb_cat_r, rb_cat_i, rb_cat_l]) d_M_allNames_19 (fun x_3 σ_4 => ?_)
      refine rt_if_lt 29 d_M_allNames_22 (by decide) (fun _ => ?_) (fun _ => ?_)
      · refine rb_TC.mono (rk_iconst (0 : Int32) d_M_allNames_29 (by decide)) ?_
        refine rb_TC.mono (rk_istore_n (lv2 := [some (va_rf r0), some (.int x1), some (.int (0 : Int32)), some (.int x3)]) 2 d_M_allNames_30 rfl (by decide) (fun _ => rb_one_i) rfl) ?_
        refine rb_TC.mono (rk_iinc (lv2 := [some (va_rf r0), some (.int x1), some (.int (0 : Int32)), some (.int (x3 + 1))]) (x3 + 1) d_M_allNames_31 rfl rfl (by decide) (fun _ => rb_one_i) rfl) ?_
        refine rb_TC.mono (rk_goto 4 d_M_allNames_34 (by decide)) ?_
        exact rb_back
      · refine rb_TC.mono (rk_iconst (1 : Int32) d_M_allNames_25 (by decide)) ?_
        refine rb_TC.mono (rk_goto 30 d_M_allNames_26 (by decide)) ?_
        refine rb_TC.mono (rk_istore_n (lv2 := [some (va_rf r0), some (.int x1), some (.int (1 : Int32)), some (.int x3)]) 2 d_M_allNames_30 rfl (by decide) (fun _ => rb_one_i) rfl) ?_
        refine rb_TC.mono (rk_iinc (lv2 := [some (va_rf r0), some (.int x1), some (.int (1 : Int32)), some (.int (x3 + 1))]) (x3 + 1) d_M_allNames_31 rfl rfl (by decide) (fun _ => rb_one_i) rfl) ?_
        refine rb_TC.mono (rk_goto 4 d_M_allNames_34 (by decide)) ?_
        exact rb_back
noncomputable def f_M_allNames (r0 : Option Nat) (x1 : Int32) (σ : rb_St) : Option rb_Rs :=
  rb_it (fun z : (Int32 × Int32 × rb_St) => f_M_allNames_b4 (r0) (x1) (z.1) (z.2.1) z.2.2) ((1 : Int32), (1 : Int32), σ)
theorem s_M_allNames {E : rb_EV} {d : Nat} (hdd : 3 ≤ d) (r0 : Option Nat) (x1 : Int32) (σ : rb_St) : rb_Does E k_M_allNames d [va_rf r0, .int x1] σ (f_M_allNames r0 x1 σ) := by
  refine rb_start (lv := [some (va_rf r0), some (.int x1), none, none]) (by decide) (by simp [lg_sl, rb_as, lv_args, rb_cat_r, rb_cat_i, rb_cat_l, rb_nL, k_M_allNames]) (fun res => ?_)
  unfold f_M_allNames
  refine rb_TC.mono (rk_iconst (1 : Int32) d_M_allNames_0 (by decide)) ?_
  refine rb_TC.mono (rk_istore_n (lv2 := [some (va_rf r0), some (.int x1), some (.int (1 : Int32)), none]) 2 d_M_allNames_1 rfl (by decide) (fun _ => rb_one_i) rfl) ?_
  refine rb_TC.mono (rk_iconst (1 : Int32) d_M_allNames_2 (by decide)) ?_
  refine rb_TC.mono (rk_istore_n (lv2 := [some (va_rf r0), some (.int x1), some (.int (1 : Int32)), some (.int (1 : Int32))]) 3 d_M_allNames_3 rfl (by decide) (fun _ => rb_one_i) rfl) ?_
  exact rb_TC.loop2 (A := (fun z : (Int32 × Int32 × rb_St) => rb_WK E k_M_allNames d σ res 4 [some (va_rf r0), some (.int x1), some (.int z.1), some (.int z.2.1)] [] z.2.2)) ((1 : Int32), (1 : Int32), σ) (fun z => t_M_allNames_b4 hdd  (r0) (x1) (z.1) (z.2.1) z.2.2)
-- ===== RuleBuilderModel.each(Z)Z
def k_M_each : rb_MK := (⟨"RuleBuilderModel", "each", "(Z)Z"⟩, prog_14_method_58_code, 4, some (.boolean))
theorem mw_M_each : rb_Mw k_M_each 1 := ⟨rb_inG 1678 (by decide +kernel) rfl, rb_inG 94 (by decide +kernel) rfl, ⟨by decide, by decide, by decide +kernel⟩, by decide⟩
theorem d_M_each_0 : decode prog_14_method_58_code 0 = .ok (.iconst 1, 1) := by decide +kernel
theorem d_M_each_1 : decode prog_14_method_58_code 1 = .ok (.istore_n 2, 1) := by decide +kernel
theorem d_M_each_2 : decode prog_14_method_58_code 2 = .ok (.iload_n 2, 1) := by decide +kernel
theorem d_M_each_3 : decode prog_14_method_58_code 3 = .ok (.aload_n 0, 1) := by decide +kernel
theorem d_M_each_4 : decode prog_14_method_58_code 4 = .ok (.getfield 254, 3) := by decide +kernel
theorem d_M_each_7 : decode prog_14_method_58_code 7 = .ok (.if_icmp .ge 42, 3) := by decide +kernel
theorem d_M_each_10 : decode prog_14_method_58_code 10 = .ok (.aload_n 0, 1) := by decide +kernel
theorem d_M_each_11 : decode prog_14_method_58_code 11 = .ok (.aload_n 0, 1) := by decide +kernel
theorem d_M_each_12 : decode prog_14_method_58_code 12 = .ok (.iload_n 2, 1) := by decide +kernel
theorem d_M_each_13 : decode prog_14_method_58_code 13 = .ok (.invokevirtual 320, 3) := by decide +kernel
theorem d_M_each_16 : decode prog_14_method_58_code 16 = .ok (.invokevirtual 180, 3) := by decide +kernel
theorem d_M_each_19 : decode prog_14_method_58_code 19 = .ok (.istore_n 3, 1) := by decide +kernel
theorem d_M_each_20 : decode prog_14_method_58_code 20 = .ok (.iload_n 1, 1) := by decide +kernel
theorem d_M_each_21 : decode prog_14_method_58_code 21 = .ok (.ifCond .eq 17, 3) := by decide +kernel
theorem d_M_each_24 : decode prog_14_method_58_code 24 = .ok (.aload_n 0, 1) := by decide +kernel
theorem d_M_each_25 : decode prog_14_method_58_code 25 = .ok (.iload_n 3, 1) := by decide +kernel
theorem d_M_each_26 : decode prog_14_method_58_code 26 = .ok (.aload_n 0, 1) := by decide +kernel
theorem d_M_each_27 : decode prog_14_method_58_code 27 = .ok (.getfield 24, 3) := by decide +kernel
theorem d_M_each_30 : decode prog_14_method_58_code 30 = .ok (.iload_n 3, 1) := by decide +kernel
theorem d_M_each_31 : decode prog_14_method_58_code 31 = .ok (.iaload, 1) := by decide +kernel
theorem d_M_each_32 : decode prog_14_method_58_code 32 = .ok (.invokevirtual 195, 3) := by decide +kernel
theorem d_M_each_35 : decode prog_14_method_58_code 35 = .ok (.goto 8, 3) := by decide +kernel
theorem d_M_each_38 : decode prog_14_method_58_code 38 = .ok (.aload_n 0, 1) := by decide +kernel
theorem d_M_each_39 : decode prog_14_method_58_code 39 = .ok (.iload_n 3, 1) := by decide +kernel
theorem d_M_each_40 : decode prog_14_method_58_code 40 = .ok (.invokevirtual 199, 3) := by decide +kernel
theorem d_M_each_43 : decode prog_14_method_58_code 43 = .ok (.iinc 2 1, 3) := by decide +kernel
theorem d_M_each_46 : decode prog_14_method_58_code 46 = .ok (.goto (-44), 3) := by decide +kernel
theorem d_M_each_49 : decode prog_14_method_58_code 49 = .ok (.iconst 1, 1) := by decide +kernel
theorem d_M_each_50 : decode prog_14_method_58_code 50 = .ok (.ireturn, 1) := by decide +kernel
noncomputable def f_M_each_b2 (r0 : Option Nat) (x1 : Int32) (x2 : Int32) (σ : rb_St) : Option ((Int32 × rb_St) ⊕ rb_Rs) :=
  (rb_gI σ r0 13 47).bind fun x_1 => if x_1 ≤ x2 then ((some (some (.int (1 : Int32)), σ)).map Sum.inr) else ((rb_fc σ r0 13).bind fun _ => rb_cL (f_M_word (r0) (x2) σ) fun y_2 σ_3 => (rb_fc σ_3 r0 13).bind fun _ => rb_cI (f_M_find (r0) (y_2) σ_3) fun x_4 σ_5 => if x1 = 0 then ((rb_fc σ_5 r0 13).bind fun _ => rb_cV (f_M_remove (r0) (x_4) σ_5) fun σ_6 => some (.inl ((x2 + 1), σ_6))) else ((rb_gR σ_5 r0 13 6).bind fun r_7 => (rb_aI σ_5 r_7 102 x_4).bind fun x_8 => (rb_fc σ_5 r0 13).bind fun _ => rb_cV (f_M_write (r0) (x_4) (x_8) σ_5) fun σ_9 => some (.inl ((x2 + 1), σ_9))))
theorem t_M_each_b2 {E : rb_EV} {d : Nat} {σ0 : rb_St} {res : rb_Rs} (hdd : 2 ≤ d)  (r0 : Option Nat) (x1 : Int32) (x2 : Int32) (σ : rb_St) : rb_TC (f_M_each_b2 r0 x1 x2 σ) (Sum.elim (fun z : (Int32 × rb_St) => rb_WK E k_M_each d σ0 res 2 [some (va_rf r0), some (.int x1), some (.int z.1), none] [] z.2) (fun r => r = res)) (rb_WK E k_M_each d σ0 res 2 [some (va_rf r0), some (.int x1), some (.int x2), none] [] σ) := by
  unfold f_M_each_b2
  refine rb_TC.mono (rk_iload_n 2 d_M_each_2 rfl rfl) ?_
  refine rb_TC.mono (rk_aload_n 0 d_M_each_3 rfl rfl) ?_
  refine rt_gI r0 fw_M_254 d_M_each_4 (fun x_1 => ?_)
  refine rt_icmp_ge 49 d_M_each_7 (by decide) (fun _ => ?_) (fun _ => ?_)
  · refine rb_TC.out ?_
    refine rb_TC.mono (rk_iconst (1 : Int32) d_M_each_49 (by decide)) ?_
    exact rt_iret (ty := .boolean) rfl (by decide) (fun h => h) d_M_each_50
  · refine rb_TC.mono (rk_aload_n 0 d_M_each_10 rfl rfl) ?_
    refine rb_TC.mono (rk_aload_n 0 d_M_each_11 rfl rfl) ?_
    refine rb_TC.mono (rk_iload_n 2 d_M_each_12 rfl rfl) ?_
    refine rt_vL (As := [.int x2]) (st := [va_rf r0]) (r0) vw_M_320 (s_M_word (Nat.le_refl _) (r0) (x2) σ) (Nat.le_trans (by decide) hdd) rfl (by simp [rb_cat_r, rb_cat_i, rb_cat_l]) d_M_each_13 (fun y_2 σ_3 => ?_)
    refine rt_vI (As := [.long y_2]) (st := []) (r0) vw_M_180 (s_M_find (Nat.le_refl _) (r0) (y_2) σ_3) (Nat.le_trans (by decide) hdd) rfl (by simp [rb_cat_r, rb_cat_i, rb_cat_l]) d_M_each_16 (fun x_4 σ_5 => ?_)
    refine rb_TC.mono (rk_istore_n (lv2 := [some (va_rf r0), some (.int x1), some (.int x2), some (.int x_4)]) 3 d_M_each_19 rfl (by decide) (fun _ => rb_one_i) rfl) ?_
    refine rb_TC.mono (rk_iload_n 1 d_M_each_20 rfl rfl) ?_
    refine rt_if_eq 38 d_M_each_21 (by decide) (fun _ => ?_) (fun _ => ?_)
    · refine rb_TC.mono (rk_aload_n 0 d_M_each_38 rfl rfl) ?_
      refine rb_TC.mono (rk_iload_n 3 d_M_each_39 rfl rfl) ?_
      refine rt_vV (As := [.int x_4]) (st := []) (r0) vw_M_199 (s_M_remove (Nat.le_refl _) (r0) (x_4) σ_5) (Nat.le_trans (by decide) hdd) rfl (by simp [rb_cat_r, rb_cat_i, rb_cat_l]) d_M_each_40 (fun σ_6 => ?_)
      refine rb_TC.mono (rk_iinc (lv2 := [some (va_rf r0), some (.int x1), some (.int (x2 + 1)), some (.int x_4)]) (x2 + 1) d_M_each_43 rfl rfl (by decide) (fun _ => rb_one_i) rfl) ?_
      refine rb_TC.mono (rk_goto 2 d_M_each_46 (by decide)) ?_
      refine rb_TC.mono (rk_less (lv2 := [some (va_rf r0), some (.int x1), some (.int (x2 + 1)), none]) (rb_le_ok (rb_leS (rb_leS (rb_leS (rb_leN rb_le0)))))) ?_
      exact rb_back
    · refine rb_TC.mono (rk_aload_n 0 d_M_each_24 rfl rfl) ?_
      refine rb_TC.mono (rk_iload_n 3 d_M_each_25 rfl rfl) ?_
      refine rb_TC.mono (rk_aload_n 0 d_M_each_26 rfl rfl) ?_
      refine rt_gR r0 fw_M_24 d_M_each_27 (fun r_7 => ?_)
      refine rb_TC.mono (rk_iload_n 3 d_M_each_30 rfl rfl) ?_
      refine rt_iald r_7 d_M_each_31 (fun x_8 => ?_)
      refine rt_vV (As := [.int x_4, .int x_8]) (st := []) (r0) vw_M_195 (s_M_write (Nat.le_refl _) (r0) (x_4) (x_8) σ_5) (Nat.le_trans (by decide) hdd) rfl (by simp [rb_cat_r, rb_cat_i, rb_cat_l]) d_M_each_32 (fun σ_9 => ?_)
      refine rb_TC.mono (rk_goto 43 d_M_each_35 (by decide)) ?_
      refine rb_TC.mono (rk_iinc (lv2 := [some (va_rf r0), some (.int x1), some (.int (x2 + 1)), some (.int x_4)]) (x2 + 1) d_M_each_43 rfl rfl (by decide) (fun _ => rb_one_i) rfl) ?_
      refine rb_TC.mono (rk_goto 2 d_M_each_46 (by decide)) ?_
      refine rb_TC.mono (rk_less (lv2 := [some (va_rf r0), some (.int x1), some (.int (x2 + 1)), none]) (rb_le_ok (rb_leS (rb_leS (rb_leS (rb_leN rb_le0)))))) ?_
      exact rb_back
noncomputable def f_M_each (r0 : Option Nat) (x1 : Int32) (σ : rb_St) : Option rb_Rs :=
  rb_it (fun z : (Int32 × rb_St) => f_M_each_b2 (r0) (x1) (z.1) z.2) ((1 : Int32), σ)
theorem s_M_each {E : rb_EV} {d : Nat} (hdd : 2 ≤ d) (r0 : Option Nat) (x1 : Int32) (σ : rb_St) : rb_Does E k_M_each d [va_rf r0, .int x1] σ (f_M_each r0 x1 σ) := by
  refine rb_start (lv := [some (va_rf r0), some (.int x1), none, none]) (by decide) (by simp [lg_sl, rb_as, lv_args, rb_cat_r, rb_cat_i, rb_cat_l, rb_nL, k_M_each]) (fun res => ?_)
  unfold f_M_each
  refine rb_TC.mono (rk_iconst (1 : Int32) d_M_each_0 (by decide)) ?_
  refine rb_TC.mono (rk_istore_n (lv2 := [some (va_rf r0), some (.int x1), some (.int (1 : Int32)), none]) 2 d_M_each_1 rfl (by decide) (fun _ => rb_one_i) rfl) ?_
  exact rb_TC.loop2 (A := (fun z : (Int32 × rb_St) => rb_WK E k_M_each d σ res 2 [some (va_rf r0), some (.int x1), some (.int z.1), none] [] z.2)) ((1 : Int32), σ) (fun z => t_M_each_b2 hdd  (r0) (x1) (z.1) z.2)
-- ===== RuleBuilderModel.copy()Z
def k_M_copy : rb_MK := (⟨"RuleBuilderModel", "copy", "()Z"⟩, prog_14_method_59_code, 2, some (.boolean))
theorem mw_M_copy : rb_Mw k_M_copy 0 := ⟨rb_inG 1683 (by decide +kernel) rfl, rb_inG 94 (by decide +kernel) rfl, ⟨by decide, by decide, by decide +kernel⟩, by decide⟩
theorem d_M_copy_0 : decode prog_14_method_59_code 0 = .ok (.aload_n 0, 1) := by decide +kernel
theorem d_M_copy_1 : decode prog_14_method_59_code 1 = .ok (.aload_n 0, 1) := by decide +kernel
theorem d_M_copy_2 : decode prog_14_method_59_code 2 = .ok (.iconst 1, 1) := by decide +kernel
theorem d_M_copy_3 : decode prog_14_method_59_code 3 = .ok (.invokevirtual 320, 3) := by decide +kernel
theorem d_M_copy_6 : decode prog_14_method_59_code 6 = .ok (.invokevirtual 180, 3) := by decide +kernel
theorem d_M_copy_9 : decode prog_14_method_59_code 9 = .ok (.istore_n 1, 1) := by decide +kernel
theorem d_M_copy_10 : decode prog_14_method_59_code 10 = .ok (.aload_n 0, 1) := by decide +kernel
theorem d_M_copy_11 : decode prog_14_method_59_code 11 = .ok (.getfield 17, 3) := by decide +kernel
theorem d_M_copy_14 : decode prog_14_method_59_code 14 = .ok (.iload_n 1, 1) := by decide +kernel
theorem d_M_copy_15 : decode prog_14_method_59_code 15 = .ok (.baload, 1) := by decide +kernel
theorem d_M_copy_16 : decode prog_14_method_59_code 16 = .ok (.ifCond .ne 5, 3) := by decide +kernel
theorem d_M_copy_19 : decode prog_14_method_59_code 19 = .ok (.iconst 0, 1) := by decide +kernel
theorem d_M_copy_20 : decode prog_14_method_59_code 20 = .ok (.ireturn, 1) := by decide +kernel
theorem d_M_copy_21 : decode prog_14_method_59_code 21 = .ok (.aload_n 0, 1) := by decide +kernel
theorem d_M_copy_22 : decode prog_14_method_59_code 22 = .ok (.aload_n 0, 1) := by decide +kernel
theorem d_M_copy_23 : decode prog_14_method_59_code 23 = .ok (.aload_n 0, 1) := by decide +kernel
theorem d_M_copy_24 : decode prog_14_method_59_code 24 = .ok (.iconst 2, 1) := by decide +kernel
theorem d_M_copy_25 : decode prog_14_method_59_code 25 = .ok (.invokevirtual 320, 3) := by decide +kernel
theorem d_M_copy_28 : decode prog_14_method_59_code 28 = .ok (.invokevirtual 180, 3) := by decide +kernel
theorem d_M_copy_31 : decode prog_14_method_59_code 31 = .ok (.aload_n 0, 1) := by decide +kernel
theorem d_M_copy_32 : decode prog_14_method_59_code 32 = .ok (.getfield 24, 3) := by decide +kernel
theorem d_M_copy_35 : decode prog_14_method_59_code 35 = .ok (.iload_n 1, 1) := by decide +kernel
theorem d_M_copy_36 : decode prog_14_method_59_code 36 = .ok (.iaload, 1) := by decide +kernel
theorem d_M_copy_37 : decode prog_14_method_59_code 37 = .ok (.invokevirtual 195, 3) := by decide +kernel
theorem d_M_copy_40 : decode prog_14_method_59_code 40 = .ok (.iconst 1, 1) := by decide +kernel
theorem d_M_copy_41 : decode prog_14_method_59_code 41 = .ok (.ireturn, 1) := by decide +kernel
noncomputable def f_M_copy (r0 : Option Nat) (σ : rb_St) : Option rb_Rs :=
  (rb_fc σ r0 13).bind fun _ => rb_cL (f_M_word (r0) ((1 : Int32)) σ) fun y_1 σ_2 => (rb_fc σ_2 r0 13).bind fun _ => rb_cI (f_M_find (r0) (y_1) σ_2) fun x_3 σ_4 => (rb_gR σ_4 r0 13 4).bind fun r_5 => (rb_aI σ_4 r_5 104 x_3).bind fun x_6 => if x_6 = 0 then (some (some (.int (0 : Int32)), σ_4)) else ((rb_fc σ_4 r0 13).bind fun _ => rb_cL (f_M_word (r0) ((2 : Int32)) σ_4) fun y_7 σ_8 => (rb_fc σ_8 r0 13).bind fun _ => rb_cI (f_M_find (r0) (y_7) σ_8) fun x_9 σ_10 => (rb_gR σ_10 r0 13 6).bind fun r_11 => (rb_aI σ_10 r_11 102 x_3).bind fun x_12 => (rb_fc σ_10 r0 13).bind fun _ => rb_cV (f_M_write (r0) (x_9) (x_12) σ_10) fun σ_13 => some (some (.int (1 : Int32)), σ_13))
theorem s_M_copy {E : rb_EV} {d : Nat} (hdd : 2 ≤ d) (r0 : Option Nat) (σ : rb_St) : rb_Does E k_M_copy d [va_rf r0] σ (f_M_copy r0 σ) := by
  refine rb_start (lv := [some (va_rf r0), none]) (by decide) (by simp [lg_sl, rb_as, lv_args, rb_cat_r, rb_cat_i, rb_cat_l, rb_nL, k_M_copy]) (fun res => ?_)
  unfold f_M_copy
  refine rb_TC.mono (rk_aload_n 0 d_M_copy_0 rfl rfl) ?_
  refine rb_TC.mono (rk_aload_n 0 d_M_copy_1 rfl rfl) ?_
  refine rb_TC.mono (rk_iconst (1 : Int32) d_M_copy_2 (by decide)) ?_
  refine rt_vL (As := [.int (1 : Int32)]) (st := [va_rf r0]) (r0) vw_M_320 (s_M_word (Nat.le_refl _) (r0) ((1 : Int32)) σ) (Nat.le_trans (by decide) hdd) rfl (by simp [rb_cat_r, rb_cat_i, rb_cat_l]) d_M_copy_3 (fun y_1 σ_2 => ?_)
  refine rt_vI (As := [.long y_1]) (st := []) (r0) vw_M_180 (s_M_find (Nat.le_refl _) (r0) (y_1) σ_2) (Nat.le_trans (by decide) hdd) rfl (by simp [rb_cat_r, rb_cat_i, rb_cat_l]) d_M_copy_6 (fun x_3 σ_4 => ?_)
  refine rb_TC.mono (rk_istore_n (lv2 := [some (va_rf r0), some (.int x_3)]) 1 d_M_copy_9 rfl (by decide) (fun _ => rb_one_r) rfl) ?_
  refine rb_TC.mono (rk_aload_n 0 d_M_copy_10 rfl rfl) ?_
  refine rt_gR r0 fw_M_17 d_M_copy_11 (fun r_5 => ?_)
  refine rb_TC.mono (rk_iload_n 1 d_M_copy_14 rfl rfl) ?_
  refine rt_zald r_5 d_M_copy_15 (fun x_6 => ?_)
  refine rt_if_ne 21 d_M_copy_16 (by decide) (fun _ => ?_) (fun _ => ?_)
  · refine rb_TC.mono (rk_iconst (0 : Int32) d_M_copy_19 (by decide)) ?_
    exact rt_iret (ty := .boolean) rfl (by decide) (fun h => h) d_M_copy_20
  · refine rb_TC.mono (rk_aload_n 0 d_M_copy_21 rfl rfl) ?_
    refine rb_TC.mono (rk_aload_n 0 d_M_copy_22 rfl rfl) ?_
    refine rb_TC.mono (rk_aload_n 0 d_M_copy_23 rfl rfl) ?_
    refine rb_TC.mono (rk_iconst (2 : Int32) d_M_copy_24 (by decide)) ?_
    refine rt_vL (As := [.int (2 : Int32)]) (st := [va_rf r0, va_rf r0]) (r0) vw_M_320 (s_M_word (Nat.le_refl _) (r0) ((2 : Int32)) σ_4) (Nat.le_trans (by decide) hdd) rfl (by simp [rb_cat_r, rb_cat_i, rb_cat_l]) d_M_copy_25 (fun y_7 σ_8 => ?_)
    refine rt_vI (As := [.long y_7]) (st := [va_rf r0]) (r0) vw_M_180 (s_M_find (Nat.le_refl _) (r0) (y_7) σ_8) (Nat.le_trans (by decide) hdd) rfl (by simp [rb_cat_r, rb_cat_i, rb_cat_l]) d_M_copy_28 (fun x_9 σ_10 => ?_)
    refine rb_TC.mono (rk_aload_n 0 d_M_copy_31 rfl rfl) ?_
    refine rt_gR r0 fw_M_24 d_M_copy_32 (fun r_11 => ?_)
    refine rb_TC.mono (rk_iload_n 1 d_M_copy_35 rfl rfl) ?_
    refine rt_iald r_11 d_M_copy_36 (fun x_12 => ?_)
    refine rt_vV (As := [.int x_9, .int x_12]) (st := []) (r0) vw_M_195 (s_M_write (Nat.le_refl _) (r0) (x_9) (x_12) σ_10) (Nat.le_trans (by decide) hdd) rfl (by simp [rb_cat_r, rb_cat_i, rb_cat_l]) d_M_copy_37 (fun σ_13 => ?_)
    refine rb_TC.mono (rk_iconst (1 : Int32) d_M_copy_40 (by decide)) ?_
    exact rt_iret (ty := .boolean) rfl (by decide) (fun h => h) d_M_copy_41
-- ===== RuleBuilderModel.join()Z
def k_M_join : rb_MK := (⟨"RuleBuilderModel", "join", "()Z"⟩, prog_14_method_60_code, 4, some (.boolean))
theorem mw_M_join : rb_Mw k_M_join 0 := ⟨rb_inG 1689 (by decide +kernel) rfl, rb_inG 94 (by decide +kernel) rfl, ⟨by decide, by decide, by decide +kernel⟩, by decide⟩
theorem d_M_join_0 : decode prog_14_method_60_code 0 = .ok (.iconst 0, 1) := by decide +kernel
theorem d_M_join_1 : decode prog_14_method_60_code 1 = .ok (.istore_n 1, 1) := by decide +kernel
theorem d_M_join_2 : decode prog_14_method_60_code 2 = .ok (.iconst 1, 1) := by decide +kernel
theorem d_M_join_3 : decode prog_14_method_60_code 3 = .ok (.istore_n 2, 1) := by decide +kernel
theorem d_M_join_4 : decode prog_14_method_60_code 4 = .ok (.iload_n 2, 1) := by decide +kernel
theorem d_M_join_5 : decode prog_14_method_60_code 5 = .ok (.aload_n 0, 1) := by decide +kernel
theorem d_M_join_6 : decode prog_14_method_60_code 6 = .ok (.getfield 254, 3) := by decide +kernel
theorem d_M_join_9 : decode prog_14_method_60_code 9 = .ok (.iconst 2, 1) := by decide +kernel
theorem d_M_join_10 : decode prog_14_method_60_code 10 = .ok (.isub, 1) := by decide +kernel
theorem d_M_join_11 : decode prog_14_method_60_code 11 = .ok (.if_icmp .ge 44, 3) := by decide +kernel
theorem d_M_join_14 : decode prog_14_method_60_code 14 = .ok (.aload_n 0, 1) := by decide +kernel
theorem d_M_join_15 : decode prog_14_method_60_code 15 = .ok (.aload_n 0, 1) := by decide +kernel
theorem d_M_join_16 : decode prog_14_method_60_code 16 = .ok (.iload_n 2, 1) := by decide +kernel
theorem d_M_join_17 : decode prog_14_method_60_code 17 = .ok (.invokevirtual 320, 3) := by decide +kernel
theorem d_M_join_20 : decode prog_14_method_60_code 20 = .ok (.invokevirtual 180, 3) := by decide +kernel
theorem d_M_join_23 : decode prog_14_method_60_code 23 = .ok (.istore_n 3, 1) := by decide +kernel
theorem d_M_join_24 : decode prog_14_method_60_code 24 = .ok (.aload_n 0, 1) := by decide +kernel
theorem d_M_join_25 : decode prog_14_method_60_code 25 = .ok (.getfield 17, 3) := by decide +kernel
theorem d_M_join_28 : decode prog_14_method_60_code 28 = .ok (.iload_n 3, 1) := by decide +kernel
theorem d_M_join_29 : decode prog_14_method_60_code 29 = .ok (.baload, 1) := by decide +kernel
theorem d_M_join_30 : decode prog_14_method_60_code 30 = .ok (.ifCond .ne 5, 3) := by decide +kernel
theorem d_M_join_33 : decode prog_14_method_60_code 33 = .ok (.iconst 0, 1) := by decide +kernel
theorem d_M_join_34 : decode prog_14_method_60_code 34 = .ok (.ireturn, 1) := by decide +kernel
theorem d_M_join_35 : decode prog_14_method_60_code 35 = .ok (.bipush 31, 2) := by decide +kernel
theorem d_M_join_37 : decode prog_14_method_60_code 37 = .ok (.iload_n 1, 1) := by decide +kernel
theorem d_M_join_38 : decode prog_14_method_60_code 38 = .ok (.imul, 1) := by decide +kernel
theorem d_M_join_39 : decode prog_14_method_60_code 39 = .ok (.aload_n 0, 1) := by decide +kernel
theorem d_M_join_40 : decode prog_14_method_60_code 40 = .ok (.getfield 24, 3) := by decide +kernel
theorem d_M_join_43 : decode prog_14_method_60_code 43 = .ok (.iload_n 3, 1) := by decide +kernel
theorem d_M_join_44 : decode prog_14_method_60_code 44 = .ok (.iaload, 1) := by decide +kernel
theorem d_M_join_45 : decode prog_14_method_60_code 45 = .ok (.iadd, 1) := by decide +kernel
theorem d_M_join_46 : decode prog_14_method_60_code 46 = .ok (.iconst 1, 1) := by decide +kernel
theorem d_M_join_47 : decode prog_14_method_60_code 47 = .ok (.iadd, 1) := by decide +kernel
theorem d_M_join_48 : decode prog_14_method_60_code 48 = .ok (.istore_n 1, 1) := by decide +kernel
theorem d_M_join_49 : decode prog_14_method_60_code 49 = .ok (.iinc 2 1, 3) := by decide +kernel
theorem d_M_join_52 : decode prog_14_method_60_code 52 = .ok (.goto (-48), 3) := by decide +kernel
theorem d_M_join_55 : decode prog_14_method_60_code 55 = .ok (.aload_n 0, 1) := by decide +kernel
theorem d_M_join_56 : decode prog_14_method_60_code 56 = .ok (.aload_n 0, 1) := by decide +kernel
theorem d_M_join_57 : decode prog_14_method_60_code 57 = .ok (.aload_n 0, 1) := by decide +kernel
theorem d_M_join_58 : decode prog_14_method_60_code 58 = .ok (.aload_n 0, 1) := by decide +kernel
theorem d_M_join_59 : decode prog_14_method_60_code 59 = .ok (.getfield 254, 3) := by decide +kernel
theorem d_M_join_62 : decode prog_14_method_60_code 62 = .ok (.iconst 1, 1) := by decide +kernel
theorem d_M_join_63 : decode prog_14_method_60_code 63 = .ok (.isub, 1) := by decide +kernel
theorem d_M_join_64 : decode prog_14_method_60_code 64 = .ok (.invokevirtual 320, 3) := by decide +kernel
theorem d_M_join_67 : decode prog_14_method_60_code 67 = .ok (.invokevirtual 180, 3) := by decide +kernel
theorem d_M_join_70 : decode prog_14_method_60_code 70 = .ok (.iload_n 1, 1) := by decide +kernel
theorem d_M_join_71 : decode prog_14_method_60_code 71 = .ok (.invokevirtual 195, 3) := by decide +kernel
theorem d_M_join_74 : decode prog_14_method_60_code 74 = .ok (.iconst 1, 1) := by decide +kernel
theorem d_M_join_75 : decode prog_14_method_60_code 75 = .ok (.ireturn, 1) := by decide +kernel
noncomputable def f_M_join_b4 (r0 : Option Nat) (x1 : Int32) (x2 : Int32) (σ : rb_St) : Option ((Int32 × Int32 × rb_St) ⊕ rb_Rs) :=
  (rb_gI σ r0 13 47).bind fun x_1 => if (x_1 - (2 : Int32)) ≤ x2 then (((rb_gI σ r0 13 47).bind fun x_2 => (rb_fc σ r0 13).bind fun _ => rb_cL (f_M_word (r0) ((x_2 - (1 : Int32))) σ) fun y_3 σ_4 => (rb_fc σ_4 r0 13).bind fun _ => rb_cI (f_M_find (r0) (y_3) σ_4) fun x_5 σ_6 => (rb_fc σ_6 r0 13).bind fun _ => rb_cV (f_M_write (r0) (x_5) (x1) σ_6) fun σ_7 => some (some (.int (1 : Int32)), σ_7)).map Sum.inr) else ((rb_fc σ r0 13).bind fun _ => rb_cL (f_M_word (r0) (x2) σ) fun y_8 σ_9 => (rb_fc σ_9 r0 13).bind fun _ => rb_cI (f_M_find (r0) (y_8) σ_9) fun x_10 σ_11 => (rb_gR σ_11 r0 13 4).bind fun r_12 => (rb_aI σ_11 r_12 104 x_10).bind fun x_13 => if x_13 = 0 then ((some (some (.int (0 : Int32)), σ_11)).map Sum.inr) else ((rb_gR σ_11 r0 13 6).bind fun r_14 => (rb_aI σ_11 r_14 102 x_10).bind fun x_15 => some (.inl (((((31 : Int32) * x1) + x_15) + (1 : Int32)), (x2 + 1), σ_11))))
theorem t_M_join_b4 {E : rb_EV} {d : Nat} {σ0 : rb_St} {res : rb_Rs} (hdd : 2 ≤ d)  (r0 : Option Nat) (x1 : Int32) (x2 : Int32) (σ : rb_St) : rb_TC (f_M_join_b4 r0 x1 x2 σ) (Sum.elim (fun z : (Int32 × Int32 × rb_St) => rb_WK E k_M_join d σ0 res 4 [some (va_rf r0), some (.int z.1), some (.int z.2.1), none] [] z.2.2) (fun r => r = res)) (rb_WK E k_M_join d σ0 res 4 [some (va_rf r0), some (.int x1), some (.int x2), none] [] σ) := by
  unfold f_M_join_b4
  refine rb_TC.mono (rk_iload_n 2 d_M_join_4 rfl rfl) ?_
  refine rb_TC.mono (rk_aload_n 0 d_M_join_5 rfl rfl) ?_
  refine rt_gI r0 fw_M_254 d_M_join_6 (fun x_1 => ?_)
  refine rb_TC.mono (rk_iconst (2 : Int32) d_M_join_9 (by decide)) ?_
  refine rb_TC.mono (rk_isub d_M_join_10) ?_
  refine rt_icmp_ge 55 d_M_join_11 (by decide) (fun _ => ?_) (fun _ => ?_)
  · refine rb_TC.out ?_
    refine rb_TC.mono (rk_aload_n 0 d_M_join_55 rfl rfl) ?_
    refine rb_TC.mono (rk_aload_n 0 d_M_join_56 rfl rfl) ?_
    refine rb_TC.mono (rk_aload_n 0 d_M_join_57 rfl rfl) ?_
    refine rb_TC.mono (rk_aload_n 0 d_M_join_58 rfl rfl) ?_
    refine rt_gI r0 fw_M_254 d_M_join_59 (fun x_2 => ?_)
    refine rb_TC.mono (rk_iconst (1 : Int32) d_M_join_62 (by decide)) ?_
    refine rb_TC.mono (rk_isub d_M_join_63) ?_
    refine rt_vL (As := [.int (x_2 - (1 : Int32))]) (st := [va_rf r0, va_rf r0]) (r0) vw_M_320 (s_M_word (Nat.le_refl _) (r0) ((x_2 - (1 : Int32))) σ) (Nat.le_trans (by decide) hdd) rfl (by simp [rb_cat_r, rb_cat_i, rb_cat_l]) d_M_join_64 (fun y_3 σ_4 => ?_)
    refine rt_vI (As := [.long y_3]) (st := [va_rf r0]) (r0) vw_M_180 (s_M_find (Nat.le_refl _) (r0) (y_3) σ_4) (Nat.le_trans (by decide) hdd) rfl (by simp [rb_cat_r, rb_cat_i, rb_cat_l]) d_M_join_67 (fun x_5 σ_6 => ?_)
    refine rb_TC.mono (rk_iload_n 1 d_M_join_70 rfl rfl) ?_
    refine rt_vV (As := [.int x_5, .int x1]) (st := []) (r0) vw_M_195 (s_M_write (Nat.le_refl _) (r0) (x_5) (x1) σ_6) (Nat.le_trans (by decide) hdd) rfl (by simp [rb_cat_r, rb_cat_i, rb_cat_l]) d_M_join_71 (fun σ_7 => ?_)
    refine rb_TC.mono (rk_iconst (1 : Int32) d_M_join_74 (by decide)) ?_
    exact rt_iret (ty := .boolean) rfl (by decide) (fun h => h) d_M_join_75
  · refine rb_TC.mono (rk_aload_n 0 d_M_join_14 rfl rfl) ?_
    refine rb_TC.mono (rk_aload_n 0 d_M_join_15 rfl rfl) ?_
    refine rb_TC.mono (rk_iload_n 2 d_M_join_16 rfl rfl) ?_
    refine rt_vL (As := [.int x2]) (st := [va_rf r0]) (r0) vw_M_320 (s_M_word (Nat.le_refl _) (r0) (x2) σ) (Nat.le_trans (by decide) hdd) rfl (by simp [rb_cat_r, rb_cat_i, rb_cat_l]) d_M_join_17 (fun y_8 σ_9 => ?_)
    refine rt_vI (As := [.long y_8]) (st := []) (r0) vw_M_180 (s_M_find (Nat.le_refl _) (r0) (y_8) σ_9) (Nat.le_trans (by decide) hdd) rfl (by simp [rb_cat_r, rb_cat_i, rb_cat_l]) d_M_join_20 (fun x_10 σ_11 => ?_)
    refine rb_TC.mono (rk_istore_n (lv2 := [some (va_rf r0), some (.int x1), some (.int x2), some (.int x_10)]) 3 d_M_join_23 rfl (by decide) (fun _ => rb_one_i) rfl) ?_
    refine rb_TC.mono (rk_aload_n 0 d_M_join_24 rfl rfl) ?_
    refine rt_gR r0 fw_M_17 d_M_join_25 (fun r_12 => ?_)
    refine rb_TC.mono (rk_iload_n 3 d_M_join_28 rfl rfl) ?_
    refine rt_zald r_12 d_M_join_29 (fun x_13 => ?_)
    refine rt_if_ne 35 d_M_join_30 (by decide) (fun _ => ?_) (fun _ => ?_)
    · refine rb_TC.out ?_
      refine rb_TC.mono (rk_iconst (0 : Int32) d_M_join_33 (by decide)) ?_
      exact rt_iret (ty := .boolean) rfl (by decide) (fun h => h) d_M_join_34
    · refine rb_TC.mono (rk_bipush (31 : Int32) d_M_join_35 (by decide)) ?_
      refine rb_TC.mono (rk_iload_n 1 d_M_join_37 rfl rfl) ?_
      refine rb_TC.mono (rk_imul d_M_join_38) ?_
      refine rb_TC.mono (rk_aload_n 0 d_M_join_39 rfl rfl) ?_
      refine rt_gR r0 fw_M_24 d_M_join_40 (fun r_14 => ?_)
      refine rb_TC.mono (rk_iload_n 3 d_M_join_43 rfl rfl) ?_
      refine rt_iald r_14 d_M_join_44 (fun x_15 => ?_)
      refine rb_TC.mono (rk_iadd d_M_join_45) ?_
      refine rb_TC.mono (rk_iconst (1 : Int32) d_M_join_46 (by decide)) ?_
      refine rb_TC.mono (rk_iadd d_M_join_47) ?_
      refine rb_TC.mono (rk_istore_n (lv2 := [some (va_rf r0), some (.int ((((31 : Int32) * x1) + x_15) + (1 : Int32))), some (.int x2), some (.int x_10)]) 1 d_M_join_48 rfl (by decide) (fun _ => rb_one_r) rfl) ?_
      refine rb_TC.mono (rk_iinc (lv2 := [some (va_rf r0), some (.int ((((31 : Int32) * x1) + x_15) + (1 : Int32))), some (.int (x2 + 1)), some (.int x_10)]) (x2 + 1) d_M_join_49 rfl rfl (by decide) (fun _ => rb_one_i) rfl) ?_
      refine rb_TC.mono (rk_goto 4 d_M_join_52 (by decide)) ?_
      refine rb_TC.mono (rk_less (lv2 := [some (va_rf r0), some (.int ((((31 : Int32) * x1) + x_15) + (1 : Int32))), some (.int (x2 + 1)), none]) (rb_le_ok (rb_leS (rb_leS (rb_leS (rb_leN rb_le0)))))) ?_
      exact rb_back
noncomputable def f_M_join (r0 : Option Nat) (σ : rb_St) : Option rb_Rs :=
  rb_it (fun z : (Int32 × Int32 × rb_St) => f_M_join_b4 (r0) (z.1) (z.2.1) z.2.2) ((0 : Int32), (1 : Int32), σ)
theorem s_M_join {E : rb_EV} {d : Nat} (hdd : 2 ≤ d) (r0 : Option Nat) (σ : rb_St) : rb_Does E k_M_join d [va_rf r0] σ (f_M_join r0 σ) := by
  refine rb_start (lv := [some (va_rf r0), none, none, none]) (by decide) (by simp [lg_sl, rb_as, lv_args, rb_cat_r, rb_cat_i, rb_cat_l, rb_nL, k_M_join]) (fun res => ?_)
  unfold f_M_join
  refine rb_TC.mono (rk_iconst (0 : Int32) d_M_join_0 (by decide)) ?_
  refine rb_TC.mono (rk_istore_n (lv2 := [some (va_rf r0), some (.int (0 : Int32)), none, none]) 1 d_M_join_1 rfl (by decide) (fun _ => rb_one_r) rfl) ?_
  refine rb_TC.mono (rk_iconst (1 : Int32) d_M_join_2 (by decide)) ?_
  refine rb_TC.mono (rk_istore_n (lv2 := [some (va_rf r0), some (.int (0 : Int32)), some (.int (1 : Int32)), none]) 2 d_M_join_3 rfl (by decide) (fun _ => rb_one_i) rfl) ?_
  exact rb_TC.loop2 (A := (fun z : (Int32 × Int32 × rb_St) => rb_WK E k_M_join d σ res 4 [some (va_rf r0), some (.int z.1), some (.int z.2.1), none] [] z.2.2)) ((0 : Int32), (1 : Int32), σ) (fun z => t_M_join_b4 hdd  (r0) (z.1) (z.2.1) z.2.2)
-- ===== RuleBuilderModel.perform()Z
def k_M_perform : rb_MK := (⟨"RuleBuilderModel", "perform", "()Z"⟩, prog_14_method_56_code, 5, some (.boolean))
theorem mw_M_perform : rb_Mw k_M_perform 0 := ⟨rb_inG 1667 (by decide +kernel) rfl, rb_inG 94 (by decide +kernel) rfl, ⟨by decide, by decide, by decide +kernel⟩, by decide⟩
theorem w_long_M_395 : Cond.constantLong "RuleBuilderModel" 395 (31373226472) ∈ rb_G := rb_inG 1651 (by decide +kernel) rfl
theorem w_long_M_416 : Cond.constantLong "RuleBuilderModel" 416 (245152485) ∈ rb_G := rb_inG 1668 (by decide +kernel) rfl
theorem w_long_M_418 : Cond.constantLong "RuleBuilderModel" 418 (213447791) ∈ rb_G := rb_inG 1669 (by decide +kernel) rfl
theorem w_long_M_420 : Cond.constantLong "RuleBuilderModel" 420 (14701) ∈ rb_G := rb_inG 1670 (by decide +kernel) rfl
theorem w_long_M_428 : Cond.constantLong "RuleBuilderModel" 428 (12784) ∈ rb_G := rb_inG 1679 (by decide +kernel) rfl
theorem w_long_M_433 : Cond.constantLong "RuleBuilderModel" 433 (1634548) ∈ rb_G := rb_inG 1684 (by decide +kernel) rfl
theorem w_long_M_435 : Cond.constantLong "RuleBuilderModel" 435 (62) ∈ rb_G := rb_inG 1685 (by decide +kernel) rfl
theorem fp_M_perform_254 : rb_Fp k_M_perform 254 13 47 .int := ⟨fw_M_254, rfl, fun q h => by cases h; exact Or.inl rfl⟩
theorem vw_M_422 : rb_Vw "RuleBuilderModel" 422 k_M_allNames 13 1 := ⟨mw_M_allNames, rb_inG 1671 (by decide +kernel) rfl, rb_inG 1673 (by decide +kernel) rfl, rb_inG 80 (by decide +kernel) rfl, by decide, by decide, _, rfl, rfl⟩
theorem vw_M_425 : rb_Vw "RuleBuilderModel" 425 k_M_each 13 1 := ⟨mw_M_each, rb_inG 1675 (by decide +kernel) rfl, rb_inG 1677 (by decide +kernel) rfl, rb_inG 81 (by decide +kernel) rfl, by decide, by decide, _, rfl, rfl⟩
theorem vw_M_430 : rb_Vw "RuleBuilderModel" 430 k_M_copy 13 0 := ⟨mw_M_copy, rb_inG 1680 (by decide +kernel) rfl, rb_inG 1682 (by decide +kernel) rfl, rb_inG 82 (by decide +kernel) rfl, by decide, by decide, _, rfl, rfl⟩
theorem vw_M_437 : rb_Vw "RuleBuilderModel" 437 k_M_join 13 0 := ⟨mw_M_join, rb_inG 1686 (by decide +kernel) rfl, rb_inG 1688 (by decide +kernel) rfl, rb_inG 83 (by decide +kernel) rfl, by decide, by decide, _, rfl, rfl⟩
theorem d_M_perform_0 : decode prog_14_method_56_code 0 = .ok (.aload_n 0, 1) := by decide +kernel
theorem d_M_perform_1 : decode prog_14_method_56_code 1 = .ok (.iconst 0, 1) := by decide +kernel
theorem d_M_perform_2 : decode prog_14_method_56_code 2 = .ok (.putfield 254, 3) := by decide +kernel
theorem d_M_perform_5 : decode prog_14_method_56_code 5 = .ok (.aload_n 0, 1) := by decide +kernel
theorem d_M_perform_6 : decode prog_14_method_56_code 6 = .ok (.iconst 0, 1) := by decide +kernel
theorem d_M_perform_7 : decode prog_14_method_56_code 7 = .ok (.aload_n 0, 1) := by decide +kernel
theorem d_M_perform_8 : decode prog_14_method_56_code 8 = .ok (.getfield 203, 3) := by decide +kernel
theorem d_M_perform_11 : decode prog_14_method_56_code 11 = .ok (.invokevirtual 317, 3) := by decide +kernel
theorem d_M_perform_14 : decode prog_14_method_56_code 14 = .ok (.aload_n 0, 1) := by decide +kernel
theorem d_M_perform_15 : decode prog_14_method_56_code 15 = .ok (.getfield 254, 3) := by decide +kernel
theorem d_M_perform_18 : decode prog_14_method_56_code 18 = .ok (.ifCond .ne 5, 3) := by decide +kernel
theorem d_M_perform_21 : decode prog_14_method_56_code 21 = .ok (.iconst 1, 1) := by decide +kernel
theorem d_M_perform_22 : decode prog_14_method_56_code 22 = .ok (.ireturn, 1) := by decide +kernel
theorem d_M_perform_23 : decode prog_14_method_56_code 23 = .ok (.aload_n 0, 1) := by decide +kernel
theorem d_M_perform_24 : decode prog_14_method_56_code 24 = .ok (.iconst 0, 1) := by decide +kernel
theorem d_M_perform_25 : decode prog_14_method_56_code 25 = .ok (.invokevirtual 320, 3) := by decide +kernel
theorem d_M_perform_28 : decode prog_14_method_56_code 28 = .ok (.lstore_n 1, 1) := by decide +kernel
theorem d_M_perform_29 : decode prog_14_method_56_code 29 = .ok (.lload_n 1, 1) := by decide +kernel
theorem d_M_perform_30 : decode prog_14_method_56_code 30 = .ok (.ldc2_w 416, 3) := by decide +kernel
theorem d_M_perform_33 : decode prog_14_method_56_code 33 = .ok (.lcmp, 1) := by decide +kernel
theorem d_M_perform_34 : decode prog_14_method_56_code 34 = .ok (.ifCond .ne 5, 3) := by decide +kernel
theorem d_M_perform_37 : decode prog_14_method_56_code 37 = .ok (.iconst 1, 1) := by decide +kernel
theorem d_M_perform_38 : decode prog_14_method_56_code 38 = .ok (.ireturn, 1) := by decide +kernel
theorem d_M_perform_39 : decode prog_14_method_56_code 39 = .ok (.lload_n 1, 1) := by decide +kernel
theorem d_M_perform_40 : decode prog_14_method_56_code 40 = .ok (.ldc2_w 418, 3) := by decide +kernel
theorem d_M_perform_43 : decode prog_14_method_56_code 43 = .ok (.lcmp, 1) := by decide +kernel
theorem d_M_perform_44 : decode prog_14_method_56_code 44 = .ok (.ifCond .ne 92, 3) := by decide +kernel
theorem d_M_perform_47 : decode prog_14_method_56_code 47 = .ok (.iconst 1, 1) := by decide +kernel
theorem d_M_perform_48 : decode prog_14_method_56_code 48 = .ok (.istore_n 3, 1) := by decide +kernel
theorem d_M_perform_49 : decode prog_14_method_56_code 49 = .ok (.iload_n 3, 1) := by decide +kernel
theorem d_M_perform_50 : decode prog_14_method_56_code 50 = .ok (.aload_n 0, 1) := by decide +kernel
theorem d_M_perform_51 : decode prog_14_method_56_code 51 = .ok (.getfield 254, 3) := by decide +kernel
theorem d_M_perform_54 : decode prog_14_method_56_code 54 = .ok (.if_icmp .ge 66, 3) := by decide +kernel
theorem d_M_perform_57 : decode prog_14_method_56_code 57 = .ok (.aload_n 0, 1) := by decide +kernel
theorem d_M_perform_58 : decode prog_14_method_56_code 58 = .ok (.getfield 96, 3) := by decide +kernel
theorem d_M_perform_61 : decode prog_14_method_56_code 61 = .ok (.iload_n 3, 1) := by decide +kernel
theorem d_M_perform_62 : decode prog_14_method_56_code 62 = .ok (.iaload, 1) := by decide +kernel
theorem d_M_perform_63 : decode prog_14_method_56_code 63 = .ok (.istore 4, 2) := by decide +kernel
theorem d_M_perform_65 : decode prog_14_method_56_code 65 = .ok (.iload 4, 2) := by decide +kernel
theorem d_M_perform_67 : decode prog_14_method_56_code 67 = .ok (.aload_n 0, 1) := by decide +kernel
theorem d_M_perform_68 : decode prog_14_method_56_code 68 = .ok (.getfield 99, 3) := by decide +kernel
theorem d_M_perform_71 : decode prog_14_method_56_code 71 = .ok (.iload_n 3, 1) := by decide +kernel
theorem d_M_perform_72 : decode prog_14_method_56_code 72 = .ok (.iaload, 1) := by decide +kernel
theorem d_M_perform_73 : decode prog_14_method_56_code 73 = .ok (.if_icmp .ge 20, 3) := by decide +kernel
theorem d_M_perform_76 : decode prog_14_method_56_code 76 = .ok (.aload_n 0, 1) := by decide +kernel
theorem d_M_perform_77 : decode prog_14_method_56_code 77 = .ok (.aload_n 0, 1) := by decide +kernel
theorem d_M_perform_78 : decode prog_14_method_56_code 78 = .ok (.getfield 93, 3) := by decide +kernel
theorem d_M_perform_81 : decode prog_14_method_56_code 81 = .ok (.iload 4, 2) := by decide +kernel
theorem d_M_perform_83 : decode prog_14_method_56_code 83 = .ok (.iaload, 1) := by decide +kernel
theorem d_M_perform_84 : decode prog_14_method_56_code 84 = .ok (.invokevirtual 401, 3) := by decide +kernel
theorem d_M_perform_87 : decode prog_14_method_56_code 87 = .ok (.iinc 4 1, 3) := by decide +kernel
theorem d_M_perform_90 : decode prog_14_method_56_code 90 = .ok (.goto (-25), 3) := by decide +kernel
theorem d_M_perform_93 : decode prog_14_method_56_code 93 = .ok (.aload_n 0, 1) := by decide +kernel
theorem d_M_perform_94 : decode prog_14_method_56_code 94 = .ok (.iload_n 3, 1) := by decide +kernel
theorem d_M_perform_95 : decode prog_14_method_56_code 95 = .ok (.iconst 1, 1) := by decide +kernel
theorem d_M_perform_96 : decode prog_14_method_56_code 96 = .ok (.iadd, 1) := by decide +kernel
theorem d_M_perform_97 : decode prog_14_method_56_code 97 = .ok (.aload_n 0, 1) := by decide +kernel
theorem d_M_perform_98 : decode prog_14_method_56_code 98 = .ok (.getfield 254, 3) := by decide +kernel
theorem d_M_perform_101 : decode prog_14_method_56_code 101 = .ok (.if_icmp .ge 8, 3) := by decide +kernel
theorem d_M_perform_104 : decode prog_14_method_56_code 104 = .ok (.bipush 32, 2) := by decide +kernel
theorem d_M_perform_106 : decode prog_14_method_56_code 106 = .ok (.goto 5, 3) := by decide +kernel
theorem d_M_perform_109 : decode prog_14_method_56_code 109 = .ok (.bipush 10, 2) := by decide +kernel
theorem d_M_perform_111 : decode prog_14_method_56_code 111 = .ok (.invokevirtual 401, 3) := by decide +kernel
theorem d_M_perform_114 : decode prog_14_method_56_code 114 = .ok (.iinc 3 1, 3) := by decide +kernel
theorem d_M_perform_117 : decode prog_14_method_56_code 117 = .ok (.goto (-68), 3) := by decide +kernel
theorem d_M_perform_120 : decode prog_14_method_56_code 120 = .ok (.aload_n 0, 1) := by decide +kernel
theorem d_M_perform_121 : decode prog_14_method_56_code 121 = .ok (.getfield 254, 3) := by decide +kernel
theorem d_M_perform_124 : decode prog_14_method_56_code 124 = .ok (.iconst 1, 1) := by decide +kernel
theorem d_M_perform_125 : decode prog_14_method_56_code 125 = .ok (.if_icmp .ne 9, 3) := by decide +kernel
theorem d_M_perform_128 : decode prog_14_method_56_code 128 = .ok (.aload_n 0, 1) := by decide +kernel
theorem d_M_perform_129 : decode prog_14_method_56_code 129 = .ok (.bipush 10, 2) := by decide +kernel
theorem d_M_perform_131 : decode prog_14_method_56_code 131 = .ok (.invokevirtual 401, 3) := by decide +kernel
theorem d_M_perform_134 : decode prog_14_method_56_code 134 = .ok (.iconst 1, 1) := by decide +kernel
theorem d_M_perform_135 : decode prog_14_method_56_code 135 = .ok (.ireturn, 1) := by decide +kernel
theorem d_M_perform_136 : decode prog_14_method_56_code 136 = .ok (.lload_n 1, 1) := by decide +kernel
theorem d_M_perform_137 : decode prog_14_method_56_code 137 = .ok (.ldc2_w 395, 3) := by decide +kernel
theorem d_M_perform_140 : decode prog_14_method_56_code 140 = .ok (.lcmp, 1) := by decide +kernel
theorem d_M_perform_141 : decode prog_14_method_56_code 141 = .ok (.ifCond .eq 11, 3) := by decide +kernel
theorem d_M_perform_144 : decode prog_14_method_56_code 144 = .ok (.lload_n 1, 1) := by decide +kernel
theorem d_M_perform_145 : decode prog_14_method_56_code 145 = .ok (.ldc2_w 420, 3) := by decide +kernel
theorem d_M_perform_148 : decode prog_14_method_56_code 148 = .ok (.lcmp, 1) := by decide +kernel
theorem d_M_perform_149 : decode prog_14_method_56_code 149 = .ok (.ifCond .ne 48, 3) := by decide +kernel
theorem d_M_perform_152 : decode prog_14_method_56_code 152 = .ok (.aload_n 0, 1) := by decide +kernel
theorem d_M_perform_153 : decode prog_14_method_56_code 153 = .ok (.getfield 254, 3) := by decide +kernel
theorem d_M_perform_156 : decode prog_14_method_56_code 156 = .ok (.iconst 1, 1) := by decide +kernel
theorem d_M_perform_157 : decode prog_14_method_56_code 157 = .ok (.if_icmp .le 38, 3) := by decide +kernel
theorem d_M_perform_160 : decode prog_14_method_56_code 160 = .ok (.aload_n 0, 1) := by decide +kernel
theorem d_M_perform_161 : decode prog_14_method_56_code 161 = .ok (.aload_n 0, 1) := by decide +kernel
theorem d_M_perform_162 : decode prog_14_method_56_code 162 = .ok (.getfield 254, 3) := by decide +kernel
theorem d_M_perform_165 : decode prog_14_method_56_code 165 = .ok (.invokevirtual 422, 3) := by decide +kernel
theorem d_M_perform_168 : decode prog_14_method_56_code 168 = .ok (.ifCond .eq 27, 3) := by decide +kernel
theorem d_M_perform_171 : decode prog_14_method_56_code 171 = .ok (.aload_n 0, 1) := by decide +kernel
theorem d_M_perform_172 : decode prog_14_method_56_code 172 = .ok (.lload_n 1, 1) := by decide +kernel
theorem d_M_perform_173 : decode prog_14_method_56_code 173 = .ok (.ldc2_w 395, 3) := by decide +kernel
theorem d_M_perform_176 : decode prog_14_method_56_code 176 = .ok (.lcmp, 1) := by decide +kernel
theorem d_M_perform_177 : decode prog_14_method_56_code 177 = .ok (.ifCond .ne 7, 3) := by decide +kernel
theorem d_M_perform_180 : decode prog_14_method_56_code 180 = .ok (.iconst 1, 1) := by decide +kernel
theorem d_M_perform_181 : decode prog_14_method_56_code 181 = .ok (.goto 4, 3) := by decide +kernel
theorem d_M_perform_184 : decode prog_14_method_56_code 184 = .ok (.iconst 0, 1) := by decide +kernel
theorem d_M_perform_185 : decode prog_14_method_56_code 185 = .ok (.invokevirtual 425, 3) := by decide +kernel
theorem d_M_perform_188 : decode prog_14_method_56_code 188 = .ok (.ifCond .eq 7, 3) := by decide +kernel
theorem d_M_perform_191 : decode prog_14_method_56_code 191 = .ok (.iconst 1, 1) := by decide +kernel
theorem d_M_perform_192 : decode prog_14_method_56_code 192 = .ok (.goto 4, 3) := by decide +kernel
theorem d_M_perform_195 : decode prog_14_method_56_code 195 = .ok (.iconst 0, 1) := by decide +kernel
theorem d_M_perform_196 : decode prog_14_method_56_code 196 = .ok (.ireturn, 1) := by decide +kernel
theorem d_M_perform_197 : decode prog_14_method_56_code 197 = .ok (.lload_n 1, 1) := by decide +kernel
theorem d_M_perform_198 : decode prog_14_method_56_code 198 = .ok (.ldc2_w 428, 3) := by decide +kernel
theorem d_M_perform_201 : decode prog_14_method_56_code 201 = .ok (.lcmp, 1) := by decide +kernel
theorem d_M_perform_202 : decode prog_14_method_56_code 202 = .ok (.ifCond .ne 32, 3) := by decide +kernel
theorem d_M_perform_205 : decode prog_14_method_56_code 205 = .ok (.aload_n 0, 1) := by decide +kernel
theorem d_M_perform_206 : decode prog_14_method_56_code 206 = .ok (.getfield 254, 3) := by decide +kernel
theorem d_M_perform_209 : decode prog_14_method_56_code 209 = .ok (.iconst 3, 1) := by decide +kernel
theorem d_M_perform_210 : decode prog_14_method_56_code 210 = .ok (.if_icmp .ne 22, 3) := by decide +kernel
theorem d_M_perform_213 : decode prog_14_method_56_code 213 = .ok (.aload_n 0, 1) := by decide +kernel
theorem d_M_perform_214 : decode prog_14_method_56_code 214 = .ok (.iconst 3, 1) := by decide +kernel
theorem d_M_perform_215 : decode prog_14_method_56_code 215 = .ok (.invokevirtual 422, 3) := by decide +kernel
theorem d_M_perform_218 : decode prog_14_method_56_code 218 = .ok (.ifCond .eq 14, 3) := by decide +kernel
theorem d_M_perform_221 : decode prog_14_method_56_code 221 = .ok (.aload_n 0, 1) := by decide +kernel
theorem d_M_perform_222 : decode prog_14_method_56_code 222 = .ok (.invokevirtual 430, 3) := by decide +kernel
theorem d_M_perform_225 : decode prog_14_method_56_code 225 = .ok (.ifCond .eq 7, 3) := by decide +kernel
theorem d_M_perform_228 : decode prog_14_method_56_code 228 = .ok (.iconst 1, 1) := by decide +kernel
theorem d_M_perform_229 : decode prog_14_method_56_code 229 = .ok (.goto 4, 3) := by decide +kernel
theorem d_M_perform_232 : decode prog_14_method_56_code 232 = .ok (.iconst 0, 1) := by decide +kernel
theorem d_M_perform_233 : decode prog_14_method_56_code 233 = .ok (.ireturn, 1) := by decide +kernel
theorem d_M_perform_234 : decode prog_14_method_56_code 234 = .ok (.lload_n 1, 1) := by decide +kernel
theorem d_M_perform_235 : decode prog_14_method_56_code 235 = .ok (.ldc2_w 433, 3) := by decide +kernel
theorem d_M_perform_238 : decode prog_14_method_56_code 238 = .ok (.lcmp, 1) := by decide +kernel
theorem d_M_perform_239 : decode prog_14_method_56_code 239 = .ok (.ifCond .ne 69, 3) := by decide +kernel
theorem d_M_perform_242 : decode prog_14_method_56_code 242 = .ok (.aload_n 0, 1) := by decide +kernel
theorem d_M_perform_243 : decode prog_14_method_56_code 243 = .ok (.getfield 254, 3) := by decide +kernel
theorem d_M_perform_246 : decode prog_14_method_56_code 246 = .ok (.iconst 3, 1) := by decide +kernel
theorem d_M_perform_247 : decode prog_14_method_56_code 247 = .ok (.if_icmp .le 61, 3) := by decide +kernel
theorem d_M_perform_250 : decode prog_14_method_56_code 250 = .ok (.aload_n 0, 1) := by decide +kernel
theorem d_M_perform_251 : decode prog_14_method_56_code 251 = .ok (.aload_n 0, 1) := by decide +kernel
theorem d_M_perform_252 : decode prog_14_method_56_code 252 = .ok (.getfield 254, 3) := by decide +kernel
theorem d_M_perform_255 : decode prog_14_method_56_code 255 = .ok (.iconst 2, 1) := by decide +kernel
theorem d_M_perform_256 : decode prog_14_method_56_code 256 = .ok (.isub, 1) := by decide +kernel
theorem d_M_perform_257 : decode prog_14_method_56_code 257 = .ok (.invokevirtual 320, 3) := by decide +kernel
theorem d_M_perform_260 : decode prog_14_method_56_code 260 = .ok (.ldc2_w 435, 3) := by decide +kernel
theorem d_M_perform_263 : decode prog_14_method_56_code 263 = .ok (.lcmp, 1) := by decide +kernel
theorem d_M_perform_264 : decode prog_14_method_56_code 264 = .ok (.ifCond .ne 44, 3) := by decide +kernel
theorem d_M_perform_267 : decode prog_14_method_56_code 267 = .ok (.aload_n 0, 1) := by decide +kernel
theorem d_M_perform_268 : decode prog_14_method_56_code 268 = .ok (.aload_n 0, 1) := by decide +kernel
theorem d_M_perform_269 : decode prog_14_method_56_code 269 = .ok (.getfield 254, 3) := by decide +kernel
theorem d_M_perform_272 : decode prog_14_method_56_code 272 = .ok (.iconst 2, 1) := by decide +kernel
theorem d_M_perform_273 : decode prog_14_method_56_code 273 = .ok (.isub, 1) := by decide +kernel
theorem d_M_perform_274 : decode prog_14_method_56_code 274 = .ok (.invokevirtual 422, 3) := by decide +kernel
theorem d_M_perform_277 : decode prog_14_method_56_code 277 = .ok (.ifCond .eq 31, 3) := by decide +kernel
theorem d_M_perform_280 : decode prog_14_method_56_code 280 = .ok (.aload_n 0, 1) := by decide +kernel
theorem d_M_perform_281 : decode prog_14_method_56_code 281 = .ok (.aload_n 0, 1) := by decide +kernel
theorem d_M_perform_282 : decode prog_14_method_56_code 282 = .ok (.aload_n 0, 1) := by decide +kernel
theorem d_M_perform_283 : decode prog_14_method_56_code 283 = .ok (.getfield 254, 3) := by decide +kernel
theorem d_M_perform_286 : decode prog_14_method_56_code 286 = .ok (.iconst 1, 1) := by decide +kernel
theorem d_M_perform_287 : decode prog_14_method_56_code 287 = .ok (.isub, 1) := by decide +kernel
theorem d_M_perform_288 : decode prog_14_method_56_code 288 = .ok (.invokevirtual 320, 3) := by decide +kernel
theorem d_M_perform_291 : decode prog_14_method_56_code 291 = .ok (.invokevirtual 192, 3) := by decide +kernel
theorem d_M_perform_294 : decode prog_14_method_56_code 294 = .ok (.ifCond .lt 14, 3) := by decide +kernel
theorem d_M_perform_297 : decode prog_14_method_56_code 297 = .ok (.aload_n 0, 1) := by decide +kernel
theorem d_M_perform_298 : decode prog_14_method_56_code 298 = .ok (.invokevirtual 437, 3) := by decide +kernel
theorem d_M_perform_301 : decode prog_14_method_56_code 301 = .ok (.ifCond .eq 7, 3) := by decide +kernel
theorem d_M_perform_304 : decode prog_14_method_56_code 304 = .ok (.iconst 1, 1) := by decide +kernel
theorem d_M_perform_305 : decode prog_14_method_56_code 305 = .ok (.goto 4, 3) := by decide +kernel
theorem d_M_perform_308 : decode prog_14_method_56_code 308 = .ok (.iconst 0, 1) := by decide +kernel
theorem d_M_perform_309 : decode prog_14_method_56_code 309 = .ok (.ireturn, 1) := by decide +kernel
noncomputable def f_M_perform_j111 (r0 : Option Nat) (x3 : Int32) (sx0 : Int32) (sr1 : Option Nat) (σ : rb_St) : Option ((Int32 × rb_St) ⊕ rb_Rs) :=
  (rb_fc σ sr1 13).bind fun _ => rb_cV (f_M_put (sr1) (sx0) σ) fun σ_15 => some (.inl ((x3 + 1), σ_15))
theorem t_M_perform_j111 {E : rb_EV} {d : Nat} {σ0 : rb_St} {res : rb_Rs} (hdd : 4 ≤ d)  (r0 : Option Nat) (x3 : Int32) (sx0 : Int32) (sr1 : Option Nat) (σ : rb_St) : rb_TC (f_M_perform_j111 r0 x3 sx0 sr1 σ) (Sum.elim (fun z : (Int32 × rb_St) => rb_WK E k_M_perform d σ0 res 49 [some (va_rf r0), none, none, some (.int z.1), none] [] z.2) (fun r => r = res)) (rb_WK E k_M_perform d σ0 res 111 [some (va_rf r0), none, none, some (.int x3), none] [.int sx0, va_rf sr1] σ) := by
  unfold f_M_perform_j111
  refine rt_vV (As := [.int sx0]) (st := []) (sr1) vw_M_401 (s_M_put (Nat.le_refl _) (sr1) (sx0) σ) (Nat.le_trans (by decide) hdd) rfl (by simp [rb_cat_r, rb_cat_i, rb_cat_l]) d_M_perform_111 (fun σ_15 => ?_)
  refine rb_TC.mono (rk_iinc (lv2 := [some (va_rf r0), none, none, some (.int (x3 + 1)), none]) (x3 + 1) d_M_perform_114 rfl rfl (by decide) (fun _ => rb_one_n) rfl) ?_
  refine rb_TC.mono (rk_goto 49 d_M_perform_117 (by decide)) ?_
  exact rb_back
noncomputable def f_M_perform_b65 (r0 : Option Nat) (x3 : Int32) (x4 : Int32) (σ : rb_St) : Option ((Int32 × rb_St) ⊕ ((Int32 × rb_St) ⊕ rb_Rs)) :=
  (rb_gR σ r0 13 46).bind fun r_12 => (rb_aI σ r_12 102 x3).bind fun x_13 => if x_13 ≤ x4 then (((rb_gI σ r0 13 47).bind fun x_14 => if x_14 ≤ (x3 + (1 : Int32)) then (f_M_perform_j111 (r0) (x3) ((10 : Int32)) (r0) σ) else (f_M_perform_j111 (r0) (x3) ((32 : Int32)) (r0) σ)).map Sum.inr) else ((rb_gR σ r0 13 43).bind fun r_16 => (rb_aI σ r_16 102 x4).bind fun x_17 => (rb_fc σ r0 13).bind fun _ => rb_cV (f_M_put (r0) (x_17) σ) fun σ_18 => some (.inl ((x4 + 1), σ_18)))
theorem t_M_perform_b65 {E : rb_EV} {d : Nat} {σ0 : rb_St} {res : rb_Rs} (hdd : 4 ≤ d)  (r0 : Option Nat) (x3 : Int32) (x4 : Int32) (σ : rb_St) : rb_TC (f_M_perform_b65 r0 x3 x4 σ) (Sum.elim (fun z : (Int32 × rb_St) => rb_WK E k_M_perform d σ0 res 65 [some (va_rf r0), none, none, some (.int x3), some (.int z.1)] [] z.2) (Sum.elim (fun z : (Int32 × rb_St) => rb_WK E k_M_perform d σ0 res 49 [some (va_rf r0), none, none, some (.int z.1), none] [] z.2) (fun r => r = res))) (rb_WK E k_M_perform d σ0 res 65 [some (va_rf r0), none, none, some (.int x3), some (.int x4)] [] σ) := by
  unfold f_M_perform_b65
  refine rb_TC.mono (rk_iload d_M_perform_65 rfl) ?_
  refine rb_TC.mono (rk_aload_n 0 d_M_perform_67 rfl rfl) ?_
  refine rt_gR r0 fw_M_99 d_M_perform_68 (fun r_12 => ?_)
  refine rb_TC.mono (rk_iload_n 3 d_M_perform_71 rfl rfl) ?_
  refine rt_iald r_12 d_M_perform_72 (fun x_13 => ?_)
  refine rt_icmp_ge 93 d_M_perform_73 (by decide) (fun _ => ?_) (fun _ => ?_)
  · refine rb_TC.out ?_
    refine rb_TC.mono (rk_aload_n 0 d_M_perform_93 rfl rfl) ?_
    refine rb_TC.mono (rk_iload_n 3 d_M_perform_94 rfl rfl) ?_
    refine rb_TC.mono (rk_iconst (1 : Int32) d_M_perform_95 (by decide)) ?_
    refine rb_TC.mono (rk_iadd d_M_perform_96) ?_
    refine rb_TC.mono (rk_aload_n 0 d_M_perform_97 rfl rfl) ?_
    refine rt_gI r0 fw_M_254 d_M_perform_98 (fun x_14 => ?_)
    refine rt_icmp_ge 109 d_M_perform_101 (by decide) (fun _ => ?_) (fun _ => ?_)
    · refine rb_TC.mono (rk_bipush (10 : Int32) d_M_perform_109 (by decide)) ?_
      refine rb_TC.mono (rk_less (lv2 := [some (va_rf r0), none, none, some (.int x3), none]) (rb_le_ok (rb_leS (rb_leN (rb_leN (rb_leS (rb_leN rb_le0))))))) ?_
      exact t_M_perform_j111 hdd  (r0) (x3) ((10 : Int32)) (r0) σ
    · refine rb_TC.mono (rk_bipush (32 : Int32) d_M_perform_104 (by decide)) ?_
      refine rb_TC.mono (rk_goto 111 d_M_perform_106 (by decide)) ?_
      refine rb_TC.mono (rk_less (lv2 := [some (va_rf r0), none, none, some (.int x3), none]) (rb_le_ok (rb_leS (rb_leN (rb_leN (rb_leS (rb_leN rb_le0))))))) ?_
      exact t_M_perform_j111 hdd  (r0) (x3) ((32 : Int32)) (r0) σ
  · refine rb_TC.mono (rk_aload_n 0 d_M_perform_76 rfl rfl) ?_
    refine rb_TC.mono (rk_aload_n 0 d_M_perform_77 rfl rfl) ?_
    refine rt_gR r0 fw_M_93 d_M_perform_78 (fun r_16 => ?_)
    refine rb_TC.mono (rk_iload d_M_perform_81 rfl) ?_
    refine rt_iald r_16 d_M_perform_83 (fun x_17 => ?_)
    refine rt_vV (As := [.int x_17]) (st := []) (r0) vw_M_401 (s_M_put (Nat.le_refl _) (r0) (x_17) σ) (Nat.le_trans (by decide) hdd) rfl (by simp [rb_cat_r, rb_cat_i, rb_cat_l]) d_M_perform_84 (fun σ_18 => ?_)
    refine rb_TC.mono (rk_iinc (lv2 := [some (va_rf r0), none, none, some (.int x3), some (.int (x4 + 1))]) (x4 + 1) d_M_perform_87 rfl rfl (by decide) (fun _ => rb_one_i) rfl) ?_
    refine rb_TC.mono (rk_goto 65 d_M_perform_90 (by decide)) ?_
    exact rb_back
noncomputable def f_M_perform_b49 (r0 : Option Nat) (x3 : Int32) (σ : rb_St) : Option ((Int32 × rb_St) ⊕ rb_Rs) :=
  (rb_gI σ r0 13 47).bind fun x_7 => if x_7 ≤ x3 then (((rb_gI σ r0 13 47).bind fun x_8 => if x_8 = (1 : Int32) then ((rb_fc σ r0 13).bind fun _ => rb_cV (f_M_put (r0) ((10 : Int32)) σ) fun σ_9 => some (some (.int (1 : Int32)), σ_9)) else (some (some (.int (1 : Int32)), σ))).map Sum.inr) else ((rb_gR σ r0 13 45).bind fun r_10 => (rb_aI σ r_10 102 x3).bind fun x_11 => rb_it (fun z : (Int32 × rb_St) => f_M_perform_b65 (r0) (x3) (z.1) z.2) (x_11, σ))
theorem t_M_perform_b49 {E : rb_EV} {d : Nat} {σ0 : rb_St} {res : rb_Rs} (hdd : 4 ≤ d)  (r0 : Option Nat) (x3 : Int32) (σ : rb_St) : rb_TC (f_M_perform_b49 r0 x3 σ) (Sum.elim (fun z : (Int32 × rb_St) => rb_WK E k_M_perform d σ0 res 49 [some (va_rf r0), none, none, some (.int z.1), none] [] z.2) (fun r => r = res)) (rb_WK E k_M_perform d σ0 res 49 [some (va_rf r0), none, none, some (.int x3), none] [] σ) := by
  unfold f_M_perform_b49
  refine rb_TC.mono (rk_iload_n 3 d_M_perform_49 rfl rfl) ?_
  refine rb_TC.mono (rk_aload_n 0 d_M_perform_50 rfl rfl) ?_
  refine rt_gI r0 fw_M_254 d_M_perform_51 (fun x_7 => ?_)
  refine rt_icmp_ge 120 d_M_perform_54 (by decide) (fun _ => ?_) (fun _ => ?_)
  · refine rb_TC.out ?_
    refine rb_TC.mono (rk_aload_n 0 d_M_perform_120 rfl rfl) ?_
    refine rt_gI r0 fw_M_254 d_M_perform_121 (fun x_8 => ?_)
    refine rb_TC.mono (rk_iconst (1 : Int32) d_M_perform_124 (by decide)) ?_
    refine rt_icmp_ne 134 d_M_perform_125 (by decide) (fun _ => ?_) (fun _ => ?_)
    · refine rb_TC.mono (rk_aload_n 0 d_M_perform_128 rfl rfl) ?_
      refine rb_TC.mono (rk_bipush (10 : Int32) d_M_perform_129 (by decide)) ?_
      refine rt_vV (As := [.int (10 : Int32)]) (st := []) (r0) vw_M_401 (s_M_put (Nat.le_refl _) (r0) ((10 : Int32)) σ) (Nat.le_trans (by decide) hdd) rfl (by simp [rb_cat_r, rb_cat_i, rb_cat_l]) d_M_perform_131 (fun σ_9 => ?_)
      refine rb_TC.mono (rk_iconst (1 : Int32) d_M_perform_134 (by decide)) ?_
      exact rt_iret (ty := .boolean) rfl (by decide) (fun h => h) d_M_perform_135
    · refine rb_TC.mono (rk_iconst (1 : Int32) d_M_perform_134 (by decide)) ?_
      exact rt_iret (ty := .boolean) rfl (by decide) (fun h => h) d_M_perform_135
  · refine rb_TC.mono (rk_aload_n 0 d_M_perform_57 rfl rfl) ?_
    refine rt_gR r0 fw_M_96 d_M_perform_58 (fun r_10 => ?_)
    refine rb_TC.mono (rk_iload_n 3 d_M_perform_61 rfl rfl) ?_
    refine rt_iald r_10 d_M_perform_62 (fun x_11 => ?_)
    refine rb_TC.mono (rk_istore (lv2 := [some (va_rf r0), none, none, some (.int x3), some (.int x_11)]) d_M_perform_63 (by decide) (fun _ => rb_one_i) rfl) ?_
    exact rb_TC.loop2 (A := (fun z : (Int32 × rb_St) => rb_WK E k_M_perform d σ0 res 65 [some (va_rf r0), none, none, some (.int x3), some (.int z.1)] [] z.2)) (x_11, σ) (fun z => t_M_perform_b65 hdd  (r0) (x3) (z.1) z.2)
noncomputable def f_M_perform_j185 (sx0 : Int32) (sr1 : Option Nat) (σ : rb_St) : Option rb_Rs :=
  (rb_fc σ sr1 13).bind fun _ => rb_cI (f_M_each (sr1) (sx0) σ) fun x_23 σ_24 => if x_23 = 0 then (some (some (.int (0 : Int32)), σ_24)) else (some (some (.int (1 : Int32)), σ_24))
theorem t_M_perform_j185 {E : rb_EV} {d : Nat} {σ0 : rb_St} {res : rb_Rs} (hdd : 4 ≤ d)  (sx0 : Int32) (sr1 : Option Nat) (σ : rb_St) : rb_TC (f_M_perform_j185 sx0 sr1 σ) (fun r => r = res) (rb_WK E k_M_perform d σ0 res 185 [none, none, none, none, none] [.int sx0, va_rf sr1] σ) := by
  unfold f_M_perform_j185
  refine rt_vI (As := [.int sx0]) (st := []) (sr1) vw_M_425 (s_M_each (Nat.le_refl _) (sr1) (sx0) σ) (Nat.le_trans (by decide) hdd) rfl (by simp [rb_cat_r, rb_cat_i, rb_cat_l]) d_M_perform_185 (fun x_23 σ_24 => ?_)
  refine rt_if_eq 195 d_M_perform_188 (by decide) (fun _ => ?_) (fun _ => ?_)
  · refine rb_TC.mono (rk_iconst (0 : Int32) d_M_perform_195 (by decide)) ?_
    exact rt_iret (ty := .boolean) rfl (by decide) (fun h => h) d_M_perform_196
  · refine rb_TC.mono (rk_iconst (1 : Int32) d_M_perform_191 (by decide)) ?_
    refine rb_TC.mono (rk_goto 196 d_M_perform_192 (by decide)) ?_
    exact rt_iret (ty := .boolean) rfl (by decide) (fun h => h) d_M_perform_196
noncomputable def f_M_perform_j152 (r0 : Option Nat) (y1 : Int64) (σ : rb_St) : Option rb_Rs :=
  (rb_gI σ r0 13 47).bind fun x_19 => if x_19 ≤ (1 : Int32) then (some (some (.int (0 : Int32)), σ)) else ((rb_gI σ r0 13 47).bind fun x_20 => (rb_fc σ r0 13).bind fun _ => rb_cI (f_M_allNames (r0) (x_20) σ) fun x_21 σ_22 => if x_21 = 0 then (some (some (.int (0 : Int32)), σ_22)) else (if (lg_cmp y1 (31373226472 : Int64)) = 0 then (f_M_perform_j185 ((1 : Int32)) (r0) σ_22) else (f_M_perform_j185 ((0 : Int32)) (r0) σ_22)))
theorem t_M_perform_j152 {E : rb_EV} {d : Nat} {σ0 : rb_St} {res : rb_Rs} (hdd : 4 ≤ d)  (r0 : Option Nat) (y1 : Int64) (σ : rb_St) : rb_TC (f_M_perform_j152 r0 y1 σ) (fun r => r = res) (rb_WK E k_M_perform d σ0 res 152 [some (va_rf r0), some (.long y1), none, none, none] [] σ) := by
  unfold f_M_perform_j152
  refine rb_TC.mono (rk_aload_n 0 d_M_perform_152 rfl rfl) ?_
  refine rt_gI r0 fw_M_254 d_M_perform_153 (fun x_19 => ?_)
  refine rb_TC.mono (rk_iconst (1 : Int32) d_M_perform_156 (by decide)) ?_
  refine rt_icmp_le 195 d_M_perform_157 (by decide) (fun _ => ?_) (fun _ => ?_)
  · refine rb_TC.mono (rk_iconst (0 : Int32) d_M_perform_195 (by decide)) ?_
    exact rt_iret (ty := .boolean) rfl (by decide) (fun h => h) d_M_perform_196
  · refine rb_TC.mono (rk_aload_n 0 d_M_perform_160 rfl rfl) ?_
    refine rb_TC.mono (rk_aload_n 0 d_M_perform_161 rfl rfl) ?_
    refine rt_gI r0 fw_M_254 d_M_perform_162 (fun x_20 => ?_)
    refine rt_vI (As := [.int x_20]) (st := []) (r0) vw_M_422 (s_M_allNames (Nat.le_refl _) (r0) (x_20) σ) (Nat.le_trans (by decide) hdd) rfl (by simp [rb_cat_r, rb_cat_i, rb_cat_l]) d_M_perform_165 (fun x_21 σ_22 => ?_)
    refine rt_if_eq 195 d_M_perform_168 (by decide) (fun _ => ?_) (fun _ => ?_)
    · refine rb_TC.mono (rk_iconst (0 : Int32) d_M_perform_195 (by decide)) ?_
      exact rt_iret (ty := .boolean) rfl (by decide) (fun h => h) d_M_perform_196
    · refine rb_TC.mono (rk_aload_n 0 d_M_perform_171 rfl rfl) ?_
      refine rb_TC.mono (rk_lload_n 1 d_M_perform_172 rfl rfl) ?_
      refine rb_TC.mono (rk_ldc2 d_M_perform_173 w_long_M_395) ?_
      refine rb_TC.mono (rk_lcmp d_M_perform_176) ?_
      refine rt_if_ne 184 d_M_perform_177 (by decide) (fun _ => ?_) (fun _ => ?_)
      · refine rb_TC.mono (rk_iconst (1 : Int32) d_M_perform_180 (by decide)) ?_
        refine rb_TC.mono (rk_goto 185 d_M_perform_181 (by decide)) ?_
        refine rb_TC.mono (rk_less (lv2 := [none, none, none, none, none]) (rb_le_ok (rb_leN (rb_leN (rb_leN (rb_leN (rb_leN rb_le0))))))) ?_
        exact t_M_perform_j185 hdd  ((1 : Int32)) (r0) σ_22
      · refine rb_TC.mono (rk_iconst (0 : Int32) d_M_perform_184 (by decide)) ?_
        refine rb_TC.mono (rk_less (lv2 := [none, none, none, none, none]) (rb_le_ok (rb_leN (rb_leN (rb_leN (rb_leN (rb_leN rb_le0))))))) ?_
        exact t_M_perform_j185 hdd  ((0 : Int32)) (r0) σ_22
noncomputable def f_M_perform (r0 : Option Nat) (σ : rb_St) : Option rb_Rs :=
  (rb_pI σ r0 13 47 (0 : Int32)).bind fun σ_1 => (rb_gI σ_1 r0 13 44).bind fun x_2 => (rb_fc σ_1 r0 13).bind fun _ => rb_cV (f_M_split (r0) ((0 : Int32)) (x_2) σ_1) fun σ_3 => (rb_gI σ_3 r0 13 47).bind fun x_4 => if x_4 = 0 then (some (some (.int (1 : Int32)), σ_3)) else ((rb_fc σ_3 r0 13).bind fun _ => rb_cL (f_M_word (r0) ((0 : Int32)) σ_3) fun y_5 σ_6 => if (lg_cmp y_5 (245152485 : Int64)) = 0 then (some (some (.int (1 : Int32)), σ_6)) else (if (lg_cmp y_5 (213447791 : Int64)) = 0 then (rb_it (fun z : (Int32 × rb_St) => f_M_perform_b49 (r0) (z.1) z.2) ((1 : Int32), σ_6)) else (if (lg_cmp y_5 (31373226472 : Int64)) = 0 then (f_M_perform_j152 (r0) (y_5) σ_6) else (if (lg_cmp y_5 (14701 : Int64)) = 0 then (f_M_perform_j152 (r0) (y_5) σ_6) else (if (lg_cmp y_5 (12784 : Int64)) = 0 then ((rb_gI σ_6 r0 13 47).bind fun x_25 => if x_25 = (3 : Int32) then ((rb_fc σ_6 r0 13).bind fun _ => rb_cI (f_M_allNames (r0) ((3 : Int32)) σ_6) fun x_26 σ_27 => if x_26 = 0 then (some (some (.int (0 : Int32)), σ_27)) else ((rb_fc σ_27 r0 13).bind fun _ => rb_cI (f_M_copy (r0)  σ_27) fun x_28 σ_29 => if x_28 = 0 then (some (some (.int (0 : Int32)), σ_29)) else (some (some (.int (1 : Int32)), σ_29)))) else (some (some (.int (0 : Int32)), σ_6))) else (if (lg_cmp y_5 (1634548 : Int64)) = 0 then ((rb_gI σ_6 r0 13 47).bind fun x_30 => if x_30 ≤ (3 : Int32) then (some (some (.int (0 : Int32)), σ_6)) else ((rb_gI σ_6 r0 13 47).bind fun x_31 => (rb_fc σ_6 r0 13).bind fun _ => rb_cL (f_M_word (r0) ((x_31 - (2 : Int32))) σ_6) fun y_32 σ_33 => if (lg_cmp y_32 (62 : Int64)) = 0 then ((rb_gI σ_33 r0 13 47).bind fun x_34 => (rb_fc σ_33 r0 13).bind fun _ => rb_cI (f_M_allNames (r0) ((x_34 - (2 : Int32))) σ_33) fun x_35 σ_36 => if x_35 = 0 then (some (some (.int (0 : Int32)), σ_36)) else ((rb_gI σ_36 r0 13 47).bind fun x_37 => (rb_fc σ_36 r0 13).bind fun _ => rb_cL (f_M_word (r0) ((x_37 - (1 : Int32))) σ_36) fun y_38 σ_39 => (rb_fc σ_39 r0 13).bind fun _ => rb_cI (f_M_meet (r0) (y_38) σ_39) fun x_40 σ_41 => if x_40 < 0 then (some (some (.int (0 : Int32)), σ_41)) else ((rb_fc σ_41 r0 13).bind fun _ => rb_cI (f_M_join (r0)  σ_41) fun x_42 σ_43 => if x_42 = 0 then (some (some (.int (0 : Int32)), σ_43)) else (some (some (.int (1 : Int32)), σ_43))))) else (some (some (.int (0 : Int32)), σ_33)))) else (some (some (.int (0 : Int32)), σ_6))))))))
theorem s_M_perform {E : rb_EV} {d : Nat} (hdd : 4 ≤ d) (r0 : Option Nat) (σ : rb_St) : rb_Does E k_M_perform d [va_rf r0] σ (f_M_perform r0 σ) := by
  refine rb_start (lv := [some (va_rf r0), none, none, none, none]) (by decide) (by simp [lg_sl, rb_as, lv_args, rb_cat_r, rb_cat_i, rb_cat_l, rb_nL, k_M_perform]) (fun res => ?_)
  unfold f_M_perform
  refine rb_TC.mono (rk_aload_n 0 d_M_perform_0 rfl rfl) ?_
  refine rb_TC.mono (rk_iconst (0 : Int32) d_M_perform_1 (by decide)) ?_
  refine rt_pI r0 fp_M_perform_254 d_M_perform_2 (fun σ_1 => ?_)
  refine rb_TC.mono (rk_aload_n 0 d_M_perform_5 rfl rfl) ?_
  refine rb_TC.mono (rk_iconst (0 : Int32) d_M_perform_6 (by decide)) ?_
  refine rb_TC.mono (rk_aload_n 0 d_M_perform_7 rfl rfl) ?_
  refine rt_gI r0 fw_M_203 d_M_perform_8 (fun x_2 => ?_)
  refine rt_vV (As := [.int (0 : Int32), .int x_2]) (st := []) (r0) vw_M_317 (s_M_split (Nat.le_refl _) (r0) ((0 : Int32)) (x_2) σ_1) (Nat.le_trans (by decide) hdd) rfl (by simp [rb_cat_r, rb_cat_i, rb_cat_l]) d_M_perform_11 (fun σ_3 => ?_)
  refine rb_TC.mono (rk_aload_n 0 d_M_perform_14 rfl rfl) ?_
  refine rt_gI r0 fw_M_254 d_M_perform_15 (fun x_4 => ?_)
  refine rt_if_ne 23 d_M_perform_18 (by decide) (fun _ => ?_) (fun _ => ?_)
  · refine rb_TC.mono (rk_iconst (1 : Int32) d_M_perform_21 (by decide)) ?_
    exact rt_iret (ty := .boolean) rfl (by decide) (fun h => h) d_M_perform_22
  · refine rb_TC.mono (rk_aload_n 0 d_M_perform_23 rfl rfl) ?_
    refine rb_TC.mono (rk_iconst (0 : Int32) d_M_perform_24 (by decide)) ?_
    refine rt_vL (As := [.int (0 : Int32)]) (st := []) (r0) vw_M_320 (s_M_word (Nat.le_refl _) (r0) ((0 : Int32)) σ_3) (Nat.le_trans (by decide) hdd) rfl (by simp [rb_cat_r, rb_cat_i, rb_cat_l]) d_M_perform_25 (fun y_5 σ_6 => ?_)
    refine rb_TC.mono (rk_lstore_n (lv2 := [some (va_rf r0), some (.long y_5), none, none, none]) 1 d_M_perform_28 rfl (by decide) (fun _ => rb_one_r) rfl) ?_
    refine rb_TC.mono (rk_lload_n 1 d_M_perform_29 rfl rfl) ?_
    refine rb_TC.mono (rk_ldc2 d_M_perform_30 w_long_M_416) ?_
    refine rb_TC.mono (rk_lcmp d_M_perform_33) ?_
    refine rt_if_ne 39 d_M_perform_34 (by decide) (fun _ => ?_) (fun _ => ?_)
    · refine rb_TC.mono (rk_iconst (1 : Int32) d_M_perform_37 (by decide)) ?_
      exact rt_iret (ty := .boolean) rfl (by decide) (fun h => h) d_M_perform_38
    · refine rb_TC.mono (rk_lload_n 1 d_M_perform_39 rfl rfl) ?_
      refine rb_TC.mono (rk_ldc2 d_M_perform_40 w_long_M_418) ?_
      refine rb_TC.mono (rk_lcmp d_M_perform_43) ?_
      refine rt_if_ne 136 d_M_perform_44 (by decide) (fun _ => ?_) (fun _ => ?_)
      · refine rb_TC.mono (rk_iconst (1 : Int32) d_M_perform_47 (by decide)) ?_
        refine rb_TC.mono (rk_istore_n (lv2 := [some (va_rf r0), some (.long y_5), none, some (.int (1 : Int32)), none]) 3 d_M_perform_48 rfl (by decide) (fun _ => rb_one_n) rfl) ?_
        refine rb_TC.mono (rk_less (lv2 := [some (va_rf r0), none, none, some (.int (1 : Int32)), none]) (rb_le_ok (rb_leS (rb_leN (rb_leN (rb_leS (rb_leN rb_le0))))))) ?_
        exact rb_TC.loop2 (A := (fun z : (Int32 × rb_St) => rb_WK E k_M_perform d σ res 49 [some (va_rf r0), none, none, some (.int z.1), none] [] z.2)) ((1 : Int32), σ_6) (fun z => t_M_perform_b49 hdd  (r0) (z.1) z.2)
      · refine rb_TC.mono (rk_lload_n 1 d_M_perform_136 rfl rfl) ?_
        refine rb_TC.mono (rk_ldc2 d_M_perform_137 w_long_M_395) ?_
        refine rb_TC.mono (rk_lcmp d_M_perform_140) ?_
        refine rt_if_eq 152 d_M_perform_141 (by decide) (fun _ => ?_) (fun _ => ?_)
        · exact t_M_perform_j152 hdd  (r0) (y_5) σ_6
        · refine rb_TC.mono (rk_lload_n 1 d_M_perform_144 rfl rfl) ?_
          refine rb_TC.mono (rk_ldc2 d_M_perform_145 w_long_M_420) ?_
          refine rb_TC.mono (rk_lcmp d_M_perform_148) ?_
          refine rt_if_ne 197 d_M_perform_149 (by decide) (fun _ => ?_) (fun _ => ?_)
          · exact t_M_perform_j152 hdd  (r0) (y_5) σ_6
          · refine rb_TC.mono (rk_lload_n 1 d_M_perform_197 rfl rfl) ?_
            refine rb_TC.mono (rk_ldc2 d_M_perform_198 w_long_M_428) ?_
            refine rb_TC.mono (rk_lcmp d_M_perform_201) ?_
            refine rt_if_ne 234 d_M_perform_202 (by decide) (fun _ => ?_) (fun _ => ?_)
            · refine rb_TC.mono (rk_aload_n 0 d_M_perform_205 rfl rfl) ?_
              refine rt_gI r0 fw_M_254 d_M_perform_206 (fun x_25 => ?_)
              refine rb_TC.mono (rk_iconst (3 : Int32) d_M_perform_209 (by decide)) ?_
              refine rt_icmp_ne 232 d_M_perform_210 (by decide) (fun _ => ?_) (fun _ => ?_)
              · refine rb_TC.mono (rk_aload_n 0 d_M_perform_213 rfl rfl) ?_
                refine rb_TC.mono (rk_iconst (3 : Int32) d_M_perform_214 (by decide)) ?_
                refine rt_vI (As := [.int (3 : Int32)]) (st := []) (r0) vw_M_422 (s_M_allNames (Nat.le_refl _) (r0) ((3 : Int32)) σ_6) (Nat.le_trans (by decide) hdd) rfl (by simp [rb_cat_r, rb_cat_i, rb_cat_l]) d_M_perform_215 (fun x_26 σ_27 => ?_)
                refine rt_if_eq 232 d_M_perform_218 (by decide) (fun _ => ?_) (fun _ => ?_)
                · refine rb_TC.mono (rk_iconst (0 : Int32) d_M_perform_232 (by decide)) ?_
                  exact rt_iret (ty := .boolean) rfl (by decide) (fun h => h) d_M_perform_233
                · refine rb_TC.mono (rk_aload_n 0 d_M_perform_221 rfl rfl) ?_
                  refine rt_vI (As := []) (st := []) (r0) vw_M_430 (s_M_copy (Nat.le_refl _) (r0)  σ_27) (Nat.le_trans (by decide) hdd) rfl (by simp [rb_cat_r, rb_cat_i, rb_cat_l]) d_M_perform_222 (fun x_28 σ_29 => ?_)
                  refine rt_if_eq 232 d_M_perform_225 (by decide) (fun _ => ?_) (fun _ => ?_)
                  · refine rb_TC.mono (rk_iconst (0 : Int32) d_M_perform_232 (by decide)) ?_
                    exact rt_iret (ty := .boolean) rfl (by decide) (fun h => h) d_M_perform_233
                  · refine rb_TC.mono (rk_iconst (1 : Int32) d_M_perform_228 (by decide)) ?_
                    refine rb_TC.mono (rk_goto 233 d_M_perform_229 (by decide)) ?_
                    exact rt_iret (ty := .boolean) rfl (by decide) (fun h => h) d_M_perform_233
              · refine rb_TC.mono (rk_iconst (0 : Int32) d_M_perform_232 (by decide)) ?_
                exact rt_iret (ty := .boolean) rfl (by decide) (fun h => h) d_M_perform_233
            · refine rb_TC.mono (rk_lload_n 1 d_M_perform_234 rfl rfl) ?_
              refine rb_TC.mono (rk_ldc2 d_M_perform_235 w_long_M_433) ?_
              refine rb_TC.mono (rk_lcmp d_M_perform_238) ?_
              refine rt_if_ne 308 d_M_perform_239 (by decide) (fun _ => ?_) (fun _ => ?_)
              · refine rb_TC.mono (rk_aload_n 0 d_M_perform_242 rfl rfl) ?_
                refine rt_gI r0 fw_M_254 d_M_perform_243 (fun x_30 => ?_)
                refine rb_TC.mono (rk_iconst (3 : Int32) d_M_perform_246 (by decide)) ?_
                refine rt_icmp_le 308 d_M_perform_247 (by decide) (fun _ => ?_) (fun _ => ?_)
                · refine rb_TC.mono (rk_iconst (0 : Int32) d_M_perform_308 (by decide)) ?_
                  exact rt_iret (ty := .boolean) rfl (by decide) (fun h => h) d_M_perform_309
                · refine rb_TC.mono (rk_aload_n 0 d_M_perform_250 rfl rfl) ?_
                  refine rb_TC.mono (rk_aload_n 0 d_M_perform_251 rfl rfl) ?_
                  refine rt_gI r0 fw_M_254 d_M_perform_252 (fun x_31 => ?_)
                  refine rb_TC.mono (rk_iconst (2 : Int32) d_M_perform_255 (by decide)) ?_
                  refine rb_TC.mono (rk_isub d_M_perform_256) ?_
                  refine rt_vL (As := [.int (x_31 - (2 : Int32))]) (st := []) (r0) vw_M_320 (s_M_word (Nat.le_refl _) (r0) ((x_31 - (2 : Int32))) σ_6) (Nat.le_trans (by decide) hdd) rfl (by simp [rb_cat_r, rb_cat_i, rb_cat_l]) d_M_perform_257 (fun y_32 σ_33 => ?_)
                  refine rb_TC.mono (rk_ldc2 d_M_perform_260 w_long_M_435) ?_
                  refine rb_TC.mono (rk_lcmp d_M_perform_263) ?_
                  refine rt_if_ne 308 d_M_perform_264 (by decide) (fun _ => ?_) (fun _ => ?_)
                  · refine rb_TC.mono (rk_aload_n 0 d_M_perform_267 rfl rfl) ?_
                    refine rb_TC.mono (rk_aload_n 0 d_M_perform_268 rfl rfl) ?_
                    refine rt_gI r0 fw_M_254 d_M_perform_269 (fun x_34 => ?_)
                    refine rb_TC.mono (rk_iconst (2 : Int32) d_M_perform_272 (by decide)) ?_
                    refine rb_TC.mono (rk_isub d_M_perform_273) ?_
                    refine rt_vI (As := [.int (x_34 - (2 : Int32))]) (st := []) (r0) vw_M_422 (s_M_allNames (Nat.le_refl _) (r0) ((x_34 - (2 : Int32))) σ_33) (Nat.le_trans (by decide) hdd) rfl (by simp [rb_cat_r, rb_cat_i, rb_cat_l]) d_M_perform_274 (fun x_35 σ_36 => ?_)
                    refine rt_if_eq 308 d_M_perform_277 (by decide) (fun _ => ?_) (fun _ => ?_)
                    · refine rb_TC.mono (rk_iconst (0 : Int32) d_M_perform_308 (by decide)) ?_
                      exact rt_iret (ty := .boolean) rfl (by decide) (fun h => h) d_M_perform_309
                    · refine rb_TC.mono (rk_aload_n 0 d_M_perform_280 rfl rfl) ?_
                      refine rb_TC.mono (rk_aload_n 0 d_M_perform_281 rfl rfl) ?_
                      refine rb_TC.mono (rk_aload_n 0 d_M_perform_282 rfl rfl) ?_
                      refine rt_gI r0 fw_M_254 d_M_perform_283 (fun x_37 => ?_)
                      refine rb_TC.mono (rk_iconst (1 : Int32) d_M_perform_286 (by decide)) ?_
                      refine rb_TC.mono (rk_isub d_M_perform_287) ?_
                      refine rt_vL (As := [.int (x_37 - (1 : Int32))]) (st := [va_rf r0]) (r0) vw_M_320 (s_M_word (Nat.le_refl _) (r0) ((x_37 - (1 : Int32))) σ_36) (Nat.le_trans (by decide) hdd) rfl (by simp [rb_cat_r, rb_cat_i, rb_cat_l]) d_M_perform_288 (fun y_38 σ_39 => ?_)
                      refine rt_vI (As := [.long y_38]) (st := []) (r0) vw_M_192 (s_M_meet (Nat.le_refl _) (r0) (y_38) σ_39) (Nat.le_trans (by decide) hdd) rfl (by simp [rb_cat_r, rb_cat_i, rb_cat_l]) d_M_perform_291 (fun x_40 σ_41 => ?_)
                      refine rt_if_lt 308 d_M_perform_294 (by decide) (fun _ => ?_) (fun _ => ?_)
                      · refine rb_TC.mono (rk_iconst (0 : Int32) d_M_perform_308 (by decide)) ?_
                        exact rt_iret (ty := .boolean) rfl (by decide) (fun h => h) d_M_perform_309
                      · refine rb_TC.mono (rk_aload_n 0 d_M_perform_297 rfl rfl) ?_
                        refine rt_vI (As := []) (st := []) (r0) vw_M_437 (s_M_join (Nat.le_refl _) (r0)  σ_41) (Nat.le_trans (by decide) hdd) rfl (by simp [rb_cat_r, rb_cat_i, rb_cat_l]) d_M_perform_298 (fun x_42 σ_43 => ?_)
                        refine rt_if_eq 308 d_M_perform_301 (by decide) (fun _ => ?_) (fun _ => ?_)
                        · refine rb_TC.mono (rk_iconst (0 : Int32) d_M_perform_308 (by decide)) ?_
                          exact rt_iret (ty := .boolean) rfl (by decide) (fun h => h) d_M_perform_309
                        · refine rb_TC.mono (rk_iconst (1 : Int32) d_M_perform_304 (by decide)) ?_
                          refine rb_TC.mono (rk_goto 309 d_M_perform_305 (by decide)) ?_
                          exact rt_iret (ty := .boolean) rfl (by decide) (fun h => h) d_M_perform_309
                  · refine rb_TC.mono (rk_iconst (0 : Int32) d_M_perform_308 (by decide)) ?_
                    exact rt_iret (ty := .boolean) rfl (by decide) (fun h => h) d_M_perform_309
              · refine rb_TC.mono (rk_iconst (0 : Int32) d_M_perform_308 (by decide)) ?_
                exact rt_iret (ty := .boolean) rfl (by decide) (fun h => h) d_M_perform_309
-- ===== RuleBuilderModel.carry(II)Z
def k_M_carry : rb_MK := (⟨"RuleBuilderModel", "carry", "(II)Z"⟩, prog_14_method_53_code, 11, some (.boolean))
theorem mw_M_carry : rb_Mw k_M_carry 2 := ⟨rb_inG 1663 (by decide +kernel) rfl, rb_inG 94 (by decide +kernel) rfl, ⟨by decide, by decide, by decide +kernel⟩, by decide⟩
theorem fp_M_carry_407 : rb_Fp k_M_carry 407 13 70 .int := ⟨fw_M_407, rfl, fun q h => by cases h; exact Or.inl rfl⟩
theorem vw_M_379 : rb_Vw "RuleBuilderModel" 379 k_M_option 13 1 := ⟨mw_M_option, rb_inG 1635 (by decide +kernel) rfl, rb_inG 1637 (by decide +kernel) rfl, rb_inG 72 (by decide +kernel) rfl, by decide, by decide, _, rfl, rfl⟩
theorem vw_M_392 : rb_Vw "RuleBuilderModel" 392 k_M_isSilent 13 1 := ⟨mw_M_isSilent, rb_inG 1647 (by decide +kernel) rfl, rb_inG 1649 (by decide +kernel) rfl, rb_inG 75 (by decide +kernel) rfl, by decide, by decide, _, rfl, rfl⟩
theorem vw_M_410 : rb_Vw "RuleBuilderModel" 410 k_M_perform 13 0 := ⟨mw_M_perform, rb_inG 1664 (by decide +kernel) rfl, rb_inG 1666 (by decide +kernel) rfl, rb_inG 79 (by decide +kernel) rfl, by decide, by decide, _, rfl, rfl⟩
theorem d_M_carry_0 : decode prog_14_method_53_code 0 = .ok (.aload_n 0, 1) := by decide +kernel
theorem d_M_carry_1 : decode prog_14_method_53_code 1 = .ok (.getfield 75, 3) := by decide +kernel
theorem d_M_carry_4 : decode prog_14_method_53_code 4 = .ok (.iload_n 2, 1) := by decide +kernel
theorem d_M_carry_5 : decode prog_14_method_53_code 5 = .ok (.iaload, 1) := by decide +kernel
theorem d_M_carry_6 : decode prog_14_method_53_code 6 = .ok (.istore_n 3, 1) := by decide +kernel
theorem d_M_carry_7 : decode prog_14_method_53_code 7 = .ok (.iconst 0, 1) := by decide +kernel
theorem d_M_carry_8 : decode prog_14_method_53_code 8 = .ok (.istore 4, 2) := by decide +kernel
theorem d_M_carry_10 : decode prog_14_method_53_code 10 = .ok (.iconst 0, 1) := by decide +kernel
theorem d_M_carry_11 : decode prog_14_method_53_code 11 = .ok (.istore 5, 2) := by decide +kernel
theorem d_M_carry_13 : decode prog_14_method_53_code 13 = .ok (.iconst 0, 1) := by decide +kernel
theorem d_M_carry_14 : decode prog_14_method_53_code 14 = .ok (.istore 6, 2) := by decide +kernel
theorem d_M_carry_16 : decode prog_14_method_53_code 16 = .ok (.iconst 1, 1) := by decide +kernel
theorem d_M_carry_17 : decode prog_14_method_53_code 17 = .ok (.istore 7, 2) := by decide +kernel
theorem d_M_carry_19 : decode prog_14_method_53_code 19 = .ok (.iload_n 3, 1) := by decide +kernel
theorem d_M_carry_20 : decode prog_14_method_53_code 20 = .ok (.aload_n 0, 1) := by decide +kernel
theorem d_M_carry_21 : decode prog_14_method_53_code 21 = .ok (.getfield 78, 3) := by decide +kernel
theorem d_M_carry_24 : decode prog_14_method_53_code 24 = .ok (.iload_n 2, 1) := by decide +kernel
theorem d_M_carry_25 : decode prog_14_method_53_code 25 = .ok (.iaload, 1) := by decide +kernel
theorem d_M_carry_26 : decode prog_14_method_53_code 26 = .ok (.if_icmp .ge 117, 3) := by decide +kernel
theorem d_M_carry_29 : decode prog_14_method_53_code 29 = .ok (.iload 7, 2) := by decide +kernel
theorem d_M_carry_31 : decode prog_14_method_53_code 31 = .ok (.ifCond .eq 112, 3) := by decide +kernel
theorem d_M_carry_34 : decode prog_14_method_53_code 34 = .ok (.aload_n 0, 1) := by decide +kernel
theorem d_M_carry_35 : decode prog_14_method_53_code 35 = .ok (.getfield 45, 3) := by decide +kernel
theorem d_M_carry_38 : decode prog_14_method_53_code 38 = .ok (.iload_n 3, 1) := by decide +kernel
theorem d_M_carry_39 : decode prog_14_method_53_code 39 = .ok (.iaload, 1) := by decide +kernel
theorem d_M_carry_40 : decode prog_14_method_53_code 40 = .ok (.istore 8, 2) := by decide +kernel
theorem d_M_carry_42 : decode prog_14_method_53_code 42 = .ok (.iload 8, 2) := by decide +kernel
theorem d_M_carry_44 : decode prog_14_method_53_code 44 = .ok (.bipush 45, 2) := by decide +kernel
theorem d_M_carry_46 : decode prog_14_method_53_code 46 = .ok (.if_icmp .eq 17, 3) := by decide +kernel
theorem d_M_carry_49 : decode prog_14_method_53_code 49 = .ok (.iload 8, 2) := by decide +kernel
theorem d_M_carry_51 : decode prog_14_method_53_code 51 = .ok (.bipush 64, 2) := by decide +kernel
theorem d_M_carry_53 : decode prog_14_method_53_code 53 = .ok (.if_icmp .eq 10, 3) := by decide +kernel
theorem d_M_carry_56 : decode prog_14_method_53_code 56 = .ok (.iload 8, 2) := by decide +kernel
theorem d_M_carry_58 : decode prog_14_method_53_code 58 = .ok (.bipush 43, 2) := by decide +kernel
theorem d_M_carry_60 : decode prog_14_method_53_code 60 = .ok (.if_icmp .ne 7, 3) := by decide +kernel
theorem d_M_carry_63 : decode prog_14_method_53_code 63 = .ok (.iconst 1, 1) := by decide +kernel
theorem d_M_carry_64 : decode prog_14_method_53_code 64 = .ok (.goto 4, 3) := by decide +kernel
theorem d_M_carry_67 : decode prog_14_method_53_code 67 = .ok (.iconst 0, 1) := by decide +kernel
theorem d_M_carry_68 : decode prog_14_method_53_code 68 = .ok (.istore 7, 2) := by decide +kernel
theorem d_M_carry_70 : decode prog_14_method_53_code 70 = .ok (.iload 4, 2) := by decide +kernel
theorem d_M_carry_72 : decode prog_14_method_53_code 72 = .ok (.ifCond .ne 10, 3) := by decide +kernel
theorem d_M_carry_75 : decode prog_14_method_53_code 75 = .ok (.iload 8, 2) := by decide +kernel
theorem d_M_carry_77 : decode prog_14_method_53_code 77 = .ok (.bipush 45, 2) := by decide +kernel
theorem d_M_carry_79 : decode prog_14_method_53_code 79 = .ok (.if_icmp .ne 7, 3) := by decide +kernel
theorem d_M_carry_82 : decode prog_14_method_53_code 82 = .ok (.iconst 1, 1) := by decide +kernel
theorem d_M_carry_83 : decode prog_14_method_53_code 83 = .ok (.goto 4, 3) := by decide +kernel
theorem d_M_carry_86 : decode prog_14_method_53_code 86 = .ok (.iconst 0, 1) := by decide +kernel
theorem d_M_carry_87 : decode prog_14_method_53_code 87 = .ok (.istore 4, 2) := by decide +kernel
theorem d_M_carry_89 : decode prog_14_method_53_code 89 = .ok (.iload 5, 2) := by decide +kernel
theorem d_M_carry_91 : decode prog_14_method_53_code 91 = .ok (.ifCond .ne 10, 3) := by decide +kernel
theorem d_M_carry_94 : decode prog_14_method_53_code 94 = .ok (.iload 8, 2) := by decide +kernel
theorem d_M_carry_96 : decode prog_14_method_53_code 96 = .ok (.bipush 64, 2) := by decide +kernel
theorem d_M_carry_98 : decode prog_14_method_53_code 98 = .ok (.if_icmp .ne 7, 3) := by decide +kernel
theorem d_M_carry_101 : decode prog_14_method_53_code 101 = .ok (.iconst 1, 1) := by decide +kernel
theorem d_M_carry_102 : decode prog_14_method_53_code 102 = .ok (.goto 4, 3) := by decide +kernel
theorem d_M_carry_105 : decode prog_14_method_53_code 105 = .ok (.iconst 0, 1) := by decide +kernel
theorem d_M_carry_106 : decode prog_14_method_53_code 106 = .ok (.istore 5, 2) := by decide +kernel
theorem d_M_carry_108 : decode prog_14_method_53_code 108 = .ok (.iload 6, 2) := by decide +kernel
theorem d_M_carry_110 : decode prog_14_method_53_code 110 = .ok (.ifCond .ne 10, 3) := by decide +kernel
theorem d_M_carry_113 : decode prog_14_method_53_code 113 = .ok (.iload 8, 2) := by decide +kernel
theorem d_M_carry_115 : decode prog_14_method_53_code 115 = .ok (.bipush 43, 2) := by decide +kernel
theorem d_M_carry_117 : decode prog_14_method_53_code 117 = .ok (.if_icmp .ne 7, 3) := by decide +kernel
theorem d_M_carry_120 : decode prog_14_method_53_code 120 = .ok (.iconst 1, 1) := by decide +kernel
theorem d_M_carry_121 : decode prog_14_method_53_code 121 = .ok (.goto 4, 3) := by decide +kernel
theorem d_M_carry_124 : decode prog_14_method_53_code 124 = .ok (.iconst 0, 1) := by decide +kernel
theorem d_M_carry_125 : decode prog_14_method_53_code 125 = .ok (.istore 6, 2) := by decide +kernel
theorem d_M_carry_127 : decode prog_14_method_53_code 127 = .ok (.iload 7, 2) := by decide +kernel
theorem d_M_carry_129 : decode prog_14_method_53_code 129 = .ok (.ifCond .eq 9, 3) := by decide +kernel
theorem d_M_carry_132 : decode prog_14_method_53_code 132 = .ok (.iload_n 3, 1) := by decide +kernel
theorem d_M_carry_133 : decode prog_14_method_53_code 133 = .ok (.iconst 1, 1) := by decide +kernel
theorem d_M_carry_134 : decode prog_14_method_53_code 134 = .ok (.iadd, 1) := by decide +kernel
theorem d_M_carry_135 : decode prog_14_method_53_code 135 = .ok (.goto 4, 3) := by decide +kernel
theorem d_M_carry_138 : decode prog_14_method_53_code 138 = .ok (.iload_n 3, 1) := by decide +kernel
theorem d_M_carry_139 : decode prog_14_method_53_code 139 = .ok (.istore_n 3, 1) := by decide +kernel
theorem d_M_carry_140 : decode prog_14_method_53_code 140 = .ok (.goto (-121), 3) := by decide +kernel
theorem d_M_carry_143 : decode prog_14_method_53_code 143 = .ok (.iload 6, 2) := by decide +kernel
theorem d_M_carry_145 : decode prog_14_method_53_code 145 = .ok (.ifCond .ne 30, 3) := by decide +kernel
theorem d_M_carry_148 : decode prog_14_method_53_code 148 = .ok (.aload_n 0, 1) := by decide +kernel
theorem d_M_carry_149 : decode prog_14_method_53_code 149 = .ok (.bipush 8, 2) := by decide +kernel
theorem d_M_carry_151 : decode prog_14_method_53_code 151 = .ok (.invokevirtual 379, 3) := by decide +kernel
theorem d_M_carry_154 : decode prog_14_method_53_code 154 = .ok (.ifCond .ne 19, 3) := by decide +kernel
theorem d_M_carry_157 : decode prog_14_method_53_code 157 = .ok (.aload_n 0, 1) := by decide +kernel
theorem d_M_carry_158 : decode prog_14_method_53_code 158 = .ok (.iconst 4, 1) := by decide +kernel
theorem d_M_carry_159 : decode prog_14_method_53_code 159 = .ok (.invokevirtual 379, 3) := by decide +kernel
theorem d_M_carry_162 : decode prog_14_method_53_code 162 = .ok (.ifCond .eq 13, 3) := by decide +kernel
theorem d_M_carry_165 : decode prog_14_method_53_code 165 = .ok (.aload_n 0, 1) := by decide +kernel
theorem d_M_carry_166 : decode prog_14_method_53_code 166 = .ok (.iconst 2, 1) := by decide +kernel
theorem d_M_carry_167 : decode prog_14_method_53_code 167 = .ok (.invokevirtual 379, 3) := by decide +kernel
theorem d_M_carry_170 : decode prog_14_method_53_code 170 = .ok (.ifCond .ne 5, 3) := by decide +kernel
theorem d_M_carry_173 : decode prog_14_method_53_code 173 = .ok (.iconst 1, 1) := by decide +kernel
theorem d_M_carry_174 : decode prog_14_method_53_code 174 = .ok (.ireturn, 1) := by decide +kernel
theorem d_M_carry_175 : decode prog_14_method_53_code 175 = .ok (.aload_n 0, 1) := by decide +kernel
theorem d_M_carry_176 : decode prog_14_method_53_code 176 = .ok (.iload_n 3, 1) := by decide +kernel
theorem d_M_carry_177 : decode prog_14_method_53_code 177 = .ok (.aload_n 0, 1) := by decide +kernel
theorem d_M_carry_178 : decode prog_14_method_53_code 178 = .ok (.getfield 78, 3) := by decide +kernel
theorem d_M_carry_181 : decode prog_14_method_53_code 181 = .ok (.iload_n 2, 1) := by decide +kernel
theorem d_M_carry_182 : decode prog_14_method_53_code 182 = .ok (.iaload, 1) := by decide +kernel
theorem d_M_carry_183 : decode prog_14_method_53_code 183 = .ok (.iconst 1, 1) := by decide +kernel
theorem d_M_carry_184 : decode prog_14_method_53_code 184 = .ok (.invokevirtual 313, 3) := by decide +kernel
theorem d_M_carry_187 : decode prog_14_method_53_code 187 = .ok (.istore 8, 2) := by decide +kernel
theorem d_M_carry_189 : decode prog_14_method_53_code 189 = .ok (.aload_n 0, 1) := by decide +kernel
theorem d_M_carry_190 : decode prog_14_method_53_code 190 = .ok (.bipush 8, 2) := by decide +kernel
theorem d_M_carry_192 : decode prog_14_method_53_code 192 = .ok (.invokevirtual 379, 3) := by decide +kernel
theorem d_M_carry_195 : decode prog_14_method_53_code 195 = .ok (.ifCond .ne 33, 3) := by decide +kernel
theorem d_M_carry_198 : decode prog_14_method_53_code 198 = .ok (.iload 5, 2) := by decide +kernel
theorem d_M_carry_200 : decode prog_14_method_53_code 200 = .ok (.ifCond .ne 20, 3) := by decide +kernel
theorem d_M_carry_203 : decode prog_14_method_53_code 203 = .ok (.aload_n 0, 1) := by decide +kernel
theorem d_M_carry_204 : decode prog_14_method_53_code 204 = .ok (.iload_n 1, 1) := by decide +kernel
theorem d_M_carry_205 : decode prog_14_method_53_code 205 = .ok (.invokevirtual 392, 3) := by decide +kernel
theorem d_M_carry_208 : decode prog_14_method_53_code 208 = .ok (.ifCond .ne 12, 3) := by decide +kernel
theorem d_M_carry_211 : decode prog_14_method_53_code 211 = .ok (.aload_n 0, 1) := by decide +kernel
theorem d_M_carry_212 : decode prog_14_method_53_code 212 = .ok (.bipush 32, 2) := by decide +kernel
theorem d_M_carry_214 : decode prog_14_method_53_code 214 = .ok (.invokevirtual 379, 3) := by decide +kernel
theorem d_M_carry_217 : decode prog_14_method_53_code 217 = .ok (.ifCond .eq 15, 3) := by decide +kernel
theorem d_M_carry_220 : decode prog_14_method_53_code 220 = .ok (.aload_n 0, 1) := by decide +kernel
theorem d_M_carry_221 : decode prog_14_method_53_code 221 = .ok (.iconst 2, 1) := by decide +kernel
theorem d_M_carry_222 : decode prog_14_method_53_code 222 = .ok (.invokevirtual 379, 3) := by decide +kernel
theorem d_M_carry_225 : decode prog_14_method_53_code 225 = .ok (.ifCond .ne 7, 3) := by decide +kernel
theorem d_M_carry_228 : decode prog_14_method_53_code 228 = .ok (.iconst 1, 1) := by decide +kernel
theorem d_M_carry_229 : decode prog_14_method_53_code 229 = .ok (.goto 4, 3) := by decide +kernel
theorem d_M_carry_232 : decode prog_14_method_53_code 232 = .ok (.iconst 0, 1) := by decide +kernel
theorem d_M_carry_233 : decode prog_14_method_53_code 233 = .ok (.istore 9, 2) := by decide +kernel
theorem d_M_carry_235 : decode prog_14_method_53_code 235 = .ok (.iload 8, 2) := by decide +kernel
theorem d_M_carry_237 : decode prog_14_method_53_code 237 = .ok (.ifCond .eq 43, 3) := by decide +kernel
theorem d_M_carry_240 : decode prog_14_method_53_code 240 = .ok (.iload 9, 2) := by decide +kernel
theorem d_M_carry_242 : decode prog_14_method_53_code 242 = .ok (.ifCond .ne 38, 3) := by decide +kernel
theorem d_M_carry_245 : decode prog_14_method_53_code 245 = .ok (.iconst 0, 1) := by decide +kernel
theorem d_M_carry_246 : decode prog_14_method_53_code 246 = .ok (.istore 10, 2) := by decide +kernel
theorem d_M_carry_248 : decode prog_14_method_53_code 248 = .ok (.iload 10, 2) := by decide +kernel
theorem d_M_carry_250 : decode prog_14_method_53_code 250 = .ok (.aload_n 0, 1) := by decide +kernel
theorem d_M_carry_251 : decode prog_14_method_53_code 251 = .ok (.getfield 203, 3) := by decide +kernel
theorem d_M_carry_254 : decode prog_14_method_53_code 254 = .ok (.if_icmp .ge 20, 3) := by decide +kernel
theorem d_M_carry_257 : decode prog_14_method_53_code 257 = .ok (.aload_n 0, 1) := by decide +kernel
theorem d_M_carry_258 : decode prog_14_method_53_code 258 = .ok (.aload_n 0, 1) := by decide +kernel
theorem d_M_carry_259 : decode prog_14_method_53_code 259 = .ok (.getfield 93, 3) := by decide +kernel
theorem d_M_carry_262 : decode prog_14_method_53_code 262 = .ok (.iload 10, 2) := by decide +kernel
theorem d_M_carry_264 : decode prog_14_method_53_code 264 = .ok (.iaload, 1) := by decide +kernel
theorem d_M_carry_265 : decode prog_14_method_53_code 265 = .ok (.invokevirtual 401, 3) := by decide +kernel
theorem d_M_carry_268 : decode prog_14_method_53_code 268 = .ok (.iinc 10 1, 3) := by decide +kernel
theorem d_M_carry_271 : decode prog_14_method_53_code 271 = .ok (.goto (-23), 3) := by decide +kernel
theorem d_M_carry_274 : decode prog_14_method_53_code 274 = .ok (.aload_n 0, 1) := by decide +kernel
theorem d_M_carry_275 : decode prog_14_method_53_code 275 = .ok (.bipush 10, 2) := by decide +kernel
theorem d_M_carry_277 : decode prog_14_method_53_code 277 = .ok (.invokevirtual 401, 3) := by decide +kernel
theorem d_M_carry_280 : decode prog_14_method_53_code 280 = .ok (.iload 8, 2) := by decide +kernel
theorem d_M_carry_282 : decode prog_14_method_53_code 282 = .ok (.ifCond .eq 33, 3) := by decide +kernel
theorem d_M_carry_285 : decode prog_14_method_53_code 285 = .ok (.iload 6, 2) := by decide +kernel
theorem d_M_carry_287 : decode prog_14_method_53_code 287 = .ok (.ifCond .ne 12, 3) := by decide +kernel
theorem d_M_carry_290 : decode prog_14_method_53_code 290 = .ok (.aload_n 0, 1) := by decide +kernel
theorem d_M_carry_291 : decode prog_14_method_53_code 291 = .ok (.bipush 14, 2) := by decide +kernel
theorem d_M_carry_293 : decode prog_14_method_53_code 293 = .ok (.invokevirtual 379, 3) := by decide +kernel
theorem d_M_carry_296 : decode prog_14_method_53_code 296 = .ok (.ifCond .ne 19, 3) := by decide +kernel
theorem d_M_carry_299 : decode prog_14_method_53_code 299 = .ok (.aload_n 0, 1) := by decide +kernel
theorem d_M_carry_300 : decode prog_14_method_53_code 300 = .ok (.dup, 1) := by decide +kernel
theorem d_M_carry_301 : decode prog_14_method_53_code 301 = .ok (.getfield 407, 3) := by decide +kernel
theorem d_M_carry_304 : decode prog_14_method_53_code 304 = .ok (.iconst 1, 1) := by decide +kernel
theorem d_M_carry_305 : decode prog_14_method_53_code 305 = .ok (.iadd, 1) := by decide +kernel
theorem d_M_carry_306 : decode prog_14_method_53_code 306 = .ok (.putfield 407, 3) := by decide +kernel
theorem d_M_carry_309 : decode prog_14_method_53_code 309 = .ok (.aload_n 0, 1) := by decide +kernel
theorem d_M_carry_310 : decode prog_14_method_53_code 310 = .ok (.invokevirtual 410, 3) := by decide +kernel
theorem d_M_carry_313 : decode prog_14_method_53_code 313 = .ok (.istore 8, 2) := by decide +kernel
theorem d_M_carry_315 : decode prog_14_method_53_code 315 = .ok (.iload 8, 2) := by decide +kernel
theorem d_M_carry_317 : decode prog_14_method_53_code 317 = .ok (.ifCond .ne 33, 3) := by decide +kernel
theorem d_M_carry_320 : decode prog_14_method_53_code 320 = .ok (.iload 4, 2) := by decide +kernel
theorem d_M_carry_322 : decode prog_14_method_53_code 322 = .ok (.ifCond .ne 28, 3) := by decide +kernel
theorem d_M_carry_325 : decode prog_14_method_53_code 325 = .ok (.aload_n 0, 1) := by decide +kernel
theorem d_M_carry_326 : decode prog_14_method_53_code 326 = .ok (.getfield 57, 3) := by decide +kernel
theorem d_M_carry_329 : decode prog_14_method_53_code 329 = .ok (.iload_n 1, 1) := by decide +kernel
theorem d_M_carry_330 : decode prog_14_method_53_code 330 = .ok (.baload, 1) := by decide +kernel
theorem d_M_carry_331 : decode prog_14_method_53_code 331 = .ok (.ifCond .ne 19, 3) := by decide +kernel
theorem d_M_carry_334 : decode prog_14_method_53_code 334 = .ok (.aload_n 0, 1) := by decide +kernel
theorem d_M_carry_335 : decode prog_14_method_53_code 335 = .ok (.getfield 264, 3) := by decide +kernel
theorem d_M_carry_338 : decode prog_14_method_53_code 338 = .ok (.ifCond .ne 12, 3) := by decide +kernel
theorem d_M_carry_341 : decode prog_14_method_53_code 341 = .ok (.aload_n 0, 1) := by decide +kernel
theorem d_M_carry_342 : decode prog_14_method_53_code 342 = .ok (.bipush 16, 2) := by decide +kernel
theorem d_M_carry_344 : decode prog_14_method_53_code 344 = .ok (.invokevirtual 379, 3) := by decide +kernel
theorem d_M_carry_347 : decode prog_14_method_53_code 347 = .ok (.ifCond .eq 7, 3) := by decide +kernel
theorem d_M_carry_350 : decode prog_14_method_53_code 350 = .ok (.iconst 1, 1) := by decide +kernel
theorem d_M_carry_351 : decode prog_14_method_53_code 351 = .ok (.goto 4, 3) := by decide +kernel
theorem d_M_carry_354 : decode prog_14_method_53_code 354 = .ok (.iconst 0, 1) := by decide +kernel
theorem d_M_carry_355 : decode prog_14_method_53_code 355 = .ok (.ireturn, 1) := by decide +kernel
noncomputable def f_M_carry_j315 (r0 : Option Nat) (x1 : Int32) (x4 : Int32) (x8 : Int32) (σ : rb_St) : Option rb_Rs :=
  if x8 = 0 then (if x4 = 0 then ((rb_gR σ r0 13 20).bind fun r_19 => (rb_aI σ r_19 104 x1).bind fun x_20 => if x_20 = 0 then ((rb_gI σ r0 13 22).bind fun x_21 => if x_21 = 0 then ((rb_fc σ r0 13).bind fun _ => rb_cI (f_M_option (r0) ((16 : Int32)) σ) fun x_22 σ_23 => if x_22 = 0 then (some (some (.int (0 : Int32)), σ_23)) else (some (some (.int (1 : Int32)), σ_23))) else (some (some (.int (1 : Int32)), σ))) else (some (some (.int (1 : Int32)), σ))) else (some (some (.int (1 : Int32)), σ))) else (some (some (.int (1 : Int32)), σ))
theorem t_M_carry_j315 {E : rb_EV} {d : Nat} {σ0 : rb_St} {res : rb_Rs} (hdd : 6 ≤ d)  (r0 : Option Nat) (x1 : Int32) (x4 : Int32) (x8 : Int32) (σ : rb_St) : rb_TC (f_M_carry_j315 r0 x1 x4 x8 σ) (fun r => r = res) (rb_WK E k_M_carry d σ0 res 315 [some (va_rf r0), some (.int x1), none, none, some (.int x4), none, none, none, some (.int x8), none, none] [] σ) := by
  unfold f_M_carry_j315
  refine rb_TC.mono (rk_iload d_M_carry_315 rfl) ?_
  refine rt_if_ne 350 d_M_carry_317 (by decide) (fun _ => ?_) (fun _ => ?_)
  · refine rb_TC.mono (rk_iload d_M_carry_320 rfl) ?_
    refine rt_if_ne 350 d_M_carry_322 (by decide) (fun _ => ?_) (fun _ => ?_)
    · refine rb_TC.mono (rk_aload_n 0 d_M_carry_325 rfl rfl) ?_
      refine rt_gR r0 fw_M_57 d_M_carry_326 (fun r_19 => ?_)
      refine rb_TC.mono (rk_iload_n 1 d_M_carry_329 rfl rfl) ?_
      refine rt_zald r_19 d_M_carry_330 (fun x_20 => ?_)
      refine rt_if_ne 350 d_M_carry_331 (by decide) (fun _ => ?_) (fun _ => ?_)
      · refine rb_TC.mono (rk_aload_n 0 d_M_carry_334 rfl rfl) ?_
        refine rt_gI r0 fw_M_264 d_M_carry_335 (fun x_21 => ?_)
        refine rt_if_ne 350 d_M_carry_338 (by decide) (fun _ => ?_) (fun _ => ?_)
        · refine rb_TC.mono (rk_aload_n 0 d_M_carry_341 rfl rfl) ?_
          refine rb_TC.mono (rk_bipush (16 : Int32) d_M_carry_342 (by decide)) ?_
          refine rt_vI (As := [.int (16 : Int32)]) (st := []) (r0) vw_M_379 (s_M_option (Nat.le_refl _) (r0) ((16 : Int32)) σ) (Nat.le_trans (by decide) hdd) rfl (by simp [rb_cat_r, rb_cat_i, rb_cat_l]) d_M_carry_344 (fun x_22 σ_23 => ?_)
          refine rt_if_eq 354 d_M_carry_347 (by decide) (fun _ => ?_) (fun _ => ?_)
          · refine rb_TC.mono (rk_iconst (0 : Int32) d_M_carry_354 (by decide)) ?_
            exact rt_iret (ty := .boolean) rfl (by decide) (fun h => h) d_M_carry_355
          · refine rb_TC.mono (rk_iconst (1 : Int32) d_M_carry_350 (by decide)) ?_
            refine rb_TC.mono (rk_goto 355 d_M_carry_351 (by decide)) ?_
            exact rt_iret (ty := .boolean) rfl (by decide) (fun h => h) d_M_carry_355
        · refine rb_TC.mono (rk_iconst (1 : Int32) d_M_carry_350 (by decide)) ?_
          refine rb_TC.mono (rk_goto 355 d_M_carry_351 (by decide)) ?_
          exact rt_iret (ty := .boolean) rfl (by decide) (fun h => h) d_M_carry_355
      · refine rb_TC.mono (rk_iconst (1 : Int32) d_M_carry_350 (by decide)) ?_
        refine rb_TC.mono (rk_goto 355 d_M_carry_351 (by decide)) ?_
        exact rt_iret (ty := .boolean) rfl (by decide) (fun h => h) d_M_carry_355
    · refine rb_TC.mono (rk_iconst (1 : Int32) d_M_carry_350 (by decide)) ?_
      refine rb_TC.mono (rk_goto 355 d_M_carry_351 (by decide)) ?_
      exact rt_iret (ty := .boolean) rfl (by decide) (fun h => h) d_M_carry_355
  · refine rb_TC.mono (rk_iconst (1 : Int32) d_M_carry_350 (by decide)) ?_
    refine rb_TC.mono (rk_goto 355 d_M_carry_351 (by decide)) ?_
    exact rt_iret (ty := .boolean) rfl (by decide) (fun h => h) d_M_carry_355
noncomputable def f_M_carry_j299 (r0 : Option Nat) (x1 : Int32) (x4 : Int32) (σ : rb_St) : Option rb_Rs :=
  (rb_gI σ r0 13 70).bind fun x_26 => (rb_pI σ r0 13 70 (x_26 + (1 : Int32))).bind fun σ_27 => (rb_fc σ_27 r0 13).bind fun _ => rb_cI (f_M_perform (r0)  σ_27) fun x_28 σ_29 => f_M_carry_j315 (r0) (x1) (x4) (x_28) σ_29
theorem t_M_carry_j299 {E : rb_EV} {d : Nat} {σ0 : rb_St} {res : rb_Rs} (hdd : 6 ≤ d)  (r0 : Option Nat) (x1 : Int32) (x4 : Int32) (σ : rb_St) : rb_TC (f_M_carry_j299 r0 x1 x4 σ) (fun r => r = res) (rb_WK E k_M_carry d σ0 res 299 [some (va_rf r0), some (.int x1), none, none, some (.int x4), none, none, none, none, none, none] [] σ) := by
  unfold f_M_carry_j299
  refine rb_TC.mono (rk_aload_n 0 d_M_carry_299 rfl rfl) ?_
  refine rb_TC.mono (rk_dupr d_M_carry_300) ?_
  refine rt_gI r0 fw_M_407 d_M_carry_301 (fun x_26 => ?_)
  refine rb_TC.mono (rk_iconst (1 : Int32) d_M_carry_304 (by decide)) ?_
  refine rb_TC.mono (rk_iadd d_M_carry_305) ?_
  refine rt_pI r0 fp_M_carry_407 d_M_carry_306 (fun σ_27 => ?_)
  refine rb_TC.mono (rk_aload_n 0 d_M_carry_309 rfl rfl) ?_
  refine rt_vI (As := []) (st := []) (r0) vw_M_410 (s_M_perform (Nat.le_refl _) (r0)  σ_27) (Nat.le_trans (by decide) hdd) rfl (by simp [rb_cat_r, rb_cat_i, rb_cat_l]) d_M_carry_310 (fun x_28 σ_29 => ?_)
  refine rb_TC.mono (rk_istore (lv2 := [some (va_rf r0), some (.int x1), none, none, some (.int x4), none, none, none, some (.int x_28), none, none]) d_M_carry_313 (by decide) (fun _ => rb_one_n) rfl) ?_
  exact t_M_carry_j315 hdd  (r0) (x1) (x4) (x_28) σ_29
noncomputable def f_M_carry_j280 (r0 : Option Nat) (x1 : Int32) (x4 : Int32) (x6 : Int32) (x8 : Int32) (σ : rb_St) : Option rb_Rs :=
  if x8 = 0 then (f_M_carry_j315 (r0) (x1) (x4) (x8) σ) else (if x6 = 0 then ((rb_fc σ r0 13).bind fun _ => rb_cI (f_M_option (r0) ((14 : Int32)) σ) fun x_24 σ_25 => if x_24 = 0 then (f_M_carry_j299 (r0) (x1) (x4) σ_25) else (f_M_carry_j315 (r0) (x1) (x4) (x8) σ_25)) else (f_M_carry_j299 (r0) (x1) (x4) σ))
theorem t_M_carry_j280 {E : rb_EV} {d : Nat} {σ0 : rb_St} {res : rb_Rs} (hdd : 6 ≤ d)  (r0 : Option Nat) (x1 : Int32) (x4 : Int32) (x6 : Int32) (x8 : Int32) (σ : rb_St) : rb_TC (f_M_carry_j280 r0 x1 x4 x6 x8 σ) (fun r => r = res) (rb_WK E k_M_carry d σ0 res 280 [some (va_rf r0), some (.int x1), none, none, some (.int x4), none, some (.int x6), none, some (.int x8), none, none] [] σ) := by
  unfold f_M_carry_j280
  refine rb_TC.mono (rk_iload d_M_carry_280 rfl) ?_
  refine rt_if_eq 315 d_M_carry_282 (by decide) (fun _ => ?_) (fun _ => ?_)
  · refine rb_TC.mono (rk_less (lv2 := [some (va_rf r0), some (.int x1), none, none, some (.int x4), none, none, none, some (.int x8), none, none]) (rb_le_ok (rb_leS (rb_leS (rb_leN (rb_leN (rb_leS (rb_leN (rb_leN (rb_leN (rb_leS (rb_leN (rb_leN rb_le0))))))))))))) ?_
    exact t_M_carry_j315 hdd  (r0) (x1) (x4) (x8) σ
  · refine rb_TC.mono (rk_iload d_M_carry_285 rfl) ?_
    refine rt_if_ne 299 d_M_carry_287 (by decide) (fun _ => ?_) (fun _ => ?_)
    · refine rb_TC.mono (rk_aload_n 0 d_M_carry_290 rfl rfl) ?_
      refine rb_TC.mono (rk_bipush (14 : Int32) d_M_carry_291 (by decide)) ?_
      refine rt_vI (As := [.int (14 : Int32)]) (st := []) (r0) vw_M_379 (s_M_option (Nat.le_refl _) (r0) ((14 : Int32)) σ) (Nat.le_trans (by decide) hdd) rfl (by simp [rb_cat_r, rb_cat_i, rb_cat_l]) d_M_carry_293 (fun x_24 σ_25 => ?_)
      refine rt_if_ne 315 d_M_carry_296 (by decide) (fun _ => ?_) (fun _ => ?_)
      · refine rb_TC.mono (rk_less (lv2 := [some (va_rf r0), some (.int x1), none, none, some (.int x4), none, none, none, none, none, none]) (rb_le_ok (rb_leS (rb_leS (rb_leN (rb_leN (rb_leS (rb_leN (rb_leN (rb_leN (rb_leN (rb_leN (rb_leN rb_le0))))))))))))) ?_
        exact t_M_carry_j299 hdd  (r0) (x1) (x4) σ_25
      · refine rb_TC.mono (rk_less (lv2 := [some (va_rf r0), some (.int x1), none, none, some (.int x4), none, none, none, some (.int x8), none, none]) (rb_le_ok (rb_leS (rb_leS (rb_leN (rb_leN (rb_leS (rb_leN (rb_leN (rb_leN (rb_leS (rb_leN (rb_leN rb_le0))))))))))))) ?_
        exact t_M_carry_j315 hdd  (r0) (x1) (x4) (x8) σ_25
    · refine rb_TC.mono (rk_less (lv2 := [some (va_rf r0), some (.int x1), none, none, some (.int x4), none, none, none, none, none, none]) (rb_le_ok (rb_leS (rb_leS (rb_leN (rb_leN (rb_leS (rb_leN (rb_leN (rb_leN (rb_leN (rb_leN (rb_leN rb_le0))))))))))))) ?_
      exact t_M_carry_j299 hdd  (r0) (x1) (x4) σ
noncomputable def f_M_carry_b248 (r0 : Option Nat) (x1 : Int32) (x4 : Int32) (x6 : Int32) (x8 : Int32) (x10 : Int32) (σ : rb_St) : Option ((Int32 × rb_St) ⊕ rb_Rs) :=
  (rb_gI σ r0 13 44).bind fun x_30 => if x_30 ≤ x10 then (((rb_fc σ r0 13).bind fun _ => rb_cV (f_M_put (r0) ((10 : Int32)) σ) fun σ_31 => f_M_carry_j280 (r0) (x1) (x4) (x6) (x8) σ_31).map Sum.inr) else ((rb_gR σ r0 13 43).bind fun r_32 => (rb_aI σ r_32 102 x10).bind fun x_33 => (rb_fc σ r0 13).bind fun _ => rb_cV (f_M_put (r0) (x_33) σ) fun σ_34 => some (.inl ((x10 + 1), σ_34)))
theorem t_M_carry_b248 {E : rb_EV} {d : Nat} {σ0 : rb_St} {res : rb_Rs} (hdd : 6 ≤ d)  (r0 : Option Nat) (x1 : Int32) (x4 : Int32) (x6 : Int32) (x8 : Int32) (x10 : Int32) (σ : rb_St) : rb_TC (f_M_carry_b248 r0 x1 x4 x6 x8 x10 σ) (Sum.elim (fun z : (Int32 × rb_St) => rb_WK E k_M_carry d σ0 res 248 [some (va_rf r0), some (.int x1), none, none, some (.int x4), none, some (.int x6), none, some (.int x8), none, some (.int z.1)] [] z.2) (fun r => r = res)) (rb_WK E k_M_carry d σ0 res 248 [some (va_rf r0), some (.int x1), none, none, some (.int x4), none, some (.int x6), none, some (.int x8), none, some (.int x10)] [] σ) := by
  unfold f_M_carry_b248
  refine rb_TC.mono (rk_iload d_M_carry_248 rfl) ?_
  refine rb_TC.mono (rk_aload_n 0 d_M_carry_250 rfl rfl) ?_
  refine rt_gI r0 fw_M_203 d_M_carry_251 (fun x_30 => ?_)
  refine rt_icmp_ge 274 d_M_carry_254 (by decide) (fun _ => ?_) (fun _ => ?_)
  · refine rb_TC.out ?_
    refine rb_TC.mono (rk_aload_n 0 d_M_carry_274 rfl rfl) ?_
    refine rb_TC.mono (rk_bipush (10 : Int32) d_M_carry_275 (by decide)) ?_
    refine rt_vV (As := [.int (10 : Int32)]) (st := []) (r0) vw_M_401 (s_M_put (Nat.le_refl _) (r0) ((10 : Int32)) σ) (Nat.le_trans (by decide) hdd) rfl (by simp [rb_cat_r, rb_cat_i, rb_cat_l]) d_M_carry_277 (fun σ_31 => ?_)
    refine rb_TC.mono (rk_less (lv2 := [some (va_rf r0), some (.int x1), none, none, some (.int x4), none, some (.int x6), none, some (.int x8), none, none]) (rb_le_ok (rb_leS (rb_leS (rb_leN (rb_leN (rb_leS (rb_leN (rb_leS (rb_leN (rb_leS (rb_leN (rb_leN rb_le0))))))))))))) ?_
    exact t_M_carry_j280 hdd  (r0) (x1) (x4) (x6) (x8) σ_31
  · refine rb_TC.mono (rk_aload_n 0 d_M_carry_257 rfl rfl) ?_
    refine rb_TC.mono (rk_aload_n 0 d_M_carry_258 rfl rfl) ?_
    refine rt_gR r0 fw_M_93 d_M_carry_259 (fun r_32 => ?_)
    refine rb_TC.mono (rk_iload d_M_carry_262 rfl) ?_
    refine rt_iald r_32 d_M_carry_264 (fun x_33 => ?_)
    refine rt_vV (As := [.int x_33]) (st := []) (r0) vw_M_401 (s_M_put (Nat.le_refl _) (r0) (x_33) σ) (Nat.le_trans (by decide) hdd) rfl (by simp [rb_cat_r, rb_cat_i, rb_cat_l]) d_M_carry_265 (fun σ_34 => ?_)
    refine rb_TC.mono (rk_iinc (lv2 := [some (va_rf r0), some (.int x1), none, none, some (.int x4), none, some (.int x6), none, some (.int x8), none, some (.int (x10 + 1))]) (x10 + 1) d_M_carry_268 rfl rfl (by decide) (fun _ => rb_one_n) rfl) ?_
    refine rb_TC.mono (rk_goto 248 d_M_carry_271 (by decide)) ?_
    exact rb_back
noncomputable def f_M_carry_j233 (r0 : Option Nat) (x1 : Int32) (x4 : Int32) (x6 : Int32) (x8 : Int32) (sx0 : Int32) (σ : rb_St) : Option rb_Rs :=
  if x8 = 0 then (f_M_carry_j280 (r0) (x1) (x4) (x6) (x8) σ) else (if sx0 = 0 then (rb_it (fun z : (Int32 × rb_St) => f_M_carry_b248 (r0) (x1) (x4) (x6) (x8) (z.1) z.2) ((0 : Int32), σ)) else (f_M_carry_j280 (r0) (x1) (x4) (x6) (x8) σ))
theorem t_M_carry_j233 {E : rb_EV} {d : Nat} {σ0 : rb_St} {res : rb_Rs} (hdd : 6 ≤ d)  (r0 : Option Nat) (x1 : Int32) (x4 : Int32) (x6 : Int32) (x8 : Int32) (sx0 : Int32) (σ : rb_St) : rb_TC (f_M_carry_j233 r0 x1 x4 x6 x8 sx0 σ) (fun r => r = res) (rb_WK E k_M_carry d σ0 res 233 [some (va_rf r0), some (.int x1), none, none, some (.int x4), none, some (.int x6), none, some (.int x8), none, none] [.int sx0] σ) := by
  unfold f_M_carry_j233
  refine rb_TC.mono (rk_istore (lv2 := [some (va_rf r0), some (.int x1), none, none, some (.int x4), none, some (.int x6), none, some (.int x8), some (.int sx0), none]) d_M_carry_233 (by decide) (fun _ => rb_one_i) rfl) ?_
  refine rb_TC.mono (rk_iload d_M_carry_235 rfl) ?_
  refine rt_if_eq 280 d_M_carry_237 (by decide) (fun _ => ?_) (fun _ => ?_)
  · refine rb_TC.mono (rk_less (lv2 := [some (va_rf r0), some (.int x1), none, none, some (.int x4), none, some (.int x6), none, some (.int x8), none, none]) (rb_le_ok (rb_leS (rb_leS (rb_leN (rb_leN (rb_leS (rb_leN (rb_leS (rb_leN (rb_leS (rb_leN (rb_leN rb_le0))))))))))))) ?_
    exact t_M_carry_j280 hdd  (r0) (x1) (x4) (x6) (x8) σ
  · refine rb_TC.mono (rk_iload d_M_carry_240 rfl) ?_
    refine rt_if_ne 280 d_M_carry_242 (by decide) (fun _ => ?_) (fun _ => ?_)
    · refine rb_TC.mono (rk_iconst (0 : Int32) d_M_carry_245 (by decide)) ?_
      refine rb_TC.mono (rk_istore (lv2 := [some (va_rf r0), some (.int x1), none, none, some (.int x4), none, some (.int x6), none, some (.int x8), some (.int sx0), some (.int (0 : Int32))]) d_M_carry_246 (by decide) (fun _ => rb_one_i) rfl) ?_
      refine rb_TC.mono (rk_less (lv2 := [some (va_rf r0), some (.int x1), none, none, some (.int x4), none, some (.int x6), none, some (.int x8), none, some (.int (0 : Int32))]) (rb_le_ok (rb_leS (rb_leS (rb_leN (rb_leN (rb_leS (rb_leN (rb_leS (rb_leN (rb_leS (rb_leN (rb_leS rb_le0))))))))))))) ?_
      exact rb_TC.loop2 (A := (fun z : (Int32 × rb_St) => rb_WK E k_M_carry d σ0 res 248 [some (va_rf r0), some (.int x1), none, none, some (.int x4), none, some (.int x6), none, some (.int x8), none, some (.int z.1)] [] z.2)) ((0 : Int32), σ) (fun z => t_M_carry_b248 hdd  (r0) (x1) (x4) (x6) (x8) (z.1) z.2)
    · refine rb_TC.mono (rk_less (lv2 := [some (va_rf r0), some (.int x1), none, none, some (.int x4), none, some (.int x6), none, some (.int x8), none, none]) (rb_le_ok (rb_leS (rb_leS (rb_leN (rb_leN (rb_leS (rb_leN (rb_leS (rb_leN (rb_leS (rb_leN (rb_leN rb_le0))))))))))))) ?_
      exact t_M_carry_j280 hdd  (r0) (x1) (x4) (x6) (x8) σ
noncomputable def f_M_carry_j232 (r0 : Option Nat) (x1 : Int32) (x4 : Int32) (x6 : Int32) (x8 : Int32) (σ : rb_St) : Option rb_Rs :=
  f_M_carry_j233 (r0) (x1) (x4) (x6) (x8) ((0 : Int32)) σ
theorem t_M_carry_j232 {E : rb_EV} {d : Nat} {σ0 : rb_St} {res : rb_Rs} (hdd : 6 ≤ d)  (r0 : Option Nat) (x1 : Int32) (x4 : Int32) (x6 : Int32) (x8 : Int32) (σ : rb_St) : rb_TC (f_M_carry_j232 r0 x1 x4 x6 x8 σ) (fun r => r = res) (rb_WK E k_M_carry d σ0 res 232 [some (va_rf r0), some (.int x1), none, none, some (.int x4), none, some (.int x6), none, some (.int x8), none, none] [] σ) := by
  unfold f_M_carry_j232
  refine rb_TC.mono (rk_iconst (0 : Int32) d_M_carry_232 (by decide)) ?_
  exact t_M_carry_j233 hdd  (r0) (x1) (x4) (x6) (x8) ((0 : Int32)) σ
noncomputable def f_M_carry_j228 (r0 : Option Nat) (x1 : Int32) (x4 : Int32) (x6 : Int32) (x8 : Int32) (σ : rb_St) : Option rb_Rs :=
  f_M_carry_j233 (r0) (x1) (x4) (x6) (x8) ((1 : Int32)) σ
theorem t_M_carry_j228 {E : rb_EV} {d : Nat} {σ0 : rb_St} {res : rb_Rs} (hdd : 6 ≤ d)  (r0 : Option Nat) (x1 : Int32) (x4 : Int32) (x6 : Int32) (x8 : Int32) (σ : rb_St) : rb_TC (f_M_carry_j228 r0 x1 x4 x6 x8 σ) (fun r => r = res) (rb_WK E k_M_carry d σ0 res 228 [some (va_rf r0), some (.int x1), none, none, some (.int x4), none, some (.int x6), none, some (.int x8), none, none] [] σ) := by
  unfold f_M_carry_j228
  refine rb_TC.mono (rk_iconst (1 : Int32) d_M_carry_228 (by decide)) ?_
  refine rb_TC.mono (rk_goto 233 d_M_carry_229 (by decide)) ?_
  exact t_M_carry_j233 hdd  (r0) (x1) (x4) (x6) (x8) ((1 : Int32)) σ
noncomputable def f_M_carry_j220 (r0 : Option Nat) (x1 : Int32) (x4 : Int32) (x6 : Int32) (x8 : Int32) (σ : rb_St) : Option rb_Rs :=
  (rb_fc σ r0 13).bind fun _ => rb_cI (f_M_option (r0) ((2 : Int32)) σ) fun x_35 σ_36 => if x_35 = 0 then (f_M_carry_j228 (r0) (x1) (x4) (x6) (x8) σ_36) else (f_M_carry_j232 (r0) (x1) (x4) (x6) (x8) σ_36)
theorem t_M_carry_j220 {E : rb_EV} {d : Nat} {σ0 : rb_St} {res : rb_Rs} (hdd : 6 ≤ d)  (r0 : Option Nat) (x1 : Int32) (x4 : Int32) (x6 : Int32) (x8 : Int32) (σ : rb_St) : rb_TC (f_M_carry_j220 r0 x1 x4 x6 x8 σ) (fun r => r = res) (rb_WK E k_M_carry d σ0 res 220 [some (va_rf r0), some (.int x1), none, none, some (.int x4), none, some (.int x6), none, some (.int x8), none, none] [] σ) := by
  unfold f_M_carry_j220
  refine rb_TC.mono (rk_aload_n 0 d_M_carry_220 rfl rfl) ?_
  refine rb_TC.mono (rk_iconst (2 : Int32) d_M_carry_221 (by decide)) ?_
  refine rt_vI (As := [.int (2 : Int32)]) (st := []) (r0) vw_M_379 (s_M_option (Nat.le_refl _) (r0) ((2 : Int32)) σ) (Nat.le_trans (by decide) hdd) rfl (by simp [rb_cat_r, rb_cat_i, rb_cat_l]) d_M_carry_222 (fun x_35 σ_36 => ?_)
  refine rt_if_ne 232 d_M_carry_225 (by decide) (fun _ => ?_) (fun _ => ?_)
  · exact t_M_carry_j228 hdd  (r0) (x1) (x4) (x6) (x8) σ_36
  · exact t_M_carry_j232 hdd  (r0) (x1) (x4) (x6) (x8) σ_36
noncomputable def f_M_carry_j175 (r0 : Option Nat) (x1 : Int32) (x2 : Int32) (x3 : Int32) (x4 : Int32) (x5 : Int32) (x6 : Int32) (σ : rb_St) : Option rb_Rs :=
  (rb_gR σ r0 13 31).bind fun r_9 => (rb_aI σ r_9 102 x2).bind fun x_10 => (rb_fc σ r0 13).bind fun _ => rb_cI (f_M_expand (r0) (x3) (x_10) ((1 : Int32)) σ) fun x_11 σ_12 => (rb_fc σ_12 r0 13).bind fun _ => rb_cI (f_M_option (r0) ((8 : Int32)) σ_12) fun x_13 σ_14 => if x_13 = 0 then (if x5 = 0 then ((rb_fc σ_14 r0 13).bind fun _ => rb_cI (f_M_isSilent (r0) (x1) σ_14) fun x_15 σ_16 => if x_15 = 0 then ((rb_fc σ_16 r0 13).bind fun _ => rb_cI (f_M_option (r0) ((32 : Int32)) σ_16) fun x_17 σ_18 => if x_17 = 0 then (f_M_carry_j232 (r0) (x1) (x4) (x6) (x_11) σ_18) else (f_M_carry_j220 (r0) (x1) (x4) (x6) (x_11) σ_18)) else (f_M_carry_j220 (r0) (x1) (x4) (x6) (x_11) σ_16)) else (f_M_carry_j220 (r0) (x1) (x4) (x6) (x_11) σ_14)) else (f_M_carry_j228 (r0) (x1) (x4) (x6) (x_11) σ_14)
theorem t_M_carry_j175 {E : rb_EV} {d : Nat} {σ0 : rb_St} {res : rb_Rs} (hdd : 6 ≤ d)  (r0 : Option Nat) (x1 : Int32) (x2 : Int32) (x3 : Int32) (x4 : Int32) (x5 : Int32) (x6 : Int32) (σ : rb_St) : rb_TC (f_M_carry_j175 r0 x1 x2 x3 x4 x5 x6 σ) (fun r => r = res) (rb_WK E k_M_carry d σ0 res 175 [some (va_rf r0), some (.int x1), some (.int x2), some (.int x3), some (.int x4), some (.int x5), some (.int x6), none, none, none, none] [] σ) := by
  unfold f_M_carry_j175
  refine rb_TC.mono (rk_aload_n 0 d_M_carry_175 rfl rfl) ?_
  refine rb_TC.mono (rk_iload_n 3 d_M_carry_176 rfl rfl) ?_
  refine rb_TC.mono (rk_aload_n 0 d_M_carry_177 rfl rfl) ?_
  refine rt_gR r0 fw_M_78 d_M_carry_178 (fun r_9 => ?_)
  refine rb_TC.mono (rk_iload_n 2 d_M_carry_181 rfl rfl) ?_
  refine rt_iald r_9 d_M_carry_182 (fun x_10 => ?_)
  refine rb_TC.mono (rk_iconst (1 : Int32) d_M_carry_183 (by decide)) ?_
  refine rt_vI (As := [.int x3, .int x_10, .int (1 : Int32)]) (st := []) (r0) vw_M_313 (s_M_expand (Nat.le_refl _) (r0) (x3) (x_10) ((1 : Int32)) σ) (Nat.le_trans (by decide) hdd) rfl (by simp [rb_cat_r, rb_cat_i, rb_cat_l]) d_M_carry_184 (fun x_11 σ_12 => ?_)
  refine rb_TC.mono (rk_istore (lv2 := [some (va_rf r0), some (.int x1), some (.int x2), some (.int x3), some (.int x4), some (.int x5), some (.int x6), none, some (.int x_11), none, none]) d_M_carry_187 (by decide) (fun _ => rb_one_n) rfl) ?_
  refine rb_TC.mono (rk_aload_n 0 d_M_carry_189 rfl rfl) ?_
  refine rb_TC.mono (rk_bipush (8 : Int32) d_M_carry_190 (by decide)) ?_
  refine rt_vI (As := [.int (8 : Int32)]) (st := []) (r0) vw_M_379 (s_M_option (Nat.le_refl _) (r0) ((8 : Int32)) σ_12) (Nat.le_trans (by decide) hdd) rfl (by simp [rb_cat_r, rb_cat_i, rb_cat_l]) d_M_carry_192 (fun x_13 σ_14 => ?_)
  refine rt_if_ne 228 d_M_carry_195 (by decide) (fun _ => ?_) (fun _ => ?_)
  · refine rb_TC.mono (rk_iload d_M_carry_198 rfl) ?_
    refine rt_if_ne 220 d_M_carry_200 (by decide) (fun _ => ?_) (fun _ => ?_)
    · refine rb_TC.mono (rk_aload_n 0 d_M_carry_203 rfl rfl) ?_
      refine rb_TC.mono (rk_iload_n 1 d_M_carry_204 rfl rfl) ?_
      refine rt_vI (As := [.int x1]) (st := []) (r0) vw_M_392 (s_M_isSilent (Nat.le_refl _) (r0) (x1) σ_14) (Nat.le_trans (by decide) hdd) rfl (by simp [rb_cat_r, rb_cat_i, rb_cat_l]) d_M_carry_205 (fun x_15 σ_16 => ?_)
      refine rt_if_ne 220 d_M_carry_208 (by decide) (fun _ => ?_) (fun _ => ?_)
      · refine rb_TC.mono (rk_aload_n 0 d_M_carry_211 rfl rfl) ?_
        refine rb_TC.mono (rk_bipush (32 : Int32) d_M_carry_212 (by decide)) ?_
        refine rt_vI (As := [.int (32 : Int32)]) (st := []) (r0) vw_M_379 (s_M_option (Nat.le_refl _) (r0) ((32 : Int32)) σ_16) (Nat.le_trans (by decide) hdd) rfl (by simp [rb_cat_r, rb_cat_i, rb_cat_l]) d_M_carry_214 (fun x_17 σ_18 => ?_)
        refine rt_if_eq 232 d_M_carry_217 (by decide) (fun _ => ?_) (fun _ => ?_)
        · refine rb_TC.mono (rk_less (lv2 := [some (va_rf r0), some (.int x1), none, none, some (.int x4), none, some (.int x6), none, some (.int x_11), none, none]) (rb_le_ok (rb_leS (rb_leS (rb_leN (rb_leN (rb_leS (rb_leN (rb_leS (rb_leN (rb_leS (rb_leN (rb_leN rb_le0))))))))))))) ?_
          exact t_M_carry_j232 hdd  (r0) (x1) (x4) (x6) (x_11) σ_18
        · refine rb_TC.mono (rk_less (lv2 := [some (va_rf r0), some (.int x1), none, none, some (.int x4), none, some (.int x6), none, some (.int x_11), none, none]) (rb_le_ok (rb_leS (rb_leS (rb_leN (rb_leN (rb_leS (rb_leN (rb_leS (rb_leN (rb_leS (rb_leN (rb_leN rb_le0))))))))))))) ?_
          exact t_M_carry_j220 hdd  (r0) (x1) (x4) (x6) (x_11) σ_18
      · refine rb_TC.mono (rk_less (lv2 := [some (va_rf r0), some (.int x1), none, none, some (.int x4), none, some (.int x6), none, some (.int x_11), none, none]) (rb_le_ok (rb_leS (rb_leS (rb_leN (rb_leN (rb_leS (rb_leN (rb_leS (rb_leN (rb_leS (rb_leN (rb_leN rb_le0))))))))))))) ?_
        exact t_M_carry_j220 hdd  (r0) (x1) (x4) (x6) (x_11) σ_16
    · refine rb_TC.mono (rk_less (lv2 := [some (va_rf r0), some (.int x1), none, none, some (.int x4), none, some (.int x6), none, some (.int x_11), none, none]) (rb_le_ok (rb_leS (rb_leS (rb_leN (rb_leN (rb_leS (rb_leN (rb_leS (rb_leN (rb_leS (rb_leN (rb_leN rb_le0))))))))))))) ?_
      exact t_M_carry_j220 hdd  (r0) (x1) (x4) (x6) (x_11) σ_14
  · refine rb_TC.mono (rk_less (lv2 := [some (va_rf r0), some (.int x1), none, none, some (.int x4), none, some (.int x6), none, some (.int x_11), none, none]) (rb_le_ok (rb_leS (rb_leS (rb_leN (rb_leN (rb_leS (rb_leN (rb_leS (rb_leN (rb_leS (rb_leN (rb_leN rb_le0))))))))))))) ?_
    exact t_M_carry_j228 hdd  (r0) (x1) (x4) (x6) (x_11) σ_14
noncomputable def f_M_carry_j143 (r0 : Option Nat) (x1 : Int32) (x2 : Int32) (x3 : Int32) (x4 : Int32) (x5 : Int32) (x6 : Int32) (σ : rb_St) : Option rb_Rs :=
  if x6 = 0 then ((rb_fc σ r0 13).bind fun _ => rb_cI (f_M_option (r0) ((8 : Int32)) σ) fun x_5 σ_6 => if x_5 = 0 then ((rb_fc σ_6 r0 13).bind fun _ => rb_cI (f_M_option (r0) ((4 : Int32)) σ_6) fun x_7 σ_8 => if x_7 = 0 then (f_M_carry_j175 (r0) (x1) (x2) (x3) (x4) (x5) (x6) σ_8) else ((rb_fc σ_8 r0 13).bind fun _ => rb_cI (f_M_option (r0) ((2 : Int32)) σ_8) fun x_37 σ_38 => if x_37 = 0 then (some (some (.int (1 : Int32)), σ_38)) else (f_M_carry_j175 (r0) (x1) (x2) (x3) (x4) (x5) (x6) σ_38))) else (some (some (.int (1 : Int32)), σ_6))) else (f_M_carry_j175 (r0) (x1) (x2) (x3) (x4) (x5) (x6) σ)
theorem t_M_carry_j143 {E : rb_EV} {d : Nat} {σ0 : rb_St} {res : rb_Rs} (hdd : 6 ≤ d)  (r0 : Option Nat) (x1 : Int32) (x2 : Int32) (x3 : Int32) (x4 : Int32) (x5 : Int32) (x6 : Int32) (σ : rb_St) : rb_TC (f_M_carry_j143 r0 x1 x2 x3 x4 x5 x6 σ) (fun r => r = res) (rb_WK E k_M_carry d σ0 res 143 [some (va_rf r0), some (.int x1), some (.int x2), some (.int x3), some (.int x4), some (.int x5), some (.int x6), none, none, none, none] [] σ) := by
  unfold f_M_carry_j143
  refine rb_TC.mono (rk_iload d_M_carry_143 rfl) ?_
  refine rt_if_ne 175 d_M_carry_145 (by decide) (fun _ => ?_) (fun _ => ?_)
  · refine rb_TC.mono (rk_aload_n 0 d_M_carry_148 rfl rfl) ?_
    refine rb_TC.mono (rk_bipush (8 : Int32) d_M_carry_149 (by decide)) ?_
    refine rt_vI (As := [.int (8 : Int32)]) (st := []) (r0) vw_M_379 (s_M_option (Nat.le_refl _) (r0) ((8 : Int32)) σ) (Nat.le_trans (by decide) hdd) rfl (by simp [rb_cat_r, rb_cat_i, rb_cat_l]) d_M_carry_151 (fun x_5 σ_6 => ?_)
    refine rt_if_ne 173 d_M_carry_154 (by decide) (fun _ => ?_) (fun _ => ?_)
    · refine rb_TC.mono (rk_aload_n 0 d_M_carry_157 rfl rfl) ?_
      refine rb_TC.mono (rk_iconst (4 : Int32) d_M_carry_158 (by decide)) ?_
      refine rt_vI (As := [.int (4 : Int32)]) (st := []) (r0) vw_M_379 (s_M_option (Nat.le_refl _) (r0) ((4 : Int32)) σ_6) (Nat.le_trans (by decide) hdd) rfl (by simp [rb_cat_r, rb_cat_i, rb_cat_l]) d_M_carry_159 (fun x_7 σ_8 => ?_)
      refine rt_if_eq 175 d_M_carry_162 (by decide) (fun _ => ?_) (fun _ => ?_)
      · exact t_M_carry_j175 hdd  (r0) (x1) (x2) (x3) (x4) (x5) (x6) σ_8
      · refine rb_TC.mono (rk_aload_n 0 d_M_carry_165 rfl rfl) ?_
        refine rb_TC.mono (rk_iconst (2 : Int32) d_M_carry_166 (by decide)) ?_
        refine rt_vI (As := [.int (2 : Int32)]) (st := []) (r0) vw_M_379 (s_M_option (Nat.le_refl _) (r0) ((2 : Int32)) σ_8) (Nat.le_trans (by decide) hdd) rfl (by simp [rb_cat_r, rb_cat_i, rb_cat_l]) d_M_carry_167 (fun x_37 σ_38 => ?_)
        refine rt_if_ne 175 d_M_carry_170 (by decide) (fun _ => ?_) (fun _ => ?_)
        · refine rb_TC.mono (rk_iconst (1 : Int32) d_M_carry_173 (by decide)) ?_
          exact rt_iret (ty := .boolean) rfl (by decide) (fun h => h) d_M_carry_174
        · exact t_M_carry_j175 hdd  (r0) (x1) (x2) (x3) (x4) (x5) (x6) σ_38
    · refine rb_TC.mono (rk_iconst (1 : Int32) d_M_carry_173 (by decide)) ?_
      exact rt_iret (ty := .boolean) rfl (by decide) (fun h => h) d_M_carry_174
  · exact t_M_carry_j175 hdd  (r0) (x1) (x2) (x3) (x4) (x5) (x6) σ
noncomputable def f_M_carry_j125 (r0 : Option Nat) (x1 : Int32) (x2 : Int32) (x3 : Int32) (x4 : Int32) (x5 : Int32) (x7 : Int32) (sx0 : Int32) (σ : rb_St) : Option ((Int32 × Int32 × Int32 × Int32 × Int32) ⊕ rb_Rs) :=
  if x7 = 0 then (some (.inl (x3, x4, x5, sx0, x7))) else (some (.inl ((x3 + (1 : Int32)), x4, x5, sx0, x7)))
theorem t_M_carry_j125 {E : rb_EV} {d : Nat} {σ0 : rb_St} {res : rb_Rs} (hdd : 6 ≤ d)  (r0 : Option Nat) (x1 : Int32) (x2 : Int32) (x3 : Int32) (x4 : Int32) (x5 : Int32) (x7 : Int32) (sx0 : Int32) (σ : rb_St) : rb_TC (f_M_carry_j125 r0 x1 x2 x3 x4 x5 x7 sx0 σ) (Sum.elim (fun z : (Int32 × Int32 × Int32 × Int32 × Int32) => rb_WK E k_M_carry d σ0 res 19 [some (va_rf r0), some (.int x1), some (.int x2), some (.int z.1), some (.int z.2.1), some (.int z.2.2.1), some (.int z.2.2.2.1), some (.int z.2.2.2.2), none, none, none] [] σ) (fun r => r = res)) (rb_WK E k_M_carry d σ0 res 125 [some (va_rf r0), some (.int x1), some (.int x2), some (.int x3), some (.int x4), some (.int x5), none, some (.int x7), none, none, none] [.int sx0] σ) := by
  unfold f_M_carry_j125
  refine rb_TC.mono (rk_istore (lv2 := [some (va_rf r0), some (.int x1), some (.int x2), some (.int x3), some (.int x4), some (.int x5), some (.int sx0), some (.int x7), none, none, none]) d_M_carry_125 (by decide) (fun _ => rb_one_i) rfl) ?_
  refine rb_TC.mono (rk_iload d_M_carry_127 rfl) ?_
  refine rt_if_eq 138 d_M_carry_129 (by decide) (fun _ => ?_) (fun _ => ?_)
  · refine rb_TC.mono (rk_iload_n 3 d_M_carry_138 rfl rfl) ?_
    refine rb_TC.mono (rk_istore_n (lv2 := [some (va_rf r0), some (.int x1), some (.int x2), some (.int x3), some (.int x4), some (.int x5), some (.int sx0), some (.int x7), none, none, none]) 3 d_M_carry_139 rfl (by decide) (fun _ => rb_one_i) rfl) ?_
    refine rb_TC.mono (rk_goto 19 d_M_carry_140 (by decide)) ?_
    exact rb_back
  · refine rb_TC.mono (rk_iload_n 3 d_M_carry_132 rfl rfl) ?_
    refine rb_TC.mono (rk_iconst (1 : Int32) d_M_carry_133 (by decide)) ?_
    refine rb_TC.mono (rk_iadd d_M_carry_134) ?_
    refine rb_TC.mono (rk_goto 139 d_M_carry_135 (by decide)) ?_
    refine rb_TC.mono (rk_istore_n (lv2 := [some (va_rf r0), some (.int x1), some (.int x2), some (.int (x3 + (1 : Int32))), some (.int x4), some (.int x5), some (.int sx0), some (.int x7), none, none, none]) 3 d_M_carry_139 rfl (by decide) (fun _ => rb_one_i) rfl) ?_
    refine rb_TC.mono (rk_goto 19 d_M_carry_140 (by decide)) ?_
    exact rb_back
noncomputable def f_M_carry_j120 (r0 : Option Nat) (x1 : Int32) (x2 : Int32) (x3 : Int32) (x4 : Int32) (x5 : Int32) (x7 : Int32) (σ : rb_St) : Option ((Int32 × Int32 × Int32 × Int32 × Int32) ⊕ rb_Rs) :=
  f_M_carry_j125 (r0) (x1) (x2) (x3) (x4) (x5) (x7) ((1 : Int32)) σ
theorem t_M_carry_j120 {E : rb_EV} {d : Nat} {σ0 : rb_St} {res : rb_Rs} (hdd : 6 ≤ d)  (r0 : Option Nat) (x1 : Int32) (x2 : Int32) (x3 : Int32) (x4 : Int32) (x5 : Int32) (x7 : Int32) (σ : rb_St) : rb_TC (f_M_carry_j120 r0 x1 x2 x3 x4 x5 x7 σ) (Sum.elim (fun z : (Int32 × Int32 × Int32 × Int32 × Int32) => rb_WK E k_M_carry d σ0 res 19 [some (va_rf r0), some (.int x1), some (.int x2), some (.int z.1), some (.int z.2.1), some (.int z.2.2.1), some (.int z.2.2.2.1), some (.int z.2.2.2.2), none, none, none] [] σ) (fun r => r = res)) (rb_WK E k_M_carry d σ0 res 120 [some (va_rf r0), some (.int x1), some (.int x2), some (.int x3), some (.int x4), some (.int x5), none, some (.int x7), none, none, none] [] σ) := by
  unfold f_M_carry_j120
  refine rb_TC.mono (rk_iconst (1 : Int32) d_M_carry_120 (by decide)) ?_
  refine rb_TC.mono (rk_goto 125 d_M_carry_121 (by decide)) ?_
  exact t_M_carry_j125 hdd  (r0) (x1) (x2) (x3) (x4) (x5) (x7) ((1 : Int32)) σ
noncomputable def f_M_carry_j106 (r0 : Option Nat) (x1 : Int32) (x2 : Int32) (x3 : Int32) (x4 : Int32) (x6 : Int32) (x7 : Int32) (x8 : Int32) (sx0 : Int32) (σ : rb_St) : Option ((Int32 × Int32 × Int32 × Int32 × Int32) ⊕ rb_Rs) :=
  if x6 = 0 then (if x8 = (43 : Int32) then (f_M_carry_j120 (r0) (x1) (x2) (x3) (x4) (sx0) (x7) σ) else (f_M_carry_j125 (r0) (x1) (x2) (x3) (x4) (sx0) (x7) ((0 : Int32)) σ)) else (f_M_carry_j120 (r0) (x1) (x2) (x3) (x4) (sx0) (x7) σ)
theorem t_M_carry_j106 {E : rb_EV} {d : Nat} {σ0 : rb_St} {res : rb_Rs} (hdd : 6 ≤ d)  (r0 : Option Nat) (x1 : Int32) (x2 : Int32) (x3 : Int32) (x4 : Int32) (x6 : Int32) (x7 : Int32) (x8 : Int32) (sx0 : Int32) (σ : rb_St) : rb_TC (f_M_carry_j106 r0 x1 x2 x3 x4 x6 x7 x8 sx0 σ) (Sum.elim (fun z : (Int32 × Int32 × Int32 × Int32 × Int32) => rb_WK E k_M_carry d σ0 res 19 [some (va_rf r0), some (.int x1), some (.int x2), some (.int z.1), some (.int z.2.1), some (.int z.2.2.1), some (.int z.2.2.2.1), some (.int z.2.2.2.2), none, none, none] [] σ) (fun r => r = res)) (rb_WK E k_M_carry d σ0 res 106 [some (va_rf r0), some (.int x1), some (.int x2), some (.int x3), some (.int x4), none, some (.int x6), some (.int x7), some (.int x8), none, none] [.int sx0] σ) := by
  unfold f_M_carry_j106
  refine rb_TC.mono (rk_istore (lv2 := [some (va_rf r0), some (.int x1), some (.int x2), some (.int x3), some (.int x4), some (.int sx0), some (.int x6), some (.int x7), some (.int x8), none, none]) d_M_carry_106 (by decide) (fun _ => rb_one_i) rfl) ?_
  refine rb_TC.mono (rk_iload d_M_carry_108 rfl) ?_
  refine rt_if_ne 120 d_M_carry_110 (by decide) (fun _ => ?_) (fun _ => ?_)
  · refine rb_TC.mono (rk_iload d_M_carry_113 rfl) ?_
    refine rb_TC.mono (rk_bipush (43 : Int32) d_M_carry_115 (by decide)) ?_
    refine rt_icmp_ne 124 d_M_carry_117 (by decide) (fun _ => ?_) (fun _ => ?_)
    · refine rb_TC.mono (rk_less (lv2 := [some (va_rf r0), some (.int x1), some (.int x2), some (.int x3), some (.int x4), some (.int sx0), none, some (.int x7), none, none, none]) (rb_le_ok (rb_leS (rb_leS (rb_leS (rb_leS (rb_leS (rb_leS (rb_leN (rb_leS (rb_leN (rb_leN (rb_leN rb_le0))))))))))))) ?_
      exact t_M_carry_j120 hdd  (r0) (x1) (x2) (x3) (x4) (sx0) (x7) σ
    · refine rb_TC.mono (rk_iconst (0 : Int32) d_M_carry_124 (by decide)) ?_
      refine rb_TC.mono (rk_less (lv2 := [some (va_rf r0), some (.int x1), some (.int x2), some (.int x3), some (.int x4), some (.int sx0), none, some (.int x7), none, none, none]) (rb_le_ok (rb_leS (rb_leS (rb_leS (rb_leS (rb_leS (rb_leS (rb_leN (rb_leS (rb_leN (rb_leN (rb_leN rb_le0))))))))))))) ?_
      exact t_M_carry_j125 hdd  (r0) (x1) (x2) (x3) (x4) (sx0) (x7) ((0 : Int32)) σ
  · refine rb_TC.mono (rk_less (lv2 := [some (va_rf r0), some (.int x1), some (.int x2), some (.int x3), some (.int x4), some (.int sx0), none, some (.int x7), none, none, none]) (rb_le_ok (rb_leS (rb_leS (rb_leS (rb_leS (rb_leS (rb_leS (rb_leN (rb_leS (rb_leN (rb_leN (rb_leN rb_le0))))))))))))) ?_
    exact t_M_carry_j120 hdd  (r0) (x1) (x2) (x3) (x4) (sx0) (x7) σ
noncomputable def f_M_carry_j101 (r0 : Option Nat) (x1 : Int32) (x2 : Int32) (x3 : Int32) (x4 : Int32) (x6 : Int32) (x7 : Int32) (x8 : Int32) (σ : rb_St) : Option ((Int32 × Int32 × Int32 × Int32 × Int32) ⊕ rb_Rs) :=
  f_M_carry_j106 (r0) (x1) (x2) (x3) (x4) (x6) (x7) (x8) ((1 : Int32)) σ
theorem t_M_carry_j101 {E : rb_EV} {d : Nat} {σ0 : rb_St} {res : rb_Rs} (hdd : 6 ≤ d)  (r0 : Option Nat) (x1 : Int32) (x2 : Int32) (x3 : Int32) (x4 : Int32) (x6 : Int32) (x7 : Int32) (x8 : Int32) (σ : rb_St) : rb_TC (f_M_carry_j101 r0 x1 x2 x3 x4 x6 x7 x8 σ) (Sum.elim (fun z : (Int32 × Int32 × Int32 × Int32 × Int32) => rb_WK E k_M_carry d σ0 res 19 [some (va_rf r0), some (.int x1), some (.int x2), some (.int z.1), some (.int z.2.1), some (.int z.2.2.1), some (.int z.2.2.2.1), some (.int z.2.2.2.2), none, none, none] [] σ) (fun r => r = res)) (rb_WK E k_M_carry d σ0 res 101 [some (va_rf r0), some (.int x1), some (.int x2), some (.int x3), some (.int x4), none, some (.int x6), some (.int x7), some (.int x8), none, none] [] σ) := by
  unfold f_M_carry_j101
  refine rb_TC.mono (rk_iconst (1 : Int32) d_M_carry_101 (by decide)) ?_
  refine rb_TC.mono (rk_goto 106 d_M_carry_102 (by decide)) ?_
  exact t_M_carry_j106 hdd  (r0) (x1) (x2) (x3) (x4) (x6) (x7) (x8) ((1 : Int32)) σ
noncomputable def f_M_carry_j87 (r0 : Option Nat) (x1 : Int32) (x2 : Int32) (x3 : Int32) (x5 : Int32) (x6 : Int32) (x7 : Int32) (x8 : Int32) (sx0 : Int32) (σ : rb_St) : Option ((Int32 × Int32 × Int32 × Int32 × Int32) ⊕ rb_Rs) :=
  if x5 = 0 then (if x8 = (64 : Int32) then (f_M_carry_j101 (r0) (x1) (x2) (x3) (sx0) (x6) (x7) (x8) σ) else (f_M_carry_j106 (r0) (x1) (x2) (x3) (sx0) (x6) (x7) (x8) ((0 : Int32)) σ)) else (f_M_carry_j101 (r0) (x1) (x2) (x3) (sx0) (x6) (x7) (x8) σ)
theorem t_M_carry_j87 {E : rb_EV} {d : Nat} {σ0 : rb_St} {res : rb_Rs} (hdd : 6 ≤ d)  (r0 : Option Nat) (x1 : Int32) (x2 : Int32) (x3 : Int32) (x5 : Int32) (x6 : Int32) (x7 : Int32) (x8 : Int32) (sx0 : Int32) (σ : rb_St) : rb_TC (f_M_carry_j87 r0 x1 x2 x3 x5 x6 x7 x8 sx0 σ) (Sum.elim (fun z : (Int32 × Int32 × Int32 × Int32 × Int32) => rb_WK E k_M_carry d σ0 res 19 [some (va_rf r0), some (.int x1), some (.int x2), some (.int z.1), some (.int z.2.1), some (.int z.2.2.1), some (.int z.2.2.2.1), some (.int z.2.2.2.2), none, none, none] [] σ) (fun r => r = res)) (rb_WK E k_M_carry d σ0 res 87 [some (va_rf r0), some (.int x1), some (.int x2), some (.int x3), none, some (.int x5), some (.int x6), some (.int x7), some (.int x8), none, none] [.int sx0] σ) := by
  unfold f_M_carry_j87
  refine rb_TC.mono (rk_istore (lv2 := [some (va_rf r0), some (.int x1), some (.int x2), some (.int x3), some (.int sx0), some (.int x5), some (.int x6), some (.int x7), some (.int x8), none, none]) d_M_carry_87 (by decide) (fun _ => rb_one_i) rfl) ?_
  refine rb_TC.mono (rk_iload d_M_carry_89 rfl) ?_
  refine rt_if_ne 101 d_M_carry_91 (by decide) (fun _ => ?_) (fun _ => ?_)
  · refine rb_TC.mono (rk_iload d_M_carry_94 rfl) ?_
    refine rb_TC.mono (rk_bipush (64 : Int32) d_M_carry_96 (by decide)) ?_
    refine rt_icmp_ne 105 d_M_carry_98 (by decide) (fun _ => ?_) (fun _ => ?_)
    · refine rb_TC.mono (rk_less (lv2 := [some (va_rf r0), some (.int x1), some (.int x2), some (.int x3), some (.int sx0), none, some (.int x6), some (.int x7), some (.int x8), none, none]) (rb_le_ok (rb_leS (rb_leS (rb_leS (rb_leS (rb_leS (rb_leN (rb_leS (rb_leS (rb_leS (rb_leN (rb_leN rb_le0))))))))))))) ?_
      exact t_M_carry_j101 hdd  (r0) (x1) (x2) (x3) (sx0) (x6) (x7) (x8) σ
    · refine rb_TC.mono (rk_iconst (0 : Int32) d_M_carry_105 (by decide)) ?_
      refine rb_TC.mono (rk_less (lv2 := [some (va_rf r0), some (.int x1), some (.int x2), some (.int x3), some (.int sx0), none, some (.int x6), some (.int x7), some (.int x8), none, none]) (rb_le_ok (rb_leS (rb_leS (rb_leS (rb_leS (rb_leS (rb_leN (rb_leS (rb_leS (rb_leS (rb_leN (rb_leN rb_le0))))))))))))) ?_
      exact t_M_carry_j106 hdd  (r0) (x1) (x2) (x3) (sx0) (x6) (x7) (x8) ((0 : Int32)) σ
  · refine rb_TC.mono (rk_less (lv2 := [some (va_rf r0), some (.int x1), some (.int x2), some (.int x3), some (.int sx0), none, some (.int x6), some (.int x7), some (.int x8), none, none]) (rb_le_ok (rb_leS (rb_leS (rb_leS (rb_leS (rb_leS (rb_leN (rb_leS (rb_leS (rb_leS (rb_leN (rb_leN rb_le0))))))))))))) ?_
    exact t_M_carry_j101 hdd  (r0) (x1) (x2) (x3) (sx0) (x6) (x7) (x8) σ
noncomputable def f_M_carry_j82 (r0 : Option Nat) (x1 : Int32) (x2 : Int32) (x3 : Int32) (x5 : Int32) (x6 : Int32) (x7 : Int32) (x8 : Int32) (σ : rb_St) : Option ((Int32 × Int32 × Int32 × Int32 × Int32) ⊕ rb_Rs) :=
  f_M_carry_j87 (r0) (x1) (x2) (x3) (x5) (x6) (x7) (x8) ((1 : Int32)) σ
theorem t_M_carry_j82 {E : rb_EV} {d : Nat} {σ0 : rb_St} {res : rb_Rs} (hdd : 6 ≤ d)  (r0 : Option Nat) (x1 : Int32) (x2 : Int32) (x3 : Int32) (x5 : Int32) (x6 : Int32) (x7 : Int32) (x8 : Int32) (σ : rb_St) : rb_TC (f_M_carry_j82 r0 x1 x2 x3 x5 x6 x7 x8 σ) (Sum.elim (fun z : (Int32 × Int32 × Int32 × Int32 × Int32) => rb_WK E k_M_carry d σ0 res 19 [some (va_rf r0), some (.int x1), some (.int x2), some (.int z.1), some (.int z.2.1), some (.int z.2.2.1), some (.int z.2.2.2.1), some (.int z.2.2.2.2), none, none, none] [] σ) (fun r => r = res)) (rb_WK E k_M_carry d σ0 res 82 [some (va_rf r0), some (.int x1), some (.int x2), some (.int x3), none, some (.int x5), some (.int x6), some (.int x7), some (.int x8), none, none] [] σ) := by
  unfold f_M_carry_j82
  refine rb_TC.mono (rk_iconst (1 : Int32) d_M_carry_82 (by decide)) ?_
  refine rb_TC.mono (rk_goto 87 d_M_carry_83 (by decide)) ?_
  exact t_M_carry_j87 hdd  (r0) (x1) (x2) (x3) (x5) (x6) (x7) (x8) ((1 : Int32)) σ
noncomputable def f_M_carry_j68 (r0 : Option Nat) (x1 : Int32) (x2 : Int32) (x3 : Int32) (x4 : Int32) (x5 : Int32) (x6 : Int32) (x8 : Int32) (sx0 : Int32) (σ : rb_St) : Option ((Int32 × Int32 × Int32 × Int32 × Int32) ⊕ rb_Rs) :=
  if x4 = 0 then (if x8 = (45 : Int32) then (f_M_carry_j82 (r0) (x1) (x2) (x3) (x5) (x6) (sx0) (x8) σ) else (f_M_carry_j87 (r0) (x1) (x2) (x3) (x5) (x6) (sx0) (x8) ((0 : Int32)) σ)) else (f_M_carry_j82 (r0) (x1) (x2) (x3) (x5) (x6) (sx0) (x8) σ)
theorem t_M_carry_j68 {E : rb_EV} {d : Nat} {σ0 : rb_St} {res : rb_Rs} (hdd : 6 ≤ d)  (r0 : Option Nat) (x1 : Int32) (x2 : Int32) (x3 : Int32) (x4 : Int32) (x5 : Int32) (x6 : Int32) (x8 : Int32) (sx0 : Int32) (σ : rb_St) : rb_TC (f_M_carry_j68 r0 x1 x2 x3 x4 x5 x6 x8 sx0 σ) (Sum.elim (fun z : (Int32 × Int32 × Int32 × Int32 × Int32) => rb_WK E k_M_carry d σ0 res 19 [some (va_rf r0), some (.int x1), some (.int x2), some (.int z.1), some (.int z.2.1), some (.int z.2.2.1), some (.int z.2.2.2.1), some (.int z.2.2.2.2), none, none, none] [] σ) (fun r => r = res)) (rb_WK E k_M_carry d σ0 res 68 [some (va_rf r0), some (.int x1), some (.int x2), some (.int x3), some (.int x4), some (.int x5), some (.int x6), none, some (.int x8), none, none] [.int sx0] σ) := by
  unfold f_M_carry_j68
  refine rb_TC.mono (rk_istore (lv2 := [some (va_rf r0), some (.int x1), some (.int x2), some (.int x3), some (.int x4), some (.int x5), some (.int x6), some (.int sx0), some (.int x8), none, none]) d_M_carry_68 (by decide) (fun _ => rb_one_i) rfl) ?_
  refine rb_TC.mono (rk_iload d_M_carry_70 rfl) ?_
  refine rt_if_ne 82 d_M_carry_72 (by decide) (fun _ => ?_) (fun _ => ?_)
  · refine rb_TC.mono (rk_iload d_M_carry_75 rfl) ?_
    refine rb_TC.mono (rk_bipush (45 : Int32) d_M_carry_77 (by decide)) ?_
    refine rt_icmp_ne 86 d_M_carry_79 (by decide) (fun _ => ?_) (fun _ => ?_)
    · refine rb_TC.mono (rk_less (lv2 := [some (va_rf r0), some (.int x1), some (.int x2), some (.int x3), none, some (.int x5), some (.int x6), some (.int sx0), some (.int x8), none, none]) (rb_le_ok (rb_leS (rb_leS (rb_leS (rb_leS (rb_leN (rb_leS (rb_leS (rb_leS (rb_leS (rb_leN (rb_leN rb_le0))))))))))))) ?_
      exact t_M_carry_j82 hdd  (r0) (x1) (x2) (x3) (x5) (x6) (sx0) (x8) σ
    · refine rb_TC.mono (rk_iconst (0 : Int32) d_M_carry_86 (by decide)) ?_
      refine rb_TC.mono (rk_less (lv2 := [some (va_rf r0), some (.int x1), some (.int x2), some (.int x3), none, some (.int x5), some (.int x6), some (.int sx0), some (.int x8), none, none]) (rb_le_ok (rb_leS (rb_leS (rb_leS (rb_leS (rb_leN (rb_leS (rb_leS (rb_leS (rb_leS (rb_leN (rb_leN rb_le0))))))))))))) ?_
      exact t_M_carry_j87 hdd  (r0) (x1) (x2) (x3) (x5) (x6) (sx0) (x8) ((0 : Int32)) σ
  · refine rb_TC.mono (rk_less (lv2 := [some (va_rf r0), some (.int x1), some (.int x2), some (.int x3), none, some (.int x5), some (.int x6), some (.int sx0), some (.int x8), none, none]) (rb_le_ok (rb_leS (rb_leS (rb_leS (rb_leS (rb_leN (rb_leS (rb_leS (rb_leS (rb_leS (rb_leN (rb_leN rb_le0))))))))))))) ?_
    exact t_M_carry_j82 hdd  (r0) (x1) (x2) (x3) (x5) (x6) (sx0) (x8) σ
noncomputable def f_M_carry_j63 (r0 : Option Nat) (x1 : Int32) (x2 : Int32) (x3 : Int32) (x4 : Int32) (x5 : Int32) (x6 : Int32) (x8 : Int32) (σ : rb_St) : Option ((Int32 × Int32 × Int32 × Int32 × Int32) ⊕ rb_Rs) :=
  f_M_carry_j68 (r0) (x1) (x2) (x3) (x4) (x5) (x6) (x8) ((1 : Int32)) σ
theorem t_M_carry_j63 {E : rb_EV} {d : Nat} {σ0 : rb_St} {res : rb_Rs} (hdd : 6 ≤ d)  (r0 : Option Nat) (x1 : Int32) (x2 : Int32) (x3 : Int32) (x4 : Int32) (x5 : Int32) (x6 : Int32) (x8 : Int32) (σ : rb_St) : rb_TC (f_M_carry_j63 r0 x1 x2 x3 x4 x5 x6 x8 σ) (Sum.elim (fun z : (Int32 × Int32 × Int32 × Int32 × Int32) => rb_WK E k_M_carry d σ0 res 19 [some (va_rf r0), some (.int x1), some (.int x2), some (.int z.1), some (.int z.2.1), some (.int z.2.2.1), some (.int z.2.2.2.1), some (.int z.2.2.2.2), none, none, none] [] σ) (fun r => r = res)) (rb_WK E k_M_carry d σ0 res 63 [some (va_rf r0), some (.int x1), some (.int x2), some (.int x3), some (.int x4), some (.int x5), some (.int x6), none, some (.int x8), none, none] [] σ) := by
  unfold f_M_carry_j63
  refine rb_TC.mono (rk_iconst (1 : Int32) d_M_carry_63 (by decide)) ?_
  refine rb_TC.mono (rk_goto 68 d_M_carry_64 (by decide)) ?_
  exact t_M_carry_j68 hdd  (r0) (x1) (x2) (x3) (x4) (x5) (x6) (x8) ((1 : Int32)) σ
noncomputable def f_M_carry_b19 (r0 : Option Nat) (x1 : Int32) (x2 : Int32) (x3 : Int32) (x4 : Int32) (x5 : Int32) (x6 : Int32) (x7 : Int32) (σ : rb_St) : Option ((Int32 × Int32 × Int32 × Int32 × Int32) ⊕ rb_Rs) :=
  (rb_gR σ r0 13 31).bind fun r_3 => (rb_aI σ r_3 102 x2).bind fun x_4 => if x_4 ≤ x3 then ((f_M_carry_j143 (r0) (x1) (x2) (x3) (x4) (x5) (x6) σ).map Sum.inr) else (if x7 = 0 then ((f_M_carry_j143 (r0) (x1) (x2) (x3) (x4) (x5) (x6) σ).map Sum.inr) else ((rb_gR σ r0 13 14).bind fun r_39 => (rb_aI σ r_39 102 x3).bind fun x_40 => if x_40 = (45 : Int32) then (f_M_carry_j63 (r0) (x1) (x2) (x3) (x4) (x5) (x6) (x_40) σ) else (if x_40 = (64 : Int32) then (f_M_carry_j63 (r0) (x1) (x2) (x3) (x4) (x5) (x6) (x_40) σ) else (if x_40 = (43 : Int32) then (f_M_carry_j63 (r0) (x1) (x2) (x3) (x4) (x5) (x6) (x_40) σ) else (f_M_carry_j68 (r0) (x1) (x2) (x3) (x4) (x5) (x6) (x_40) ((0 : Int32)) σ)))))
theorem t_M_carry_b19 {E : rb_EV} {d : Nat} {σ0 : rb_St} {res : rb_Rs} (hdd : 6 ≤ d)  (r0 : Option Nat) (x1 : Int32) (x2 : Int32) (x3 : Int32) (x4 : Int32) (x5 : Int32) (x6 : Int32) (x7 : Int32) (σ : rb_St) : rb_TC (f_M_carry_b19 r0 x1 x2 x3 x4 x5 x6 x7 σ) (Sum.elim (fun z : (Int32 × Int32 × Int32 × Int32 × Int32) => rb_WK E k_M_carry d σ0 res 19 [some (va_rf r0), some (.int x1), some (.int x2), some (.int z.1), some (.int z.2.1), some (.int z.2.2.1), some (.int z.2.2.2.1), some (.int z.2.2.2.2), none, none, none] [] σ) (fun r => r = res)) (rb_WK E k_M_carry d σ0 res 19 [some (va_rf r0), some (.int x1), some (.int x2), some (.int x3), some (.int x4), some (.int x5), some (.int x6), some (.int x7), none, none, none] [] σ) := by
  unfold f_M_carry_b19
  refine rb_TC.mono (rk_iload_n 3 d_M_carry_19 rfl rfl) ?_
  refine rb_TC.mono (rk_aload_n 0 d_M_carry_20 rfl rfl) ?_
  refine rt_gR r0 fw_M_78 d_M_carry_21 (fun r_3 => ?_)
  refine rb_TC.mono (rk_iload_n 2 d_M_carry_24 rfl rfl) ?_
  refine rt_iald r_3 d_M_carry_25 (fun x_4 => ?_)
  refine rt_icmp_ge 143 d_M_carry_26 (by decide) (fun _ => ?_) (fun _ => ?_)
  · refine rb_TC.out ?_
    refine rb_TC.mono (rk_less (lv2 := [some (va_rf r0), some (.int x1), some (.int x2), some (.int x3), some (.int x4), some (.int x5), some (.int x6), none, none, none, none]) (rb_le_ok (rb_leS (rb_leS (rb_leS (rb_leS (rb_leS (rb_leS (rb_leS (rb_leN (rb_leN (rb_leN (rb_leN rb_le0))))))))))))) ?_
    exact t_M_carry_j143 hdd  (r0) (x1) (x2) (x3) (x4) (x5) (x6) σ
  · refine rb_TC.mono (rk_iload d_M_carry_29 rfl) ?_
    refine rt_if_eq 143 d_M_carry_31 (by decide) (fun _ => ?_) (fun _ => ?_)
    · refine rb_TC.out ?_
      refine rb_TC.mono (rk_less (lv2 := [some (va_rf r0), some (.int x1), some (.int x2), some (.int x3), some (.int x4), some (.int x5), some (.int x6), none, none, none, none]) (rb_le_ok (rb_leS (rb_leS (rb_leS (rb_leS (rb_leS (rb_leS (rb_leS (rb_leN (rb_leN (rb_leN (rb_leN rb_le0))))))))))))) ?_
      exact t_M_carry_j143 hdd  (r0) (x1) (x2) (x3) (x4) (x5) (x6) σ
    · refine rb_TC.mono (rk_aload_n 0 d_M_carry_34 rfl rfl) ?_
      refine rt_gR r0 fw_M_45 d_M_carry_35 (fun r_39 => ?_)
      refine rb_TC.mono (rk_iload_n 3 d_M_carry_38 rfl rfl) ?_
      refine rt_iald r_39 d_M_carry_39 (fun x_40 => ?_)
      refine rb_TC.mono (rk_istore (lv2 := [some (va_rf r0), some (.int x1), some (.int x2), some (.int x3), some (.int x4), some (.int x5), some (.int x6), some (.int x7), some (.int x_40), none, none]) d_M_carry_40 (by decide) (fun _ => rb_one_i) rfl) ?_
      refine rb_TC.mono (rk_iload d_M_carry_42 rfl) ?_
      refine rb_TC.mono (rk_bipush (45 : Int32) d_M_carry_44 (by decide)) ?_
      refine rt_icmp_eq 63 d_M_carry_46 (by decide) (fun _ => ?_) (fun _ => ?_)
      · refine rb_TC.mono (rk_less (lv2 := [some (va_rf r0), some (.int x1), some (.int x2), some (.int x3), some (.int x4), some (.int x5), some (.int x6), none, some (.int x_40), none, none]) (rb_le_ok (rb_leS (rb_leS (rb_leS (rb_leS (rb_leS (rb_leS (rb_leS (rb_leN (rb_leS (rb_leN (rb_leN rb_le0))))))))))))) ?_
        exact t_M_carry_j63 hdd  (r0) (x1) (x2) (x3) (x4) (x5) (x6) (x_40) σ
      · refine rb_TC.mono (rk_iload d_M_carry_49 rfl) ?_
        refine rb_TC.mono (rk_bipush (64 : Int32) d_M_carry_51 (by decide)) ?_
        refine rt_icmp_eq 63 d_M_carry_53 (by decide) (fun _ => ?_) (fun _ => ?_)
        · refine rb_TC.mono (rk_less (lv2 := [some (va_rf r0), some (.int x1), some (.int x2), some (.int x3), some (.int x4), some (.int x5), some (.int x6), none, some (.int x_40), none, none]) (rb_le_ok (rb_leS (rb_leS (rb_leS (rb_leS (rb_leS (rb_leS (rb_leS (rb_leN (rb_leS (rb_leN (rb_leN rb_le0))))))))))))) ?_
          exact t_M_carry_j63 hdd  (r0) (x1) (x2) (x3) (x4) (x5) (x6) (x_40) σ
        · refine rb_TC.mono (rk_iload d_M_carry_56 rfl) ?_
          refine rb_TC.mono (rk_bipush (43 : Int32) d_M_carry_58 (by decide)) ?_
          refine rt_icmp_ne 67 d_M_carry_60 (by decide) (fun _ => ?_) (fun _ => ?_)
          · refine rb_TC.mono (rk_less (lv2 := [some (va_rf r0), some (.int x1), some (.int x2), some (.int x3), some (.int x4), some (.int x5), some (.int x6), none, some (.int x_40), none, none]) (rb_le_ok (rb_leS (rb_leS (rb_leS (rb_leS (rb_leS (rb_leS (rb_leS (rb_leN (rb_leS (rb_leN (rb_leN rb_le0))))))))))))) ?_
            exact t_M_carry_j63 hdd  (r0) (x1) (x2) (x3) (x4) (x5) (x6) (x_40) σ
          · refine rb_TC.mono (rk_iconst (0 : Int32) d_M_carry_67 (by decide)) ?_
            refine rb_TC.mono (rk_less (lv2 := [some (va_rf r0), some (.int x1), some (.int x2), some (.int x3), some (.int x4), some (.int x5), some (.int x6), none, some (.int x_40), none, none]) (rb_le_ok (rb_leS (rb_leS (rb_leS (rb_leS (rb_leS (rb_leS (rb_leS (rb_leN (rb_leS (rb_leN (rb_leN rb_le0))))))))))))) ?_
            exact t_M_carry_j68 hdd  (r0) (x1) (x2) (x3) (x4) (x5) (x6) (x_40) ((0 : Int32)) σ
noncomputable def f_M_carry (r0 : Option Nat) (x1 : Int32) (x2 : Int32) (σ : rb_St) : Option rb_Rs :=
  (rb_gR σ r0 13 30).bind fun r_1 => (rb_aI σ r_1 102 x2).bind fun x_2 => rb_it (fun z : (Int32 × Int32 × Int32 × Int32 × Int32) => f_M_carry_b19 (r0) (x1) (x2) (z.1) (z.2.1) (z.2.2.1) (z.2.2.2.1) (z.2.2.2.2) σ) (x_2, (0 : Int32), (0 : Int32), (0 : Int32), (1 : Int32))
theorem s_M_carry {E : rb_EV} {d : Nat} (hdd : 6 ≤ d) (r0 : Option Nat) (x1 : Int32) (x2 : Int32) (σ : rb_St) : rb_Does E k_M_carry d [va_rf r0, .int x1, .int x2] σ (f_M_carry r0 x1 x2 σ) := by
  refine rb_start (lv := [some (va_rf r0), some (.int x1), some (.int x2), none, none, none, none, none, none, none, none]) (by decide) (by simp [lg_sl, rb_as, lv_args, rb_cat_r, rb_cat_i, rb_cat_l, rb_nL, k_M_carry]) (fun res => ?_)
  unfold f_M_carry
  refine rb_TC.mono (rk_aload_n 0 d_M_carry_0 rfl rfl) ?_
  refine rt_gR r0 fw_M_75 d_M_carry_1 (fun r_1 => ?_)
  refine rb_TC.mono (rk_iload_n 2 d_M_carry_4 rfl rfl) ?_
  refine rt_iald r_1 d_M_carry_5 (fun x_2 => ?_)
  refine rb_TC.mono (rk_istore_n (lv2 := [some (va_rf r0), some (.int x1), some (.int x2), some (.int x_2), none, none, none, none, none, none, none]) 3 d_M_carry_6 rfl (by decide) (fun _ => rb_one_i) rfl) ?_
  refine rb_TC.mono (rk_iconst (0 : Int32) d_M_carry_7 (by decide)) ?_
  refine rb_TC.mono (rk_istore (lv2 := [some (va_rf r0), some (.int x1), some (.int x2), some (.int x_2), some (.int (0 : Int32)), none, none, none, none, none, none]) d_M_carry_8 (by decide) (fun _ => rb_one_i) rfl) ?_
  refine rb_TC.mono (rk_iconst (0 : Int32) d_M_carry_10 (by decide)) ?_
  refine rb_TC.mono (rk_istore (lv2 := [some (va_rf r0), some (.int x1), some (.int x2), some (.int x_2), some (.int (0 : Int32)), some (.int (0 : Int32)), none, none, none, none, none]) d_M_carry_11 (by decide) (fun _ => rb_one_i) rfl) ?_
  refine rb_TC.mono (rk_iconst (0 : Int32) d_M_carry_13 (by decide)) ?_
  refine rb_TC.mono (rk_istore (lv2 := [some (va_rf r0), some (.int x1), some (.int x2), some (.int x_2), some (.int (0 : Int32)), some (.int (0 : Int32)), some (.int (0 : Int32)), none, none, none, none]) d_M_carry_14 (by decide) (fun _ => rb_one_i) rfl) ?_
  refine rb_TC.mono (rk_iconst (1 : Int32) d_M_carry_16 (by decide)) ?_
  refine rb_TC.mono (rk_istore (lv2 := [some (va_rf r0), some (.int x1), some (.int x2), some (.int x_2), some (.int (0 : Int32)), some (.int (0 : Int32)), some (.int (0 : Int32)), some (.int (1 : Int32)), none, none, none]) d_M_carry_17 (by decide) (fun _ => rb_one_i) rfl) ?_
  exact rb_TC.loop2 (A := (fun z : (Int32 × Int32 × Int32 × Int32 × Int32) => rb_WK E k_M_carry d σ res 19 [some (va_rf r0), some (.int x1), some (.int x2), some (.int z.1), some (.int z.2.1), some (.int z.2.2.1), some (.int z.2.2.2.1), some (.int z.2.2.2.2), none, none, none] [] σ)) (x_2, (0 : Int32), (0 : Int32), (0 : Int32), (1 : Int32)) (fun z => t_M_carry_b19 hdd  (r0) (x1) (x2) (z.1) (z.2.1) (z.2.2.1) (z.2.2.2.1) (z.2.2.2.2) σ)
-- ===== RuleBuilderModel.carryOut(I)Z
def k_M_carryOut : rb_MK := (⟨"RuleBuilderModel", "carryOut", "(I)Z"⟩, prog_14_method_52_code, 5, some (.boolean))
theorem mw_M_carryOut : rb_Mw k_M_carryOut 1 := ⟨rb_inG 1646 (by decide +kernel) rfl, rb_inG 94 (by decide +kernel) rfl, ⟨by decide, by decide, by decide +kernel⟩, by decide⟩
theorem vw_M_397 : rb_Vw "RuleBuilderModel" 397 k_M_printWord 13 1 := ⟨mw_M_printWord, rb_inG 1652 (by decide +kernel) rfl, rb_inG 1654 (by decide +kernel) rfl, rb_inG 76 (by decide +kernel) rfl, by decide, by decide, _, rfl, rfl⟩
theorem vw_M_404 : rb_Vw "RuleBuilderModel" 404 k_M_carry 13 2 := ⟨mw_M_carry, rb_inG 1660 (by decide +kernel) rfl, rb_inG 1662 (by decide +kernel) rfl, rb_inG 78 (by decide +kernel) rfl, by decide, by decide, _, rfl, rfl⟩
theorem d_M_carryOut_0 : decode prog_14_method_52_code 0 = .ok (.iconst 0, 1) := by decide +kernel
theorem d_M_carryOut_1 : decode prog_14_method_52_code 1 = .ok (.istore_n 2, 1) := by decide +kernel
theorem d_M_carryOut_2 : decode prog_14_method_52_code 2 = .ok (.iconst 0, 1) := by decide +kernel
theorem d_M_carryOut_3 : decode prog_14_method_52_code 3 = .ok (.istore_n 3, 1) := by decide +kernel
theorem d_M_carryOut_4 : decode prog_14_method_52_code 4 = .ok (.iload_n 3, 1) := by decide +kernel
theorem d_M_carryOut_5 : decode prog_14_method_52_code 5 = .ok (.aload_n 0, 1) := by decide +kernel
theorem d_M_carryOut_6 : decode prog_14_method_52_code 6 = .ok (.getfield 277, 3) := by decide +kernel
theorem d_M_carryOut_9 : decode prog_14_method_52_code 9 = .ok (.if_icmp .ge 34, 3) := by decide +kernel
theorem d_M_carryOut_12 : decode prog_14_method_52_code 12 = .ok (.iload_n 2, 1) := by decide +kernel
theorem d_M_carryOut_13 : decode prog_14_method_52_code 13 = .ok (.ifCond .ne 18, 3) := by decide +kernel
theorem d_M_carryOut_16 : decode prog_14_method_52_code 16 = .ok (.aload_n 0, 1) := by decide +kernel
theorem d_M_carryOut_17 : decode prog_14_method_52_code 17 = .ok (.getfield 81, 3) := by decide +kernel
theorem d_M_carryOut_20 : decode prog_14_method_52_code 20 = .ok (.iload_n 3, 1) := by decide +kernel
theorem d_M_carryOut_21 : decode prog_14_method_52_code 21 = .ok (.iaload, 1) := by decide +kernel
theorem d_M_carryOut_22 : decode prog_14_method_52_code 22 = .ok (.aload_n 0, 1) := by decide +kernel
theorem d_M_carryOut_23 : decode prog_14_method_52_code 23 = .ok (.getfield 141, 3) := by decide +kernel
theorem d_M_carryOut_26 : decode prog_14_method_52_code 26 = .ok (.iload_n 1, 1) := by decide +kernel
theorem d_M_carryOut_27 : decode prog_14_method_52_code 27 = .ok (.iaload, 1) := by decide +kernel
theorem d_M_carryOut_28 : decode prog_14_method_52_code 28 = .ok (.if_icmp .ne 7, 3) := by decide +kernel
theorem d_M_carryOut_31 : decode prog_14_method_52_code 31 = .ok (.iconst 1, 1) := by decide +kernel
theorem d_M_carryOut_32 : decode prog_14_method_52_code 32 = .ok (.goto 4, 3) := by decide +kernel
theorem d_M_carryOut_35 : decode prog_14_method_52_code 35 = .ok (.iconst 0, 1) := by decide +kernel
theorem d_M_carryOut_36 : decode prog_14_method_52_code 36 = .ok (.istore_n 2, 1) := by decide +kernel
theorem d_M_carryOut_37 : decode prog_14_method_52_code 37 = .ok (.iinc 3 1, 3) := by decide +kernel
theorem d_M_carryOut_40 : decode prog_14_method_52_code 40 = .ok (.goto (-36), 3) := by decide +kernel
theorem d_M_carryOut_43 : decode prog_14_method_52_code 43 = .ok (.iload_n 2, 1) := by decide +kernel
theorem d_M_carryOut_44 : decode prog_14_method_52_code 44 = .ok (.ifCond .eq 94, 3) := by decide +kernel
theorem d_M_carryOut_47 : decode prog_14_method_52_code 47 = .ok (.aload_n 0, 1) := by decide +kernel
theorem d_M_carryOut_48 : decode prog_14_method_52_code 48 = .ok (.iconst 4, 1) := by decide +kernel
theorem d_M_carryOut_49 : decode prog_14_method_52_code 49 = .ok (.invokevirtual 379, 3) := by decide +kernel
theorem d_M_carryOut_52 : decode prog_14_method_52_code 52 = .ok (.ifCond .eq 86, 3) := by decide +kernel
theorem d_M_carryOut_55 : decode prog_14_method_52_code 55 = .ok (.aload_n 0, 1) := by decide +kernel
theorem d_M_carryOut_56 : decode prog_14_method_52_code 56 = .ok (.iconst 2, 1) := by decide +kernel
theorem d_M_carryOut_57 : decode prog_14_method_52_code 57 = .ok (.invokevirtual 379, 3) := by decide +kernel
theorem d_M_carryOut_60 : decode prog_14_method_52_code 60 = .ok (.ifCond .ne 78, 3) := by decide +kernel
theorem d_M_carryOut_63 : decode prog_14_method_52_code 63 = .ok (.aload_n 0, 1) := by decide +kernel
theorem d_M_carryOut_64 : decode prog_14_method_52_code 64 = .ok (.bipush 8, 2) := by decide +kernel
theorem d_M_carryOut_66 : decode prog_14_method_52_code 66 = .ok (.invokevirtual 379, 3) := by decide +kernel
theorem d_M_carryOut_69 : decode prog_14_method_52_code 69 = .ok (.ifCond .ne 69, 3) := by decide +kernel
theorem d_M_carryOut_72 : decode prog_14_method_52_code 72 = .ok (.aload_n 0, 1) := by decide +kernel
theorem d_M_carryOut_73 : decode prog_14_method_52_code 73 = .ok (.getfield 54, 3) := by decide +kernel
theorem d_M_carryOut_76 : decode prog_14_method_52_code 76 = .ok (.iload_n 1, 1) := by decide +kernel
theorem d_M_carryOut_77 : decode prog_14_method_52_code 77 = .ok (.baload, 1) := by decide +kernel
theorem d_M_carryOut_78 : decode prog_14_method_52_code 78 = .ok (.ifCond .ne 60, 3) := by decide +kernel
theorem d_M_carryOut_81 : decode prog_14_method_52_code 81 = .ok (.aload_n 0, 1) := by decide +kernel
theorem d_M_carryOut_82 : decode prog_14_method_52_code 82 = .ok (.iload_n 1, 1) := by decide +kernel
theorem d_M_carryOut_83 : decode prog_14_method_52_code 83 = .ok (.invokevirtual 392, 3) := by decide +kernel
theorem d_M_carryOut_86 : decode prog_14_method_52_code 86 = .ok (.ifCond .ne 41, 3) := by decide +kernel
theorem d_M_carryOut_89 : decode prog_14_method_52_code 89 = .ok (.aload_n 0, 1) := by decide +kernel
theorem d_M_carryOut_90 : decode prog_14_method_52_code 90 = .ok (.bipush 32, 2) := by decide +kernel
theorem d_M_carryOut_92 : decode prog_14_method_52_code 92 = .ok (.invokevirtual 379, 3) := by decide +kernel
theorem d_M_carryOut_95 : decode prog_14_method_52_code 95 = .ok (.ifCond .ne 32, 3) := by decide +kernel
theorem d_M_carryOut_98 : decode prog_14_method_52_code 98 = .ok (.aload_n 0, 1) := by decide +kernel
theorem d_M_carryOut_99 : decode prog_14_method_52_code 99 = .ok (.ldc2_w 395, 3) := by decide +kernel
theorem d_M_carryOut_102 : decode prog_14_method_52_code 102 = .ok (.invokevirtual 397, 3) := by decide +kernel
theorem d_M_carryOut_105 : decode prog_14_method_52_code 105 = .ok (.aload_n 0, 1) := by decide +kernel
theorem d_M_carryOut_106 : decode prog_14_method_52_code 106 = .ok (.bipush 32, 2) := by decide +kernel
theorem d_M_carryOut_108 : decode prog_14_method_52_code 108 = .ok (.invokevirtual 401, 3) := by decide +kernel
theorem d_M_carryOut_111 : decode prog_14_method_52_code 111 = .ok (.aload_n 0, 1) := by decide +kernel
theorem d_M_carryOut_112 : decode prog_14_method_52_code 112 = .ok (.aload_n 0, 1) := by decide +kernel
theorem d_M_carryOut_113 : decode prog_14_method_52_code 113 = .ok (.getfield 13, 3) := by decide +kernel
theorem d_M_carryOut_116 : decode prog_14_method_52_code 116 = .ok (.iload_n 1, 1) := by decide +kernel
theorem d_M_carryOut_117 : decode prog_14_method_52_code 117 = .ok (.laload, 1) := by decide +kernel
theorem d_M_carryOut_118 : decode prog_14_method_52_code 118 = .ok (.invokevirtual 397, 3) := by decide +kernel
theorem d_M_carryOut_121 : decode prog_14_method_52_code 121 = .ok (.aload_n 0, 1) := by decide +kernel
theorem d_M_carryOut_122 : decode prog_14_method_52_code 122 = .ok (.bipush 10, 2) := by decide +kernel
theorem d_M_carryOut_124 : decode prog_14_method_52_code 124 = .ok (.invokevirtual 401, 3) := by decide +kernel
theorem d_M_carryOut_127 : decode prog_14_method_52_code 127 = .ok (.aload_n 0, 1) := by decide +kernel
theorem d_M_carryOut_128 : decode prog_14_method_52_code 128 = .ok (.iload_n 1, 1) := by decide +kernel
theorem d_M_carryOut_129 : decode prog_14_method_52_code 129 = .ok (.aload_n 0, 1) := by decide +kernel
theorem d_M_carryOut_130 : decode prog_14_method_52_code 130 = .ok (.getfield 24, 3) := by decide +kernel
theorem d_M_carryOut_133 : decode prog_14_method_52_code 133 = .ok (.iload_n 1, 1) := by decide +kernel
theorem d_M_carryOut_134 : decode prog_14_method_52_code 134 = .ok (.iaload, 1) := by decide +kernel
theorem d_M_carryOut_135 : decode prog_14_method_52_code 135 = .ok (.invokevirtual 195, 3) := by decide +kernel
theorem d_M_carryOut_138 : decode prog_14_method_52_code 138 = .ok (.iconst 1, 1) := by decide +kernel
theorem d_M_carryOut_139 : decode prog_14_method_52_code 139 = .ok (.istore_n 3, 1) := by decide +kernel
theorem d_M_carryOut_140 : decode prog_14_method_52_code 140 = .ok (.iconst 0, 1) := by decide +kernel
theorem d_M_carryOut_141 : decode prog_14_method_52_code 141 = .ok (.istore 4, 2) := by decide +kernel
theorem d_M_carryOut_143 : decode prog_14_method_52_code 143 = .ok (.iload 4, 2) := by decide +kernel
theorem d_M_carryOut_145 : decode prog_14_method_52_code 145 = .ok (.aload_n 0, 1) := by decide +kernel
theorem d_M_carryOut_146 : decode prog_14_method_52_code 146 = .ok (.getfield 277, 3) := by decide +kernel
theorem d_M_carryOut_149 : decode prog_14_method_52_code 149 = .ok (.if_icmp .ge 37, 3) := by decide +kernel
theorem d_M_carryOut_152 : decode prog_14_method_52_code 152 = .ok (.iload_n 3, 1) := by decide +kernel
theorem d_M_carryOut_153 : decode prog_14_method_52_code 153 = .ok (.ifCond .eq 33, 3) := by decide +kernel
theorem d_M_carryOut_156 : decode prog_14_method_52_code 156 = .ok (.aload_n 0, 1) := by decide +kernel
theorem d_M_carryOut_157 : decode prog_14_method_52_code 157 = .ok (.getfield 81, 3) := by decide +kernel
theorem d_M_carryOut_160 : decode prog_14_method_52_code 160 = .ok (.iload 4, 2) := by decide +kernel
theorem d_M_carryOut_162 : decode prog_14_method_52_code 162 = .ok (.iaload, 1) := by decide +kernel
theorem d_M_carryOut_163 : decode prog_14_method_52_code 163 = .ok (.aload_n 0, 1) := by decide +kernel
theorem d_M_carryOut_164 : decode prog_14_method_52_code 164 = .ok (.getfield 141, 3) := by decide +kernel
theorem d_M_carryOut_167 : decode prog_14_method_52_code 167 = .ok (.iload_n 1, 1) := by decide +kernel
theorem d_M_carryOut_168 : decode prog_14_method_52_code 168 = .ok (.iaload, 1) := by decide +kernel
theorem d_M_carryOut_169 : decode prog_14_method_52_code 169 = .ok (.if_icmp .ne 11, 3) := by decide +kernel
theorem d_M_carryOut_172 : decode prog_14_method_52_code 172 = .ok (.aload_n 0, 1) := by decide +kernel
theorem d_M_carryOut_173 : decode prog_14_method_52_code 173 = .ok (.iload_n 1, 1) := by decide +kernel
theorem d_M_carryOut_174 : decode prog_14_method_52_code 174 = .ok (.iload 4, 2) := by decide +kernel
theorem d_M_carryOut_176 : decode prog_14_method_52_code 176 = .ok (.invokevirtual 404, 3) := by decide +kernel
theorem d_M_carryOut_179 : decode prog_14_method_52_code 179 = .ok (.istore_n 3, 1) := by decide +kernel
theorem d_M_carryOut_180 : decode prog_14_method_52_code 180 = .ok (.iinc 4 1, 3) := by decide +kernel
theorem d_M_carryOut_183 : decode prog_14_method_52_code 183 = .ok (.goto (-40), 3) := by decide +kernel
theorem d_M_carryOut_186 : decode prog_14_method_52_code 186 = .ok (.iload_n 3, 1) := by decide +kernel
theorem d_M_carryOut_187 : decode prog_14_method_52_code 187 = .ok (.ireturn, 1) := by decide +kernel
noncomputable def f_M_carryOut_j186 (x3 : Int32) (σ : rb_St) : Option rb_Rs :=
  if rb_isZ x3 then some (some (.int x3), σ) else none
theorem t_M_carryOut_j186 {E : rb_EV} {d : Nat} {σ0 : rb_St} {res : rb_Rs} (hdd : 7 ≤ d)  (x3 : Int32) (σ : rb_St) : rb_TC (f_M_carryOut_j186 x3 σ) (fun r => r = res) (rb_WK E k_M_carryOut d σ0 res 186 [none, none, none, some (.int x3), none] [] σ) := by
  unfold f_M_carryOut_j186
  refine rb_TC.mono (rk_iload_n 3 d_M_carryOut_186 rfl rfl) ?_
  refine rb_TC.ite (fun hn => ?_) (fun _ => rb_TC.none)
  exact rt_iret (ty := .boolean) rfl (rb_nar_Z hn) (fun h => h) d_M_carryOut_187
noncomputable def f_M_carryOut_b143 (r0 : Option Nat) (x1 : Int32) (x3 : Int32) (x4 : Int32) (σ : rb_St) : Option ((Int32 × Int32 × rb_St) ⊕ rb_Rs) :=
  (rb_gI σ r0 13 33).bind fun x_2 => if x_2 ≤ x4 then ((f_M_carryOut_j186 (x3) σ).map Sum.inr) else (if x3 = 0 then ((f_M_carryOut_j186 (x3) σ).map Sum.inr) else ((rb_gR σ r0 13 32).bind fun r_3 => (rb_aI σ r_3 102 x4).bind fun x_4 => (rb_gR σ r0 13 63).bind fun r_5 => (rb_aI σ r_5 102 x1).bind fun x_6 => if x_4 = x_6 then ((rb_fc σ r0 13).bind fun _ => rb_cI (f_M_carry (r0) (x1) (x4) σ) fun x_7 σ_8 => some (.inl (x_7, (x4 + 1), σ_8))) else (some (.inl (x3, (x4 + 1), σ)))))
theorem t_M_carryOut_b143 {E : rb_EV} {d : Nat} {σ0 : rb_St} {res : rb_Rs} (hdd : 7 ≤ d)  (r0 : Option Nat) (x1 : Int32) (x3 : Int32) (x4 : Int32) (σ : rb_St) : rb_TC (f_M_carryOut_b143 r0 x1 x3 x4 σ) (Sum.elim (fun z : (Int32 × Int32 × rb_St) => rb_WK E k_M_carryOut d σ0 res 143 [some (va_rf r0), some (.int x1), none, some (.int z.1), some (.int z.2.1)] [] z.2.2) (fun r => r = res)) (rb_WK E k_M_carryOut d σ0 res 143 [some (va_rf r0), some (.int x1), none, some (.int x3), some (.int x4)] [] σ) := by
  unfold f_M_carryOut_b143
  refine rb_TC.mono (rk_iload d_M_carryOut_143 rfl) ?_
  refine rb_TC.mono (rk_aload_n 0 d_M_carryOut_145 rfl rfl) ?_
  refine rt_gI r0 fw_M_277 d_M_carryOut_146 (fun x_2 => ?_)
  refine rt_icmp_ge 186 d_M_carryOut_149 (by decide) (fun _ => ?_) (fun _ => ?_)
  · refine rb_TC.out ?_
    refine rb_TC.mono (rk_less (lv2 := [none, none, none, some (.int x3), none]) (rb_le_ok (rb_leN (rb_leN (rb_leN (rb_leS (rb_leN rb_le0))))))) ?_
    exact t_M_carryOut_j186 hdd  (x3) σ
  · refine rb_TC.mono (rk_iload_n 3 d_M_carryOut_152 rfl rfl) ?_
    refine rt_if_eq 186 d_M_carryOut_153 (by decide) (fun _ => ?_) (fun _ => ?_)
    · refine rb_TC.out ?_
      refine rb_TC.mono (rk_less (lv2 := [none, none, none, some (.int x3), none]) (rb_le_ok (rb_leN (rb_leN (rb_leN (rb_leS (rb_leN rb_le0))))))) ?_
      exact t_M_carryOut_j186 hdd  (x3) σ
    · refine rb_TC.mono (rk_aload_n 0 d_M_carryOut_156 rfl rfl) ?_
      refine rt_gR r0 fw_M_81 d_M_carryOut_157 (fun r_3 => ?_)
      refine rb_TC.mono (rk_iload d_M_carryOut_160 rfl) ?_
      refine rt_iald r_3 d_M_carryOut_162 (fun x_4 => ?_)
      refine rb_TC.mono (rk_aload_n 0 d_M_carryOut_163 rfl rfl) ?_
      refine rt_gR r0 fw_M_141 d_M_carryOut_164 (fun r_5 => ?_)
      refine rb_TC.mono (rk_iload_n 1 d_M_carryOut_167 rfl rfl) ?_
      refine rt_iald r_5 d_M_carryOut_168 (fun x_6 => ?_)
      refine rt_icmp_ne 180 d_M_carryOut_169 (by decide) (fun _ => ?_) (fun _ => ?_)
      · refine rb_TC.mono (rk_aload_n 0 d_M_carryOut_172 rfl rfl) ?_
        refine rb_TC.mono (rk_iload_n 1 d_M_carryOut_173 rfl rfl) ?_
        refine rb_TC.mono (rk_iload d_M_carryOut_174 rfl) ?_
        refine rt_vI (As := [.int x1, .int x4]) (st := []) (r0) vw_M_404 (s_M_carry (Nat.le_refl _) (r0) (x1) (x4) σ) (Nat.le_trans (by decide) hdd) rfl (by simp [rb_cat_r, rb_cat_i, rb_cat_l]) d_M_carryOut_176 (fun x_7 σ_8 => ?_)
        refine rb_TC.mono (rk_istore_n (lv2 := [some (va_rf r0), some (.int x1), none, some (.int x_7), some (.int x4)]) 3 d_M_carryOut_179 rfl (by decide) (fun _ => rb_one_n) rfl) ?_
        refine rb_TC.mono (rk_iinc (lv2 := [some (va_rf r0), some (.int x1), none, some (.int x_7), some (.int (x4 + 1))]) (x4 + 1) d_M_carryOut_180 rfl rfl (by decide) (fun _ => rb_one_i) rfl) ?_
        refine rb_TC.mono (rk_goto 143 d_M_carryOut_183 (by decide)) ?_
        exact rb_back
      · refine rb_TC.mono (rk_iinc (lv2 := [some (va_rf r0), some (.int x1), none, some (.int x3), some (.int (x4 + 1))]) (x4 + 1) d_M_carryOut_180 rfl rfl (by decide) (fun _ => rb_one_i) rfl) ?_
        refine rb_TC.mono (rk_goto 143 d_M_carryOut_183 (by decide)) ?_
        exact rb_back
noncomputable def f_M_carryOut_j127 (r0 : Option Nat) (x1 : Int32) (σ : rb_St) : Option rb_Rs :=
  (rb_gR σ r0 13 6).bind fun r_27 => (rb_aI σ r_27 102 x1).bind fun x_28 => (rb_fc σ r0 13).bind fun _ => rb_cV (f_M_write (r0) (x1) (x_28) σ) fun σ_29 => rb_it (fun z : (Int32 × Int32 × rb_St) => f_M_carryOut_b143 (r0) (x1) (z.1) (z.2.1) z.2.2) ((1 : Int32), (0 : Int32), σ_29)
theorem t_M_carryOut_j127 {E : rb_EV} {d : Nat} {σ0 : rb_St} {res : rb_Rs} (hdd : 7 ≤ d)  (r0 : Option Nat) (x1 : Int32) (σ : rb_St) : rb_TC (f_M_carryOut_j127 r0 x1 σ) (fun r => r = res) (rb_WK E k_M_carryOut d σ0 res 127 [some (va_rf r0), some (.int x1), none, none, none] [] σ) := by
  unfold f_M_carryOut_j127
  refine rb_TC.mono (rk_aload_n 0 d_M_carryOut_127 rfl rfl) ?_
  refine rb_TC.mono (rk_iload_n 1 d_M_carryOut_128 rfl rfl) ?_
  refine rb_TC.mono (rk_aload_n 0 d_M_carryOut_129 rfl rfl) ?_
  refine rt_gR r0 fw_M_24 d_M_carryOut_130 (fun r_27 => ?_)
  refine rb_TC.mono (rk_iload_n 1 d_M_carryOut_133 rfl rfl) ?_
  refine rt_iald r_27 d_M_carryOut_134 (fun x_28 => ?_)
  refine rt_vV (As := [.int x1, .int x_28]) (st := []) (r0) vw_M_195 (s_M_write (Nat.le_refl _) (r0) (x1) (x_28) σ) (Nat.le_trans (by decide) hdd) rfl (by simp [rb_cat_r, rb_cat_i, rb_cat_l]) d_M_carryOut_135 (fun σ_29 => ?_)
  refine rb_TC.mono (rk_iconst (1 : Int32) d_M_carryOut_138 (by decide)) ?_
  refine rb_TC.mono (rk_istore_n (lv2 := [some (va_rf r0), some (.int x1), none, some (.int (1 : Int32)), none]) 3 d_M_carryOut_139 rfl (by decide) (fun _ => rb_one_n) rfl) ?_
  refine rb_TC.mono (rk_iconst (0 : Int32) d_M_carryOut_140 (by decide)) ?_
  refine rb_TC.mono (rk_istore (lv2 := [some (va_rf r0), some (.int x1), none, some (.int (1 : Int32)), some (.int (0 : Int32))]) d_M_carryOut_141 (by decide) (fun _ => rb_one_i) rfl) ?_
  exact rb_TC.loop2 (A := (fun z : (Int32 × Int32 × rb_St) => rb_WK E k_M_carryOut d σ0 res 143 [some (va_rf r0), some (.int x1), none, some (.int z.1), some (.int z.2.1)] [] z.2.2)) ((1 : Int32), (0 : Int32), σ_29) (fun z => t_M_carryOut_b143 hdd  (r0) (x1) (z.1) (z.2.1) z.2.2)
noncomputable def f_M_carryOut_b4 (r0 : Option Nat) (x1 : Int32) (x2 : Int32) (x3 : Int32) (σ : rb_St) : Option ((Int32 × Int32) ⊕ rb_Rs) :=
  (rb_gI σ r0 13 33).bind fun x_1 => if x_1 ≤ x3 then ((if x2 = 0 then (rb_it (fun z : (Int32 × Int32 × rb_St) => f_M_carryOut_b143 (r0) (x1) (z.1) (z.2.1) z.2.2) ((1 : Int32), (0 : Int32), σ)) else ((rb_fc σ r0 13).bind fun _ => rb_cI (f_M_option (r0) ((4 : Int32)) σ) fun x_9 σ_10 => if x_9 = 0 then (rb_it (fun z : (Int32 × Int32 × rb_St) => f_M_carryOut_b143 (r0) (x1) (z.1) (z.2.1) z.2.2) ((1 : Int32), (0 : Int32), σ_10)) else ((rb_fc σ_10 r0 13).bind fun _ => rb_cI (f_M_option (r0) ((2 : Int32)) σ_10) fun x_11 σ_12 => if x_11 = 0 then ((rb_fc σ_12 r0 13).bind fun _ => rb_cI (f_M_option (r0) ((8 : Int32)) σ_12) fun x_13 σ_14 => if x_13 = 0 then ((rb_gR σ_14 r0 13 19).bind fun r_15 => (rb_aI σ_14 r_15 104 x1).bind fun x_16 => if x_16 = 0 then ((rb_fc σ_14 r0 13).bind fun _ => rb_cI (f_M_isSilent (r0) (x1) σ_14) fun x_17 σ_18 => if x_17 = 0 then ((rb_fc σ_18 r0 13).bind fun _ => rb_cI (f_M_option (r0) ((32 : Int32)) σ_18) fun x_19 σ_20 => if x_19 = 0 then ((rb_fc σ_20 r0 13).bind fun _ => rb_cV (f_M_printWord (r0) ((31373226472 : Int64)) σ_20) fun σ_21 => (rb_fc σ_21 r0 13).bind fun _ => rb_cV (f_M_put (r0) ((32 : Int32)) σ_21) fun σ_22 => (rb_gR σ_22 r0 13 3).bind fun r_23 => (rb_aL σ_22 r_23 103 x1).bind fun y_24 => (rb_fc σ_22 r0 13).bind fun _ => rb_cV (f_M_printWord (r0) (y_24) σ_22) fun σ_25 => (rb_fc σ_25 r0 13).bind fun _ => rb_cV (f_M_put (r0) ((10 : Int32)) σ_25) fun σ_26 => f_M_carryOut_j127 (r0) (x1) σ_26) else (f_M_carryOut_j127 (r0) (x1) σ_20)) else (f_M_carryOut_j127 (r0) (x1) σ_18)) else (rb_it (fun z : (Int32 × Int32 × rb_St) => f_M_carryOut_b143 (r0) (x1) (z.1) (z.2.1) z.2.2) ((1 : Int32), (0 : Int32), σ_14))) else (rb_it (fun z : (Int32 × Int32 × rb_St) => f_M_carryOut_b143 (r0) (x1) (z.1) (z.2.1) z.2.2) ((1 : Int32), (0 : Int32), σ_14))) else (rb_it (fun z : (Int32 × Int32 × rb_St) => f_M_carryOut_b143 (r0) (x1) (z.1) (z.2.1) z.2.2) ((1 : Int32), (0 : Int32), σ_12))))).map Sum.inr) else (if x2 = 0 then ((rb_gR σ r0 13 32).bind fun r_30 => (rb_aI σ r_30 102 x3).bind fun x_31 => (rb_gR σ r0 13 63).bind fun r_32 => (rb_aI σ r_32 102 x1).bind fun x_33 => if x_31 = x_33 then (some (.inl ((1 : Int32), (x3 + 1)))) else (some (.inl ((0 : Int32), (x3 + 1))))) else (some (.inl ((1 : Int32), (x3 + 1)))))
theorem t_M_carryOut_b4 {E : rb_EV} {d : Nat} {σ0 : rb_St} {res : rb_Rs} (hdd : 7 ≤ d)  (r0 : Option Nat) (x1 : Int32) (x2 : Int32) (x3 : Int32) (σ : rb_St) : rb_TC (f_M_carryOut_b4 r0 x1 x2 x3 σ) (Sum.elim (fun z : (Int32 × Int32) => rb_WK E k_M_carryOut d σ0 res 4 [some (va_rf r0), some (.int x1), some (.int z.1), some (.int z.2), none] [] σ) (fun r => r = res)) (rb_WK E k_M_carryOut d σ0 res 4 [some (va_rf r0), some (.int x1), some (.int x2), some (.int x3), none] [] σ) := by
  unfold f_M_carryOut_b4
  refine rb_TC.mono (rk_iload_n 3 d_M_carryOut_4 rfl rfl) ?_
  refine rb_TC.mono (rk_aload_n 0 d_M_carryOut_5 rfl rfl) ?_
  refine rt_gI r0 fw_M_277 d_M_carryOut_6 (fun x_1 => ?_)
  refine rt_icmp_ge 43 d_M_carryOut_9 (by decide) (fun _ => ?_) (fun _ => ?_)
  · refine rb_TC.out ?_
    refine rb_TC.mono (rk_iload_n 2 d_M_carryOut_43 rfl rfl) ?_
    refine rt_if_eq 138 d_M_carryOut_44 (by decide) (fun _ => ?_) (fun _ => ?_)
    · refine rb_TC.mono (rk_iconst (1 : Int32) d_M_carryOut_138 (by decide)) ?_
      refine rb_TC.mono (rk_istore_n (lv2 := [some (va_rf r0), some (.int x1), some (.int x2), some (.int (1 : Int32)), none]) 3 d_M_carryOut_139 rfl (by decide) (fun _ => rb_one_i) rfl) ?_
      refine rb_TC.mono (rk_iconst (0 : Int32) d_M_carryOut_140 (by decide)) ?_
      refine rb_TC.mono (rk_istore (lv2 := [some (va_rf r0), some (.int x1), some (.int x2), some (.int (1 : Int32)), some (.int (0 : Int32))]) d_M_carryOut_141 (by decide) (fun _ => rb_one_i) rfl) ?_
      refine rb_TC.mono (rk_less (lv2 := [some (va_rf r0), some (.int x1), none, some (.int (1 : Int32)), some (.int (0 : Int32))]) (rb_le_ok (rb_leS (rb_leS (rb_leN (rb_leS (rb_leS rb_le0))))))) ?_
      exact rb_TC.loop2 (A := (fun z : (Int32 × Int32 × rb_St) => rb_WK E k_M_carryOut d σ0 res 143 [some (va_rf r0), some (.int x1), none, some (.int z.1), some (.int z.2.1)] [] z.2.2)) ((1 : Int32), (0 : Int32), σ) (fun z => t_M_carryOut_b143 hdd  (r0) (x1) (z.1) (z.2.1) z.2.2)
    · refine rb_TC.mono (rk_aload_n 0 d_M_carryOut_47 rfl rfl) ?_
      refine rb_TC.mono (rk_iconst (4 : Int32) d_M_carryOut_48 (by decide)) ?_
      refine rt_vI (As := [.int (4 : Int32)]) (st := []) (r0) vw_M_379 (s_M_option (Nat.le_refl _) (r0) ((4 : Int32)) σ) (Nat.le_trans (by decide) hdd) rfl (by simp [rb_cat_r, rb_cat_i, rb_cat_l]) d_M_carryOut_49 (fun x_9 σ_10 => ?_)
      refine rt_if_eq 138 d_M_carryOut_52 (by decide) (fun _ => ?_) (fun _ => ?_)
      · refine rb_TC.mono (rk_iconst (1 : Int32) d_M_carryOut_138 (by decide)) ?_
        refine rb_TC.mono (rk_istore_n (lv2 := [some (va_rf r0), some (.int x1), some (.int x2), some (.int (1 : Int32)), none]) 3 d_M_carryOut_139 rfl (by decide) (fun _ => rb_one_i) rfl) ?_
        refine rb_TC.mono (rk_iconst (0 : Int32) d_M_carryOut_140 (by decide)) ?_
        refine rb_TC.mono (rk_istore (lv2 := [some (va_rf r0), some (.int x1), some (.int x2), some (.int (1 : Int32)), some (.int (0 : Int32))]) d_M_carryOut_141 (by decide) (fun _ => rb_one_i) rfl) ?_
        refine rb_TC.mono (rk_less (lv2 := [some (va_rf r0), some (.int x1), none, some (.int (1 : Int32)), some (.int (0 : Int32))]) (rb_le_ok (rb_leS (rb_leS (rb_leN (rb_leS (rb_leS rb_le0))))))) ?_
        exact rb_TC.loop2 (A := (fun z : (Int32 × Int32 × rb_St) => rb_WK E k_M_carryOut d σ0 res 143 [some (va_rf r0), some (.int x1), none, some (.int z.1), some (.int z.2.1)] [] z.2.2)) ((1 : Int32), (0 : Int32), σ_10) (fun z => t_M_carryOut_b143 hdd  (r0) (x1) (z.1) (z.2.1) z.2.2)
      · refine rb_TC.mono (rk_aload_n 0 d_M_carryOut_55 rfl rfl) ?_
        refine rb_TC.mono (rk_iconst (2 : Int32) d_M_carryOut_56 (by decide)) ?_
        refine rt_vI (As := [.int (2 : Int32)]) (st := []) (r0) vw_M_379 (s_M_option (Nat.le_refl _) (r0) ((2 : Int32)) σ_10) (Nat.le_trans (by decide) hdd) rfl (by simp [rb_cat_r, rb_cat_i, rb_cat_l]) d_M_carryOut_57 (fun x_11 σ_12 => ?_)
        refine rt_if_ne 138 d_M_carryOut_60 (by decide) (fun _ => ?_) (fun _ => ?_)
        · refine rb_TC.mono (rk_aload_n 0 d_M_carryOut_63 rfl rfl) ?_
          refine rb_TC.mono (rk_bipush (8 : Int32) d_M_carryOut_64 (by decide)) ?_
          refine rt_vI (As := [.int (8 : Int32)]) (st := []) (r0) vw_M_379 (s_M_option (Nat.le_refl _) (r0) ((8 : Int32)) σ_12) (Nat.le_trans (by decide) hdd) rfl (by simp [rb_cat_r, rb_cat_i, rb_cat_l]) d_M_carryOut_66 (fun x_13 σ_14 => ?_)
          refine rt_if_ne 138 d_M_carryOut_69 (by decide) (fun _ => ?_) (fun _ => ?_)
          · refine rb_TC.mono (rk_aload_n 0 d_M_carryOut_72 rfl rfl) ?_
            refine rt_gR r0 fw_M_54 d_M_carryOut_73 (fun r_15 => ?_)
            refine rb_TC.mono (rk_iload_n 1 d_M_carryOut_76 rfl rfl) ?_
            refine rt_zald r_15 d_M_carryOut_77 (fun x_16 => ?_)
            refine rt_if_ne 138 d_M_carryOut_78 (by decide) (fun _ => ?_) (fun _ => ?_)
            · refine rb_TC.mono (rk_aload_n 0 d_M_carryOut_81 rfl rfl) ?_
              refine rb_TC.mono (rk_iload_n 1 d_M_carryOut_82 rfl rfl) ?_
              refine rt_vI (As := [.int x1]) (st := []) (r0) vw_M_392 (s_M_isSilent (Nat.le_refl _) (r0) (x1) σ_14) (Nat.le_trans (by decide) hdd) rfl (by simp [rb_cat_r, rb_cat_i, rb_cat_l]) d_M_carryOut_83 (fun x_17 σ_18 => ?_)
              refine rt_if_ne 127 d_M_carryOut_86 (by decide) (fun _ => ?_) (fun _ => ?_)
              · refine rb_TC.mono (rk_aload_n 0 d_M_carryOut_89 rfl rfl) ?_
                refine rb_TC.mono (rk_bipush (32 : Int32) d_M_carryOut_90 (by decide)) ?_
                refine rt_vI (As := [.int (32 : Int32)]) (st := []) (r0) vw_M_379 (s_M_option (Nat.le_refl _) (r0) ((32 : Int32)) σ_18) (Nat.le_trans (by decide) hdd) rfl (by simp [rb_cat_r, rb_cat_i, rb_cat_l]) d_M_carryOut_92 (fun x_19 σ_20 => ?_)
                refine rt_if_ne 127 d_M_carryOut_95 (by decide) (fun _ => ?_) (fun _ => ?_)
                · refine rb_TC.mono (rk_aload_n 0 d_M_carryOut_98 rfl rfl) ?_
                  refine rb_TC.mono (rk_ldc2 d_M_carryOut_99 w_long_M_395) ?_
                  refine rt_vV (As := [.long (31373226472 : Int64)]) (st := []) (r0) vw_M_397 (s_M_printWord (Nat.le_refl _) (r0) ((31373226472 : Int64)) σ_20) (Nat.le_trans (by decide) hdd) rfl (by simp [rb_cat_r, rb_cat_i, rb_cat_l]) d_M_carryOut_102 (fun σ_21 => ?_)
                  refine rb_TC.mono (rk_aload_n 0 d_M_carryOut_105 rfl rfl) ?_
                  refine rb_TC.mono (rk_bipush (32 : Int32) d_M_carryOut_106 (by decide)) ?_
                  refine rt_vV (As := [.int (32 : Int32)]) (st := []) (r0) vw_M_401 (s_M_put (Nat.le_refl _) (r0) ((32 : Int32)) σ_21) (Nat.le_trans (by decide) hdd) rfl (by simp [rb_cat_r, rb_cat_i, rb_cat_l]) d_M_carryOut_108 (fun σ_22 => ?_)
                  refine rb_TC.mono (rk_aload_n 0 d_M_carryOut_111 rfl rfl) ?_
                  refine rb_TC.mono (rk_aload_n 0 d_M_carryOut_112 rfl rfl) ?_
                  refine rt_gR r0 fw_M_13 d_M_carryOut_113 (fun r_23 => ?_)
                  refine rb_TC.mono (rk_iload_n 1 d_M_carryOut_116 rfl rfl) ?_
                  refine rt_lald r_23 d_M_carryOut_117 (fun y_24 => ?_)
                  refine rt_vV (As := [.long y_24]) (st := []) (r0) vw_M_397 (s_M_printWord (Nat.le_refl _) (r0) (y_24) σ_22) (Nat.le_trans (by decide) hdd) rfl (by simp [rb_cat_r, rb_cat_i, rb_cat_l]) d_M_carryOut_118 (fun σ_25 => ?_)
                  refine rb_TC.mono (rk_aload_n 0 d_M_carryOut_121 rfl rfl) ?_
                  refine rb_TC.mono (rk_bipush (10 : Int32) d_M_carryOut_122 (by decide)) ?_
                  refine rt_vV (As := [.int (10 : Int32)]) (st := []) (r0) vw_M_401 (s_M_put (Nat.le_refl _) (r0) ((10 : Int32)) σ_25) (Nat.le_trans (by decide) hdd) rfl (by simp [rb_cat_r, rb_cat_i, rb_cat_l]) d_M_carryOut_124 (fun σ_26 => ?_)
                  refine rb_TC.mono (rk_less (lv2 := [some (va_rf r0), some (.int x1), none, none, none]) (rb_le_ok (rb_leS (rb_leS (rb_leN (rb_leN (rb_leN rb_le0))))))) ?_
                  exact t_M_carryOut_j127 hdd  (r0) (x1) σ_26
                · refine rb_TC.mono (rk_less (lv2 := [some (va_rf r0), some (.int x1), none, none, none]) (rb_le_ok (rb_leS (rb_leS (rb_leN (rb_leN (rb_leN rb_le0))))))) ?_
                  exact t_M_carryOut_j127 hdd  (r0) (x1) σ_20
              · refine rb_TC.mono (rk_less (lv2 := [some (va_rf r0), some (.int x1), none, none, none]) (rb_le_ok (rb_leS (rb_leS (rb_leN (rb_leN (rb_leN rb_le0))))))) ?_
                exact t_M_carryOut_j127 hdd  (r0) (x1) σ_18
            · refine rb_TC.mono (rk_iconst (1 : Int32) d_M_carryOut_138 (by decide)) ?_
              refine rb_TC.mono (rk_istore_n (lv2 := [some (va_rf r0), some (.int x1), some (.int x2), some (.int (1 : Int32)), none]) 3 d_M_carryOut_139 rfl (by decide) (fun _ => rb_one_i) rfl) ?_
              refine rb_TC.mono (rk_iconst (0 : Int32) d_M_carryOut_140 (by decide)) ?_
              refine rb_TC.mono (rk_istore (lv2 := [some (va_rf r0), some (.int x1), some (.int x2), some (.int (1 : Int32)), some (.int (0 : Int32))]) d_M_carryOut_141 (by decide) (fun _ => rb_one_i) rfl) ?_
              refine rb_TC.mono (rk_less (lv2 := [some (va_rf r0), some (.int x1), none, some (.int (1 : Int32)), some (.int (0 : Int32))]) (rb_le_ok (rb_leS (rb_leS (rb_leN (rb_leS (rb_leS rb_le0))))))) ?_
              exact rb_TC.loop2 (A := (fun z : (Int32 × Int32 × rb_St) => rb_WK E k_M_carryOut d σ0 res 143 [some (va_rf r0), some (.int x1), none, some (.int z.1), some (.int z.2.1)] [] z.2.2)) ((1 : Int32), (0 : Int32), σ_14) (fun z => t_M_carryOut_b143 hdd  (r0) (x1) (z.1) (z.2.1) z.2.2)
          · refine rb_TC.mono (rk_iconst (1 : Int32) d_M_carryOut_138 (by decide)) ?_
            refine rb_TC.mono (rk_istore_n (lv2 := [some (va_rf r0), some (.int x1), some (.int x2), some (.int (1 : Int32)), none]) 3 d_M_carryOut_139 rfl (by decide) (fun _ => rb_one_i) rfl) ?_
            refine rb_TC.mono (rk_iconst (0 : Int32) d_M_carryOut_140 (by decide)) ?_
            refine rb_TC.mono (rk_istore (lv2 := [some (va_rf r0), some (.int x1), some (.int x2), some (.int (1 : Int32)), some (.int (0 : Int32))]) d_M_carryOut_141 (by decide) (fun _ => rb_one_i) rfl) ?_
            refine rb_TC.mono (rk_less (lv2 := [some (va_rf r0), some (.int x1), none, some (.int (1 : Int32)), some (.int (0 : Int32))]) (rb_le_ok (rb_leS (rb_leS (rb_leN (rb_leS (rb_leS rb_le0))))))) ?_
            exact rb_TC.loop2 (A := (fun z : (Int32 × Int32 × rb_St) => rb_WK E k_M_carryOut d σ0 res 143 [some (va_rf r0), some (.int x1), none, some (.int z.1), some (.int z.2.1)] [] z.2.2)) ((1 : Int32), (0 : Int32), σ_14) (fun z => t_M_carryOut_b143 hdd  (r0) (x1) (z.1) (z.2.1) z.2.2)
        · refine rb_TC.mono (rk_iconst (1 : Int32) d_M_carryOut_138 (by decide)) ?_
          refine rb_TC.mono (rk_istore_n (lv2 := [some (va_rf r0), some (.int x1), some (.int x2), some (.int (1 : Int32)), none]) 3 d_M_carryOut_139 rfl (by decide) (fun _ => rb_one_i) rfl) ?_
          refine rb_TC.mono (rk_iconst (0 : Int32) d_M_carryOut_140 (by decide)) ?_
          refine rb_TC.mono (rk_istore (lv2 := [some (va_rf r0), some (.int x1), some (.int x2), some (.int (1 : Int32)), some (.int (0 : Int32))]) d_M_carryOut_141 (by decide) (fun _ => rb_one_i) rfl) ?_
          refine rb_TC.mono (rk_less (lv2 := [some (va_rf r0), some (.int x1), none, some (.int (1 : Int32)), some (.int (0 : Int32))]) (rb_le_ok (rb_leS (rb_leS (rb_leN (rb_leS (rb_leS rb_le0))))))) ?_
          exact rb_TC.loop2 (A := (fun z : (Int32 × Int32 × rb_St) => rb_WK E k_M_carryOut d σ0 res 143 [some (va_rf r0), some (.int x1), none, some (.int z.1), some (.int z.2.1)] [] z.2.2)) ((1 : Int32), (0 : Int32), σ_12) (fun z => t_M_carryOut_b143 hdd  (r0) (x1) (z.1) (z.2.1) z.2.2)
  · refine rb_TC.mono (rk_iload_n 2 d_M_carryOut_12 rfl rfl) ?_
    refine rt_if_ne 31 d_M_carryOut_13 (by decide) (fun _ => ?_) (fun _ => ?_)
    · refine rb_TC.mono (rk_aload_n 0 d_M_carryOut_16 rfl rfl) ?_
      refine rt_gR r0 fw_M_81 d_M_carryOut_17 (fun r_30 => ?_)
      refine rb_TC.mono (rk_iload_n 3 d_M_carryOut_20 rfl rfl) ?_
      refine rt_iald r_30 d_M_carryOut_21 (fun x_31 => ?_)
      refine rb_TC.mono (rk_aload_n 0 d_M_carryOut_22 rfl rfl) ?_
      refine rt_gR r0 fw_M_141 d_M_carryOut_23 (fun r_32 => ?_)
      refine rb_TC.mono (rk_iload_n 1 d_M_carryOut_26 rfl rfl) ?_
      refine rt_iald r_32 d_M_carryOut_27 (fun x_33 => ?_)
      refine rt_icmp_ne 35 d_M_carryOut_28 (by decide) (fun _ => ?_) (fun _ => ?_)
      · refine rb_TC.mono (rk_iconst (1 : Int32) d_M_carryOut_31 (by decide)) ?_
        refine rb_TC.mono (rk_goto 36 d_M_carryOut_32 (by decide)) ?_
        refine rb_TC.mono (rk_istore_n (lv2 := [some (va_rf r0), some (.int x1), some (.int (1 : Int32)), some (.int x3), none]) 2 d_M_carryOut_36 rfl (by decide) (fun _ => rb_one_i) rfl) ?_
        refine rb_TC.mono (rk_iinc (lv2 := [some (va_rf r0), some (.int x1), some (.int (1 : Int32)), some (.int (x3 + 1)), none]) (x3 + 1) d_M_carryOut_37 rfl rfl (by decide) (fun _ => rb_one_i) rfl) ?_
        refine rb_TC.mono (rk_goto 4 d_M_carryOut_40 (by decide)) ?_
        exact rb_back
      · refine rb_TC.mono (rk_iconst (0 : Int32) d_M_carryOut_35 (by decide)) ?_
        refine rb_TC.mono (rk_istore_n (lv2 := [some (va_rf r0), some (.int x1), some (.int (0 : Int32)), some (.int x3), none]) 2 d_M_carryOut_36 rfl (by decide) (fun _ => rb_one_i) rfl) ?_
        refine rb_TC.mono (rk_iinc (lv2 := [some (va_rf r0), some (.int x1), some (.int (0 : Int32)), some (.int (x3 + 1)), none]) (x3 + 1) d_M_carryOut_37 rfl rfl (by decide) (fun _ => rb_one_i) rfl) ?_
        refine rb_TC.mono (rk_goto 4 d_M_carryOut_40 (by decide)) ?_
        exact rb_back
    · refine rb_TC.mono (rk_iconst (1 : Int32) d_M_carryOut_31 (by decide)) ?_
      refine rb_TC.mono (rk_goto 36 d_M_carryOut_32 (by decide)) ?_
      refine rb_TC.mono (rk_istore_n (lv2 := [some (va_rf r0), some (.int x1), some (.int (1 : Int32)), some (.int x3), none]) 2 d_M_carryOut_36 rfl (by decide) (fun _ => rb_one_i) rfl) ?_
      refine rb_TC.mono (rk_iinc (lv2 := [some (va_rf r0), some (.int x1), some (.int (1 : Int32)), some (.int (x3 + 1)), none]) (x3 + 1) d_M_carryOut_37 rfl rfl (by decide) (fun _ => rb_one_i) rfl) ?_
      refine rb_TC.mono (rk_goto 4 d_M_carryOut_40 (by decide)) ?_
      exact rb_back
noncomputable def f_M_carryOut (r0 : Option Nat) (x1 : Int32) (σ : rb_St) : Option rb_Rs :=
  rb_it (fun z : (Int32 × Int32) => f_M_carryOut_b4 (r0) (x1) (z.1) (z.2) σ) ((0 : Int32), (0 : Int32))
theorem s_M_carryOut {E : rb_EV} {d : Nat} (hdd : 7 ≤ d) (r0 : Option Nat) (x1 : Int32) (σ : rb_St) : rb_Does E k_M_carryOut d [va_rf r0, .int x1] σ (f_M_carryOut r0 x1 σ) := by
  refine rb_start (lv := [some (va_rf r0), some (.int x1), none, none, none]) (by decide) (by simp [lg_sl, rb_as, lv_args, rb_cat_r, rb_cat_i, rb_cat_l, rb_nL, k_M_carryOut]) (fun res => ?_)
  unfold f_M_carryOut
  refine rb_TC.mono (rk_iconst (0 : Int32) d_M_carryOut_0 (by decide)) ?_
  refine rb_TC.mono (rk_istore_n (lv2 := [some (va_rf r0), some (.int x1), some (.int (0 : Int32)), none, none]) 2 d_M_carryOut_1 rfl (by decide) (fun _ => rb_one_i) rfl) ?_
  refine rb_TC.mono (rk_iconst (0 : Int32) d_M_carryOut_2 (by decide)) ?_
  refine rb_TC.mono (rk_istore_n (lv2 := [some (va_rf r0), some (.int x1), some (.int (0 : Int32)), some (.int (0 : Int32)), none]) 3 d_M_carryOut_3 rfl (by decide) (fun _ => rb_one_i) rfl) ?_
  exact rb_TC.loop2 (A := (fun z : (Int32 × Int32) => rb_WK E k_M_carryOut d σ res 4 [some (va_rf r0), some (.int x1), some (.int z.1), some (.int z.2), none] [] σ)) ((0 : Int32), (0 : Int32)) (fun z => t_M_carryOut_b4 hdd  (r0) (x1) (z.1) (z.2) σ)
-- ===== RuleBuilderModel.finish(I)I
def k_M_finish : rb_MK := (⟨"RuleBuilderModel", "finish", "(I)I"⟩, prog_14_method_50_code, 5, some (.int))
theorem mw_M_finish : rb_Mw k_M_finish 1 := ⟨rb_inG 1642 (by decide +kernel) rfl, rb_inG 94 (by decide +kernel) rfl, ⟨by decide, by decide, by decide +kernel⟩, by decide⟩
theorem fp_M_finish_242 : rb_Fp k_M_finish 242 13 68 .int := ⟨fw_M_242, rfl, fun q h => by cases h; exact Or.inl rfl⟩
theorem fw_M_386 : rb_Fw "RuleBuilderModel" 386 13 69 := ⟨_, rfl, by decide, by decide, by decide, rfl, rb_inG 1289 (by decide +kernel) rfl⟩
theorem fp_M_finish_386 : rb_Fp k_M_finish 386 13 69 .boolean := ⟨fw_M_386, rfl, fun q h => by cases h; exact Or.inl rfl⟩
theorem vw_M_389 : rb_Vw "RuleBuilderModel" 389 k_M_carryOut 13 1 := ⟨mw_M_carryOut, rb_inG 1643 (by decide +kernel) rfl, rb_inG 1645 (by decide +kernel) rfl, rb_inG 74 (by decide +kernel) rfl, by decide, by decide, _, rfl, rfl⟩
theorem d_M_finish_0 : decode prog_14_method_50_code 0 = .ok (.aload_n 0, 1) := by decide +kernel
theorem d_M_finish_1 : decode prog_14_method_50_code 1 = .ok (.getfield 17, 3) := by decide +kernel
theorem d_M_finish_4 : decode prog_14_method_50_code 4 = .ok (.iload_n 1, 1) := by decide +kernel
theorem d_M_finish_5 : decode prog_14_method_50_code 5 = .ok (.baload, 1) := by decide +kernel
theorem d_M_finish_6 : decode prog_14_method_50_code 6 = .ok (.ifCond .eq 12, 3) := by decide +kernel
theorem d_M_finish_9 : decode prog_14_method_50_code 9 = .ok (.aload_n 0, 1) := by decide +kernel
theorem d_M_finish_10 : decode prog_14_method_50_code 10 = .ok (.getfield 54, 3) := by decide +kernel
theorem d_M_finish_13 : decode prog_14_method_50_code 13 = .ok (.iload_n 1, 1) := by decide +kernel
theorem d_M_finish_14 : decode prog_14_method_50_code 14 = .ok (.baload, 1) := by decide +kernel
theorem d_M_finish_15 : decode prog_14_method_50_code 15 = .ok (.ifCond .eq 7, 3) := by decide +kernel
theorem d_M_finish_18 : decode prog_14_method_50_code 18 = .ok (.iconst 1, 1) := by decide +kernel
theorem d_M_finish_19 : decode prog_14_method_50_code 19 = .ok (.goto 4, 3) := by decide +kernel
theorem d_M_finish_22 : decode prog_14_method_50_code 22 = .ok (.iconst 0, 1) := by decide +kernel
theorem d_M_finish_23 : decode prog_14_method_50_code 23 = .ok (.istore_n 2, 1) := by decide +kernel
theorem d_M_finish_24 : decode prog_14_method_50_code 24 = .ok (.aload_n 0, 1) := by decide +kernel
theorem d_M_finish_25 : decode prog_14_method_50_code 25 = .ok (.iload_n 1, 1) := by decide +kernel
theorem d_M_finish_26 : decode prog_14_method_50_code 26 = .ok (.iconst 0, 1) := by decide +kernel
theorem d_M_finish_27 : decode prog_14_method_50_code 27 = .ok (.invokevirtual 251, 3) := by decide +kernel
theorem d_M_finish_30 : decode prog_14_method_50_code 30 = .ok (.istore_n 3, 1) := by decide +kernel
theorem d_M_finish_31 : decode prog_14_method_50_code 31 = .ok (.iconst 0, 1) := by decide +kernel
theorem d_M_finish_32 : decode prog_14_method_50_code 32 = .ok (.istore 4, 2) := by decide +kernel
theorem d_M_finish_34 : decode prog_14_method_50_code 34 = .ok (.iload_n 3, 1) := by decide +kernel
theorem d_M_finish_35 : decode prog_14_method_50_code 35 = .ok (.ifCond .lt 85, 3) := by decide +kernel
theorem d_M_finish_38 : decode prog_14_method_50_code 38 = .ok (.aload_n 0, 1) := by decide +kernel
theorem d_M_finish_39 : decode prog_14_method_50_code 39 = .ok (.getfield 150, 3) := by decide +kernel
theorem d_M_finish_42 : decode prog_14_method_50_code 42 = .ok (.iload 4, 2) := by decide +kernel
theorem d_M_finish_44 : decode prog_14_method_50_code 44 = .ok (.aload_n 0, 1) := by decide +kernel
theorem d_M_finish_45 : decode prog_14_method_50_code 45 = .ok (.getfield 123, 3) := by decide +kernel
theorem d_M_finish_48 : decode prog_14_method_50_code 48 = .ok (.iload_n 3, 1) := by decide +kernel
theorem d_M_finish_49 : decode prog_14_method_50_code 49 = .ok (.iaload, 1) := by decide +kernel
theorem d_M_finish_50 : decode prog_14_method_50_code 50 = .ok (.iconst 2, 1) := by decide +kernel
theorem d_M_finish_51 : decode prog_14_method_50_code 51 = .ok (.if_icmp .eq 27, 3) := by decide +kernel
theorem d_M_finish_54 : decode prog_14_method_50_code 54 = .ok (.aload_n 0, 1) := by decide +kernel
theorem d_M_finish_55 : decode prog_14_method_50_code 55 = .ok (.getfield 17, 3) := by decide +kernel
theorem d_M_finish_58 : decode prog_14_method_50_code 58 = .ok (.iload_n 3, 1) := by decide +kernel
theorem d_M_finish_59 : decode prog_14_method_50_code 59 = .ok (.baload, 1) := by decide +kernel
theorem d_M_finish_60 : decode prog_14_method_50_code 60 = .ok (.ifCond .eq 22, 3) := by decide +kernel
theorem d_M_finish_63 : decode prog_14_method_50_code 63 = .ok (.aload_n 0, 1) := by decide +kernel
theorem d_M_finish_64 : decode prog_14_method_50_code 64 = .ok (.getfield 21, 3) := by decide +kernel
theorem d_M_finish_67 : decode prog_14_method_50_code 67 = .ok (.iload_n 3, 1) := by decide +kernel
theorem d_M_finish_68 : decode prog_14_method_50_code 68 = .ok (.iaload, 1) := by decide +kernel
theorem d_M_finish_69 : decode prog_14_method_50_code 69 = .ok (.aload_n 0, 1) := by decide +kernel
theorem d_M_finish_70 : decode prog_14_method_50_code 70 = .ok (.getfield 21, 3) := by decide +kernel
theorem d_M_finish_73 : decode prog_14_method_50_code 73 = .ok (.iload_n 1, 1) := by decide +kernel
theorem d_M_finish_74 : decode prog_14_method_50_code 74 = .ok (.iaload, 1) := by decide +kernel
theorem d_M_finish_75 : decode prog_14_method_50_code 75 = .ok (.if_icmp .le 7, 3) := by decide +kernel
theorem d_M_finish_78 : decode prog_14_method_50_code 78 = .ok (.iconst 1, 1) := by decide +kernel
theorem d_M_finish_79 : decode prog_14_method_50_code 79 = .ok (.goto 4, 3) := by decide +kernel
theorem d_M_finish_82 : decode prog_14_method_50_code 82 = .ok (.iconst 0, 1) := by decide +kernel
theorem d_M_finish_83 : decode prog_14_method_50_code 83 = .ok (.bastore, 1) := by decide +kernel
theorem d_M_finish_84 : decode prog_14_method_50_code 84 = .ok (.iload_n 2, 1) := by decide +kernel
theorem d_M_finish_85 : decode prog_14_method_50_code 85 = .ok (.ifCond .ne 13, 3) := by decide +kernel
theorem d_M_finish_88 : decode prog_14_method_50_code 88 = .ok (.aload_n 0, 1) := by decide +kernel
theorem d_M_finish_89 : decode prog_14_method_50_code 89 = .ok (.getfield 150, 3) := by decide +kernel
theorem d_M_finish_92 : decode prog_14_method_50_code 92 = .ok (.iload 4, 2) := by decide +kernel
theorem d_M_finish_94 : decode prog_14_method_50_code 94 = .ok (.baload, 1) := by decide +kernel
theorem d_M_finish_95 : decode prog_14_method_50_code 95 = .ok (.ifCond .eq 7, 3) := by decide +kernel
theorem d_M_finish_98 : decode prog_14_method_50_code 98 = .ok (.iconst 1, 1) := by decide +kernel
theorem d_M_finish_99 : decode prog_14_method_50_code 99 = .ok (.goto 4, 3) := by decide +kernel
theorem d_M_finish_102 : decode prog_14_method_50_code 102 = .ok (.iconst 0, 1) := by decide +kernel
theorem d_M_finish_103 : decode prog_14_method_50_code 103 = .ok (.istore_n 2, 1) := by decide +kernel
theorem d_M_finish_104 : decode prog_14_method_50_code 104 = .ok (.aload_n 0, 1) := by decide +kernel
theorem d_M_finish_105 : decode prog_14_method_50_code 105 = .ok (.iload_n 1, 1) := by decide +kernel
theorem d_M_finish_106 : decode prog_14_method_50_code 106 = .ok (.iload 4, 2) := by decide +kernel
theorem d_M_finish_108 : decode prog_14_method_50_code 108 = .ok (.iconst 1, 1) := by decide +kernel
theorem d_M_finish_109 : decode prog_14_method_50_code 109 = .ok (.iadd, 1) := by decide +kernel
theorem d_M_finish_110 : decode prog_14_method_50_code 110 = .ok (.invokevirtual 251, 3) := by decide +kernel
theorem d_M_finish_113 : decode prog_14_method_50_code 113 = .ok (.istore_n 3, 1) := by decide +kernel
theorem d_M_finish_114 : decode prog_14_method_50_code 114 = .ok (.iinc 4 1, 3) := by decide +kernel
theorem d_M_finish_117 : decode prog_14_method_50_code 117 = .ok (.goto (-83), 3) := by decide +kernel
theorem d_M_finish_120 : decode prog_14_method_50_code 120 = .ok (.iload_n 2, 1) := by decide +kernel
theorem d_M_finish_121 : decode prog_14_method_50_code 121 = .ok (.ifCond .ne 5, 3) := by decide +kernel
theorem d_M_finish_124 : decode prog_14_method_50_code 124 = .ok (.iconst 1, 1) := by decide +kernel
theorem d_M_finish_125 : decode prog_14_method_50_code 125 = .ok (.ireturn, 1) := by decide +kernel
theorem d_M_finish_126 : decode prog_14_method_50_code 126 = .ok (.aload_n 0, 1) := by decide +kernel
theorem d_M_finish_127 : decode prog_14_method_50_code 127 = .ok (.iconst 1, 1) := by decide +kernel
theorem d_M_finish_128 : decode prog_14_method_50_code 128 = .ok (.putfield 386, 3) := by decide +kernel
theorem d_M_finish_131 : decode prog_14_method_50_code 131 = .ok (.aload_n 0, 1) := by decide +kernel
theorem d_M_finish_132 : decode prog_14_method_50_code 132 = .ok (.iload_n 1, 1) := by decide +kernel
theorem d_M_finish_133 : decode prog_14_method_50_code 133 = .ok (.putfield 242, 3) := by decide +kernel
theorem d_M_finish_136 : decode prog_14_method_50_code 136 = .ok (.aload_n 0, 1) := by decide +kernel
theorem d_M_finish_137 : decode prog_14_method_50_code 137 = .ok (.iload_n 1, 1) := by decide +kernel
theorem d_M_finish_138 : decode prog_14_method_50_code 138 = .ok (.invokevirtual 389, 3) := by decide +kernel
theorem d_M_finish_141 : decode prog_14_method_50_code 141 = .ok (.ifCond .eq 7, 3) := by decide +kernel
theorem d_M_finish_144 : decode prog_14_method_50_code 144 = .ok (.iconst 2, 1) := by decide +kernel
theorem d_M_finish_145 : decode prog_14_method_50_code 145 = .ok (.goto 4, 3) := by decide +kernel
theorem d_M_finish_148 : decode prog_14_method_50_code 148 = .ok (.iconst 3, 1) := by decide +kernel
theorem d_M_finish_149 : decode prog_14_method_50_code 149 = .ok (.ireturn, 1) := by decide +kernel
noncomputable def f_M_finish_j103 (r0 : Option Nat) (x1 : Int32) (x4 : Int32) (sx0 : Int32) (σ : rb_St) : Option ((Int32 × Int32 × Int32 × rb_St) ⊕ rb_Rs) :=
  (rb_fc σ r0 13).bind fun _ => rb_cI (f_M_dependency (r0) (x1) ((x4 + (1 : Int32))) σ) fun x_15 σ_16 => some (.inl (sx0, x_15, (x4 + 1), σ_16))
theorem t_M_finish_j103 {E : rb_EV} {d : Nat} {σ0 : rb_St} {res : rb_Rs} (hdd : 8 ≤ d)  (r0 : Option Nat) (x1 : Int32) (x4 : Int32) (sx0 : Int32) (σ : rb_St) : rb_TC (f_M_finish_j103 r0 x1 x4 sx0 σ) (Sum.elim (fun z : (Int32 × Int32 × Int32 × rb_St) => rb_WK E k_M_finish d σ0 res 34 [some (va_rf r0), some (.int x1), some (.int z.1), some (.int z.2.1), some (.int z.2.2.1)] [] z.2.2.2) (fun r => r = res)) (rb_WK E k_M_finish d σ0 res 103 [some (va_rf r0), some (.int x1), none, none, some (.int x4)] [.int sx0] σ) := by
  unfold f_M_finish_j103
  refine rb_TC.mono (rk_istore_n (lv2 := [some (va_rf r0), some (.int x1), some (.int sx0), none, some (.int x4)]) 2 d_M_finish_103 rfl (by decide) (fun _ => rb_one_i) rfl) ?_
  refine rb_TC.mono (rk_aload_n 0 d_M_finish_104 rfl rfl) ?_
  refine rb_TC.mono (rk_iload_n 1 d_M_finish_105 rfl rfl) ?_
  refine rb_TC.mono (rk_iload d_M_finish_106 rfl) ?_
  refine rb_TC.mono (rk_iconst (1 : Int32) d_M_finish_108 (by decide)) ?_
  refine rb_TC.mono (rk_iadd d_M_finish_109) ?_
  refine rt_vI (As := [.int x1, .int (x4 + (1 : Int32))]) (st := []) (r0) vw_M_251 (s_M_dependency (Nat.le_refl _) (r0) (x1) ((x4 + (1 : Int32))) σ) (Nat.le_trans (by decide) hdd) rfl (by simp [rb_cat_r, rb_cat_i, rb_cat_l]) d_M_finish_110 (fun x_15 σ_16 => ?_)
  refine rb_TC.mono (rk_istore_n (lv2 := [some (va_rf r0), some (.int x1), some (.int sx0), some (.int x_15), some (.int x4)]) 3 d_M_finish_113 rfl (by decide) (fun _ => rb_one_i) rfl) ?_
  refine rb_TC.mono (rk_iinc (lv2 := [some (va_rf r0), some (.int x1), some (.int sx0), some (.int x_15), some (.int (x4 + 1))]) (x4 + 1) d_M_finish_114 rfl rfl (by decide) (fun _ => rb_one_i) rfl) ?_
  refine rb_TC.mono (rk_goto 34 d_M_finish_117 (by decide)) ?_
  exact rb_back
noncomputable def f_M_finish_j98 (r0 : Option Nat) (x1 : Int32) (x4 : Int32) (σ : rb_St) : Option ((Int32 × Int32 × Int32 × rb_St) ⊕ rb_Rs) :=
  f_M_finish_j103 (r0) (x1) (x4) ((1 : Int32)) σ
theorem t_M_finish_j98 {E : rb_EV} {d : Nat} {σ0 : rb_St} {res : rb_Rs} (hdd : 8 ≤ d)  (r0 : Option Nat) (x1 : Int32) (x4 : Int32) (σ : rb_St) : rb_TC (f_M_finish_j98 r0 x1 x4 σ) (Sum.elim (fun z : (Int32 × Int32 × Int32 × rb_St) => rb_WK E k_M_finish d σ0 res 34 [some (va_rf r0), some (.int x1), some (.int z.1), some (.int z.2.1), some (.int z.2.2.1)] [] z.2.2.2) (fun r => r = res)) (rb_WK E k_M_finish d σ0 res 98 [some (va_rf r0), some (.int x1), none, none, some (.int x4)] [] σ) := by
  unfold f_M_finish_j98
  refine rb_TC.mono (rk_iconst (1 : Int32) d_M_finish_98 (by decide)) ?_
  refine rb_TC.mono (rk_goto 103 d_M_finish_99 (by decide)) ?_
  exact t_M_finish_j103 hdd  (r0) (x1) (x4) ((1 : Int32)) σ
noncomputable def f_M_finish_j83 (r0 : Option Nat) (x1 : Int32) (x2 : Int32) (x4 : Int32) (sx0 : Int32) (sx1 : Int32) (sr2 : Option Nat) (σ : rb_St) : Option ((Int32 × Int32 × Int32 × rb_St) ⊕ rb_Rs) :=
  (rb_sI σ sr2 104 sx1 sx0).bind fun σ_12 => if x2 = 0 then ((rb_gR σ_12 r0 13 67).bind fun r_13 => (rb_aI σ_12 r_13 104 x4).bind fun x_14 => if x_14 = 0 then (f_M_finish_j103 (r0) (x1) (x4) ((0 : Int32)) σ_12) else (f_M_finish_j98 (r0) (x1) (x4) σ_12)) else (f_M_finish_j98 (r0) (x1) (x4) σ_12)
theorem t_M_finish_j83 {E : rb_EV} {d : Nat} {σ0 : rb_St} {res : rb_Rs} (hdd : 8 ≤ d)  (r0 : Option Nat) (x1 : Int32) (x2 : Int32) (x4 : Int32) (sx0 : Int32) (sx1 : Int32) (sr2 : Option Nat) (σ : rb_St) : rb_TC (f_M_finish_j83 r0 x1 x2 x4 sx0 sx1 sr2 σ) (Sum.elim (fun z : (Int32 × Int32 × Int32 × rb_St) => rb_WK E k_M_finish d σ0 res 34 [some (va_rf r0), some (.int x1), some (.int z.1), some (.int z.2.1), some (.int z.2.2.1)] [] z.2.2.2) (fun r => r = res)) (rb_WK E k_M_finish d σ0 res 83 [some (va_rf r0), some (.int x1), some (.int x2), none, some (.int x4)] [.int sx0, .int sx1, va_rf sr2] σ) := by
  unfold f_M_finish_j83
  refine rt_zast sr2 d_M_finish_83 (fun σ_12 => ?_)
  refine rb_TC.mono (rk_iload_n 2 d_M_finish_84 rfl rfl) ?_
  refine rt_if_ne 98 d_M_finish_85 (by decide) (fun _ => ?_) (fun _ => ?_)
  · refine rb_TC.mono (rk_aload_n 0 d_M_finish_88 rfl rfl) ?_
    refine rt_gR r0 fw_M_150 d_M_finish_89 (fun r_13 => ?_)
    refine rb_TC.mono (rk_iload d_M_finish_92 rfl) ?_
    refine rt_zald r_13 d_M_finish_94 (fun x_14 => ?_)
    refine rt_if_eq 102 d_M_finish_95 (by decide) (fun _ => ?_) (fun _ => ?_)
    · refine rb_TC.mono (rk_iconst (0 : Int32) d_M_finish_102 (by decide)) ?_
      refine rb_TC.mono (rk_less (lv2 := [some (va_rf r0), some (.int x1), none, none, some (.int x4)]) (rb_le_ok (rb_leS (rb_leS (rb_leN (rb_leN (rb_leS rb_le0))))))) ?_
      exact t_M_finish_j103 hdd  (r0) (x1) (x4) ((0 : Int32)) σ_12
    · refine rb_TC.mono (rk_less (lv2 := [some (va_rf r0), some (.int x1), none, none, some (.int x4)]) (rb_le_ok (rb_leS (rb_leS (rb_leN (rb_leN (rb_leS rb_le0))))))) ?_
      exact t_M_finish_j98 hdd  (r0) (x1) (x4) σ_12
  · refine rb_TC.mono (rk_less (lv2 := [some (va_rf r0), some (.int x1), none, none, some (.int x4)]) (rb_le_ok (rb_leS (rb_leS (rb_leN (rb_leN (rb_leS rb_le0))))))) ?_
    exact t_M_finish_j98 hdd  (r0) (x1) (x4) σ_12
noncomputable def f_M_finish_j78 (r0 : Option Nat) (x1 : Int32) (x2 : Int32) (x4 : Int32) (sx0 : Int32) (sr1 : Option Nat) (σ : rb_St) : Option ((Int32 × Int32 × Int32 × rb_St) ⊕ rb_Rs) :=
  f_M_finish_j83 (r0) (x1) (x2) (x4) ((1 : Int32)) (sx0) (sr1) σ
theorem t_M_finish_j78 {E : rb_EV} {d : Nat} {σ0 : rb_St} {res : rb_Rs} (hdd : 8 ≤ d)  (r0 : Option Nat) (x1 : Int32) (x2 : Int32) (x4 : Int32) (sx0 : Int32) (sr1 : Option Nat) (σ : rb_St) : rb_TC (f_M_finish_j78 r0 x1 x2 x4 sx0 sr1 σ) (Sum.elim (fun z : (Int32 × Int32 × Int32 × rb_St) => rb_WK E k_M_finish d σ0 res 34 [some (va_rf r0), some (.int x1), some (.int z.1), some (.int z.2.1), some (.int z.2.2.1)] [] z.2.2.2) (fun r => r = res)) (rb_WK E k_M_finish d σ0 res 78 [some (va_rf r0), some (.int x1), some (.int x2), none, some (.int x4)] [.int sx0, va_rf sr1] σ) := by
  unfold f_M_finish_j78
  refine rb_TC.mono (rk_iconst (1 : Int32) d_M_finish_78 (by decide)) ?_
  refine rb_TC.mono (rk_goto 83 d_M_finish_79 (by decide)) ?_
  exact t_M_finish_j83 hdd  (r0) (x1) (x2) (x4) ((1 : Int32)) (sx0) (sr1) σ
noncomputable def f_M_finish_j82 (r0 : Option Nat) (x1 : Int32) (x2 : Int32) (x4 : Int32) (sx0 : Int32) (sr1 : Option Nat) (σ : rb_St) : Option ((Int32 × Int32 × Int32 × rb_St) ⊕ rb_Rs) :=
  f_M_finish_j83 (r0) (x1) (x2) (x4) ((0 : Int32)) (sx0) (sr1) σ
theorem t_M_finish_j82 {E : rb_EV} {d : Nat} {σ0 : rb_St} {res : rb_Rs} (hdd : 8 ≤ d)  (r0 : Option Nat) (x1 : Int32) (x2 : Int32) (x4 : Int32) (sx0 : Int32) (sr1 : Option Nat) (σ : rb_St) : rb_TC (f_M_finish_j82 r0 x1 x2 x4 sx0 sr1 σ) (Sum.elim (fun z : (Int32 × Int32 × Int32 × rb_St) => rb_WK E k_M_finish d σ0 res 34 [some (va_rf r0), some (.int x1), some (.int z.1), some (.int z.2.1), some (.int z.2.2.1)] [] z.2.2.2) (fun r => r = res)) (rb_WK E k_M_finish d σ0 res 82 [some (va_rf r0), some (.int x1), some (.int x2), none, some (.int x4)] [.int sx0, va_rf sr1] σ) := by
  unfold f_M_finish_j82
  refine rb_TC.mono (rk_iconst (0 : Int32) d_M_finish_82 (by decide)) ?_
  exact t_M_finish_j83 hdd  (r0) (x1) (x2) (x4) ((0 : Int32)) (sx0) (sr1) σ
noncomputable def f_M_finish_b34 (r0 : Option Nat) (x1 : Int32) (x2 : Int32) (x3 : Int32) (x4 : Int32) (σ : rb_St) : Option ((Int32 × Int32 × Int32 × rb_St) ⊕ rb_Rs) :=
  if x3 < 0 then ((if x2 = 0 then (some (some (.int (1 : Int32)), σ)) else ((rb_pZ σ r0 13 69 (1 : Int32)).bind fun σ_5 => (rb_pI σ_5 r0 13 68 x1).bind fun σ_6 => (rb_fc σ_6 r0 13).bind fun _ => rb_cI (f_M_carryOut (r0) (x1) σ_6) fun x_7 σ_8 => if x_7 = 0 then (some (some (.int (3 : Int32)), σ_8)) else (some (some (.int (2 : Int32)), σ_8)))).map Sum.inr) else ((rb_gR σ r0 13 67).bind fun r_9 => (rb_gR σ r0 13 57).bind fun r_10 => (rb_aI σ r_10 102 x3).bind fun x_11 => if x_11 = (2 : Int32) then (f_M_finish_j78 (r0) (x1) (x2) (x4) (x4) (r_9) σ) else ((rb_gR σ r0 13 4).bind fun r_17 => (rb_aI σ r_17 104 x3).bind fun x_18 => if x_18 = 0 then (f_M_finish_j82 (r0) (x1) (x2) (x4) (x4) (r_9) σ) else ((rb_gR σ r0 13 5).bind fun r_19 => (rb_aI σ r_19 102 x3).bind fun x_20 => (rb_gR σ r0 13 5).bind fun r_21 => (rb_aI σ r_21 102 x1).bind fun x_22 => if x_20 ≤ x_22 then (f_M_finish_j82 (r0) (x1) (x2) (x4) (x4) (r_9) σ) else (f_M_finish_j78 (r0) (x1) (x2) (x4) (x4) (r_9) σ))))
theorem t_M_finish_b34 {E : rb_EV} {d : Nat} {σ0 : rb_St} {res : rb_Rs} (hdd : 8 ≤ d)  (r0 : Option Nat) (x1 : Int32) (x2 : Int32) (x3 : Int32) (x4 : Int32) (σ : rb_St) : rb_TC (f_M_finish_b34 r0 x1 x2 x3 x4 σ) (Sum.elim (fun z : (Int32 × Int32 × Int32 × rb_St) => rb_WK E k_M_finish d σ0 res 34 [some (va_rf r0), some (.int x1), some (.int z.1), some (.int z.2.1), some (.int z.2.2.1)] [] z.2.2.2) (fun r => r = res)) (rb_WK E k_M_finish d σ0 res 34 [some (va_rf r0), some (.int x1), some (.int x2), some (.int x3), some (.int x4)] [] σ) := by
  unfold f_M_finish_b34
  refine rb_TC.mono (rk_iload_n 3 d_M_finish_34 rfl rfl) ?_
  refine rt_if_lt 120 d_M_finish_35 (by decide) (fun _ => ?_) (fun _ => ?_)
  · refine rb_TC.out ?_
    refine rb_TC.mono (rk_iload_n 2 d_M_finish_120 rfl rfl) ?_
    refine rt_if_ne 126 d_M_finish_121 (by decide) (fun _ => ?_) (fun _ => ?_)
    · refine rb_TC.mono (rk_iconst (1 : Int32) d_M_finish_124 (by decide)) ?_
      exact rt_iret (ty := .int) rfl rfl (fun h => h) d_M_finish_125
    · refine rb_TC.mono (rk_aload_n 0 d_M_finish_126 rfl rfl) ?_
      refine rb_TC.mono (rk_iconst (1 : Int32) d_M_finish_127 (by decide)) ?_
      refine rt_pZ r0 fp_M_finish_386 d_M_finish_128 (fun σ_5 => ?_)
      refine rb_TC.mono (rk_aload_n 0 d_M_finish_131 rfl rfl) ?_
      refine rb_TC.mono (rk_iload_n 1 d_M_finish_132 rfl rfl) ?_
      refine rt_pI r0 fp_M_finish_242 d_M_finish_133 (fun σ_6 => ?_)
      refine rb_TC.mono (rk_aload_n 0 d_M_finish_136 rfl rfl) ?_
      refine rb_TC.mono (rk_iload_n 1 d_M_finish_137 rfl rfl) ?_
      refine rt_vI (As := [.int x1]) (st := []) (r0) vw_M_389 (s_M_carryOut (Nat.le_refl _) (r0) (x1) σ_6) (Nat.le_trans (by decide) hdd) rfl (by simp [rb_cat_r, rb_cat_i, rb_cat_l]) d_M_finish_138 (fun x_7 σ_8 => ?_)
      refine rt_if_eq 148 d_M_finish_141 (by decide) (fun _ => ?_) (fun _ => ?_)
      · refine rb_TC.mono (rk_iconst (3 : Int32) d_M_finish_148 (by decide)) ?_
        exact rt_iret (ty := .int) rfl rfl (fun h => h) d_M_finish_149
      · refine rb_TC.mono (rk_iconst (2 : Int32) d_M_finish_144 (by decide)) ?_
        refine rb_TC.mono (rk_goto 149 d_M_finish_145 (by decide)) ?_
        exact rt_iret (ty := .int) rfl rfl (fun h => h) d_M_finish_149
  · refine rb_TC.mono (rk_aload_n 0 d_M_finish_38 rfl rfl) ?_
    refine rt_gR r0 fw_M_150 d_M_finish_39 (fun r_9 => ?_)
    refine rb_TC.mono (rk_iload d_M_finish_42 rfl) ?_
    refine rb_TC.mono (rk_aload_n 0 d_M_finish_44 rfl rfl) ?_
    refine rt_gR r0 fw_M_123 d_M_finish_45 (fun r_10 => ?_)
    refine rb_TC.mono (rk_iload_n 3 d_M_finish_48 rfl rfl) ?_
    refine rt_iald r_10 d_M_finish_49 (fun x_11 => ?_)
    refine rb_TC.mono (rk_iconst (2 : Int32) d_M_finish_50 (by decide)) ?_
    refine rt_icmp_eq 78 d_M_finish_51 (by decide) (fun _ => ?_) (fun _ => ?_)
    · refine rb_TC.mono (rk_less (lv2 := [some (va_rf r0), some (.int x1), some (.int x2), none, some (.int x4)]) (rb_le_ok (rb_leS (rb_leS (rb_leS (rb_leN (rb_leS rb_le0))))))) ?_
      exact t_M_finish_j78 hdd  (r0) (x1) (x2) (x4) (x4) (r_9) σ
    · refine rb_TC.mono (rk_aload_n 0 d_M_finish_54 rfl rfl) ?_
      refine rt_gR r0 fw_M_17 d_M_finish_55 (fun r_17 => ?_)
      refine rb_TC.mono (rk_iload_n 3 d_M_finish_58 rfl rfl) ?_
      refine rt_zald r_17 d_M_finish_59 (fun x_18 => ?_)
      refine rt_if_eq 82 d_M_finish_60 (by decide) (fun _ => ?_) (fun _ => ?_)
      · refine rb_TC.mono (rk_less (lv2 := [some (va_rf r0), some (.int x1), some (.int x2), none, some (.int x4)]) (rb_le_ok (rb_leS (rb_leS (rb_leS (rb_leN (rb_leS rb_le0))))))) ?_
        exact t_M_finish_j82 hdd  (r0) (x1) (x2) (x4) (x4) (r_9) σ
      · refine rb_TC.mono (rk_aload_n 0 d_M_finish_63 rfl rfl) ?_
        refine rt_gR r0 fw_M_21 d_M_finish_64 (fun r_19 => ?_)
        refine rb_TC.mono (rk_iload_n 3 d_M_finish_67 rfl rfl) ?_
        refine rt_iald r_19 d_M_finish_68 (fun x_20 => ?_)
        refine rb_TC.mono (rk_aload_n 0 d_M_finish_69 rfl rfl) ?_
        refine rt_gR r0 fw_M_21 d_M_finish_70 (fun r_21 => ?_)
        refine rb_TC.mono (rk_iload_n 1 d_M_finish_73 rfl rfl) ?_
        refine rt_iald r_21 d_M_finish_74 (fun x_22 => ?_)
        refine rt_icmp_le 82 d_M_finish_75 (by decide) (fun _ => ?_) (fun _ => ?_)
        · refine rb_TC.mono (rk_less (lv2 := [some (va_rf r0), some (.int x1), some (.int x2), none, some (.int x4)]) (rb_le_ok (rb_leS (rb_leS (rb_leS (rb_leN (rb_leS rb_le0))))))) ?_
          exact t_M_finish_j82 hdd  (r0) (x1) (x2) (x4) (x4) (r_9) σ
        · refine rb_TC.mono (rk_less (lv2 := [some (va_rf r0), some (.int x1), some (.int x2), none, some (.int x4)]) (rb_le_ok (rb_leS (rb_leS (rb_leS (rb_leN (rb_leS rb_le0))))))) ?_
          exact t_M_finish_j78 hdd  (r0) (x1) (x2) (x4) (x4) (r_9) σ
noncomputable def f_M_finish_j23 (r0 : Option Nat) (x1 : Int32) (sx0 : Int32) (σ : rb_St) : Option rb_Rs :=
  (rb_fc σ r0 13).bind fun _ => rb_cI (f_M_dependency (r0) (x1) ((0 : Int32)) σ) fun x_3 σ_4 => rb_it (fun z : (Int32 × Int32 × Int32 × rb_St) => f_M_finish_b34 (r0) (x1) (z.1) (z.2.1) (z.2.2.1) z.2.2.2) (sx0, x_3, (0 : Int32), σ_4)
theorem t_M_finish_j23 {E : rb_EV} {d : Nat} {σ0 : rb_St} {res : rb_Rs} (hdd : 8 ≤ d)  (r0 : Option Nat) (x1 : Int32) (sx0 : Int32) (σ : rb_St) : rb_TC (f_M_finish_j23 r0 x1 sx0 σ) (fun r => r = res) (rb_WK E k_M_finish d σ0 res 23 [some (va_rf r0), some (.int x1), none, none, none] [.int sx0] σ) := by
  unfold f_M_finish_j23
  refine rb_TC.mono (rk_istore_n (lv2 := [some (va_rf r0), some (.int x1), some (.int sx0), none, none]) 2 d_M_finish_23 rfl (by decide) (fun _ => rb_one_i) rfl) ?_
  refine rb_TC.mono (rk_aload_n 0 d_M_finish_24 rfl rfl) ?_
  refine rb_TC.mono (rk_iload_n 1 d_M_finish_25 rfl rfl) ?_
  refine rb_TC.mono (rk_iconst (0 : Int32) d_M_finish_26 (by decide)) ?_
  refine rt_vI (As := [.int x1, .int (0 : Int32)]) (st := []) (r0) vw_M_251 (s_M_dependency (Nat.le_refl _) (r0) (x1) ((0 : Int32)) σ) (Nat.le_trans (by decide) hdd) rfl (by simp [rb_cat_r, rb_cat_i, rb_cat_l]) d_M_finish_27 (fun x_3 σ_4 => ?_)
  refine rb_TC.mono (rk_istore_n (lv2 := [some (va_rf r0), some (.int x1), some (.int sx0), some (.int x_3), none]) 3 d_M_finish_30 rfl (by decide) (fun _ => rb_one_i) rfl) ?_
  refine rb_TC.mono (rk_iconst (0 : Int32) d_M_finish_31 (by decide)) ?_
  refine rb_TC.mono (rk_istore (lv2 := [some (va_rf r0), some (.int x1), some (.int sx0), some (.int x_3), some (.int (0 : Int32))]) d_M_finish_32 (by decide) (fun _ => rb_one_i) rfl) ?_
  exact rb_TC.loop2 (A := (fun z : (Int32 × Int32 × Int32 × rb_St) => rb_WK E k_M_finish d σ0 res 34 [some (va_rf r0), some (.int x1), some (.int z.1), some (.int z.2.1), some (.int z.2.2.1)] [] z.2.2.2)) (sx0, x_3, (0 : Int32), σ_4) (fun z => t_M_finish_b34 hdd  (r0) (x1) (z.1) (z.2.1) (z.2.2.1) z.2.2.2)
noncomputable def f_M_finish_j18 (r0 : Option Nat) (x1 : Int32) (σ : rb_St) : Option rb_Rs :=
  f_M_finish_j23 (r0) (x1) ((1 : Int32)) σ
theorem t_M_finish_j18 {E : rb_EV} {d : Nat} {σ0 : rb_St} {res : rb_Rs} (hdd : 8 ≤ d)  (r0 : Option Nat) (x1 : Int32) (σ : rb_St) : rb_TC (f_M_finish_j18 r0 x1 σ) (fun r => r = res) (rb_WK E k_M_finish d σ0 res 18 [some (va_rf r0), some (.int x1), none, none, none] [] σ) := by
  unfold f_M_finish_j18
  refine rb_TC.mono (rk_iconst (1 : Int32) d_M_finish_18 (by decide)) ?_
  refine rb_TC.mono (rk_goto 23 d_M_finish_19 (by decide)) ?_
  exact t_M_finish_j23 hdd  (r0) (x1) ((1 : Int32)) σ
noncomputable def f_M_finish (r0 : Option Nat) (x1 : Int32) (σ : rb_St) : Option rb_Rs :=
  (rb_gR σ r0 13 4).bind fun r_1 => (rb_aI σ r_1 104 x1).bind fun x_2 => if x_2 = 0 then (f_M_finish_j18 (r0) (x1) σ) else ((rb_gR σ r0 13 19).bind fun r_23 => (rb_aI σ r_23 104 x1).bind fun x_24 => if x_24 = 0 then (f_M_finish_j23 (r0) (x1) ((0 : Int32)) σ) else (f_M_finish_j18 (r0) (x1) σ))
theorem s_M_finish {E : rb_EV} {d : Nat} (hdd : 8 ≤ d) (r0 : Option Nat) (x1 : Int32) (σ : rb_St) : rb_Does E k_M_finish d [va_rf r0, .int x1] σ (f_M_finish r0 x1 σ) := by
  refine rb_start (lv := [some (va_rf r0), some (.int x1), none, none, none]) (by decide) (by simp [lg_sl, rb_as, lv_args, rb_cat_r, rb_cat_i, rb_cat_l, rb_nL, k_M_finish]) (fun res => ?_)
  unfold f_M_finish
  refine rb_TC.mono (rk_aload_n 0 d_M_finish_0 rfl rfl) ?_
  refine rt_gR r0 fw_M_17 d_M_finish_1 (fun r_1 => ?_)
  refine rb_TC.mono (rk_iload_n 1 d_M_finish_4 rfl rfl) ?_
  refine rt_zald r_1 d_M_finish_5 (fun x_2 => ?_)
  refine rt_if_eq 18 d_M_finish_6 (by decide) (fun _ => ?_) (fun _ => ?_)
  · exact t_M_finish_j18 hdd  (r0) (x1) σ
  · refine rb_TC.mono (rk_aload_n 0 d_M_finish_9 rfl rfl) ?_
    refine rt_gR r0 fw_M_54 d_M_finish_10 (fun r_23 => ?_)
    refine rb_TC.mono (rk_iload_n 1 d_M_finish_13 rfl rfl) ?_
    refine rt_zald r_23 d_M_finish_14 (fun x_24 => ?_)
    refine rt_if_eq 22 d_M_finish_15 (by decide) (fun _ => ?_) (fun _ => ?_)
    · refine rb_TC.mono (rk_iconst (0 : Int32) d_M_finish_22 (by decide)) ?_
      exact t_M_finish_j23 hdd  (r0) (x1) ((0 : Int32)) σ
    · exact t_M_finish_j18 hdd  (r0) (x1) σ
-- ===== RuleBuilderModel.update(I)V
def k_M_update : rb_MK := (⟨"RuleBuilderModel", "update", "(I)V"⟩, prog_14_method_49_code, 4, none)
theorem mw_M_update : rb_Mw k_M_update 1 := ⟨rb_inG 1618 (by decide +kernel) rfl, rb_inG 94 (by decide +kernel) rfl, ⟨by decide, by decide, by decide +kernel⟩, by decide⟩
theorem fp_M_update_373 : rb_Fp k_M_update 373 13 66 .int := ⟨fw_M_373, rfl, fun q h => by cases h; exact Or.inl rfl⟩
theorem vw_M_376 : rb_Vw "RuleBuilderModel" 376 k_M_begin 13 1 := ⟨mw_M_begin, rb_inG 1619 (by decide +kernel) rfl, rb_inG 1621 (by decide +kernel) rfl, rb_inG 68 (by decide +kernel) rfl, by decide, by decide, _, rfl, rfl⟩
theorem vw_M_382 : rb_Vw "RuleBuilderModel" 382 k_M_finish 13 1 := ⟨mw_M_finish, rb_inG 1639 (by decide +kernel) rfl, rb_inG 1641 (by decide +kernel) rfl, rb_inG 73 (by decide +kernel) rfl, by decide, by decide, _, rfl, rfl⟩
theorem d_M_update_0 : decode prog_14_method_49_code 0 = .ok (.aload_n 0, 1) := by decide +kernel
theorem d_M_update_1 : decode prog_14_method_49_code 1 = .ok (.iconst 0, 1) := by decide +kernel
theorem d_M_update_2 : decode prog_14_method_49_code 2 = .ok (.putfield 373, 3) := by decide +kernel
theorem d_M_update_5 : decode prog_14_method_49_code 5 = .ok (.aload_n 0, 1) := by decide +kernel
theorem d_M_update_6 : decode prog_14_method_49_code 6 = .ok (.iload_n 1, 1) := by decide +kernel
theorem d_M_update_7 : decode prog_14_method_49_code 7 = .ok (.invokevirtual 376, 3) := by decide +kernel
theorem d_M_update_10 : decode prog_14_method_49_code 10 = .ok (.aload_n 0, 1) := by decide +kernel
theorem d_M_update_11 : decode prog_14_method_49_code 11 = .ok (.getfield 373, 3) := by decide +kernel
theorem d_M_update_14 : decode prog_14_method_49_code 14 = .ok (.ifCond .le 174, 3) := by decide +kernel
theorem d_M_update_17 : decode prog_14_method_49_code 17 = .ok (.aload_n 0, 1) := by decide +kernel
theorem d_M_update_18 : decode prog_14_method_49_code 18 = .ok (.getfield 147, 3) := by decide +kernel
theorem d_M_update_21 : decode prog_14_method_49_code 21 = .ok (.aload_n 0, 1) := by decide +kernel
theorem d_M_update_22 : decode prog_14_method_49_code 22 = .ok (.getfield 373, 3) := by decide +kernel
theorem d_M_update_25 : decode prog_14_method_49_code 25 = .ok (.iconst 1, 1) := by decide +kernel
theorem d_M_update_26 : decode prog_14_method_49_code 26 = .ok (.isub, 1) := by decide +kernel
theorem d_M_update_27 : decode prog_14_method_49_code 27 = .ok (.iaload, 1) := by decide +kernel
theorem d_M_update_28 : decode prog_14_method_49_code 28 = .ok (.istore_n 2, 1) := by decide +kernel
theorem d_M_update_29 : decode prog_14_method_49_code 29 = .ok (.aload_n 0, 1) := by decide +kernel
theorem d_M_update_30 : decode prog_14_method_49_code 30 = .ok (.getfield 129, 3) := by decide +kernel
theorem d_M_update_33 : decode prog_14_method_49_code 33 = .ok (.iload_n 2, 1) := by decide +kernel
theorem d_M_update_34 : decode prog_14_method_49_code 34 = .ok (.baload, 1) := by decide +kernel
theorem d_M_update_35 : decode prog_14_method_49_code 35 = .ok (.ifCond .eq 15, 3) := by decide +kernel
theorem d_M_update_38 : decode prog_14_method_49_code 38 = .ok (.aload_n 0, 1) := by decide +kernel
theorem d_M_update_39 : decode prog_14_method_49_code 39 = .ok (.iconst 1, 1) := by decide +kernel
theorem d_M_update_40 : decode prog_14_method_49_code 40 = .ok (.invokevirtual 379, 3) := by decide +kernel
theorem d_M_update_43 : decode prog_14_method_49_code 43 = .ok (.ifCond .ne 7, 3) := by decide +kernel
theorem d_M_update_46 : decode prog_14_method_49_code 46 = .ok (.iconst (-1), 1) := by decide +kernel
theorem d_M_update_47 : decode prog_14_method_49_code 47 = .ok (.goto 14, 3) := by decide +kernel
theorem d_M_update_50 : decode prog_14_method_49_code 50 = .ok (.aload_n 0, 1) := by decide +kernel
theorem d_M_update_51 : decode prog_14_method_49_code 51 = .ok (.iload_n 2, 1) := by decide +kernel
theorem d_M_update_52 : decode prog_14_method_49_code 52 = .ok (.aload_n 0, 1) := by decide +kernel
theorem d_M_update_53 : decode prog_14_method_49_code 53 = .ok (.getfield 132, 3) := by decide +kernel
theorem d_M_update_56 : decode prog_14_method_49_code 56 = .ok (.iload_n 2, 1) := by decide +kernel
theorem d_M_update_57 : decode prog_14_method_49_code 57 = .ok (.iaload, 1) := by decide +kernel
theorem d_M_update_58 : decode prog_14_method_49_code 58 = .ok (.invokevirtual 251, 3) := by decide +kernel
theorem d_M_update_61 : decode prog_14_method_49_code 61 = .ok (.istore_n 3, 1) := by decide +kernel
theorem d_M_update_62 : decode prog_14_method_49_code 62 = .ok (.iload_n 3, 1) := by decide +kernel
theorem d_M_update_63 : decode prog_14_method_49_code 63 = .ok (.ifCond .ge 47, 3) := by decide +kernel
theorem d_M_update_66 : decode prog_14_method_49_code 66 = .ok (.aload_n 0, 1) := by decide +kernel
theorem d_M_update_67 : decode prog_14_method_49_code 67 = .ok (.dup, 1) := by decide +kernel
theorem d_M_update_68 : decode prog_14_method_49_code 68 = .ok (.getfield 373, 3) := by decide +kernel
theorem d_M_update_71 : decode prog_14_method_49_code 71 = .ok (.iconst 1, 1) := by decide +kernel
theorem d_M_update_72 : decode prog_14_method_49_code 72 = .ok (.isub, 1) := by decide +kernel
theorem d_M_update_73 : decode prog_14_method_49_code 73 = .ok (.putfield 373, 3) := by decide +kernel
theorem d_M_update_76 : decode prog_14_method_49_code 76 = .ok (.aload_n 0, 1) := by decide +kernel
theorem d_M_update_77 : decode prog_14_method_49_code 77 = .ok (.getfield 126, 3) := by decide +kernel
theorem d_M_update_80 : decode prog_14_method_49_code 80 = .ok (.iload_n 2, 1) := by decide +kernel
theorem d_M_update_81 : decode prog_14_method_49_code 81 = .ok (.iconst 0, 1) := by decide +kernel
theorem d_M_update_82 : decode prog_14_method_49_code 82 = .ok (.bastore, 1) := by decide +kernel
theorem d_M_update_83 : decode prog_14_method_49_code 83 = .ok (.aload_n 0, 1) := by decide +kernel
theorem d_M_update_84 : decode prog_14_method_49_code 84 = .ok (.getfield 123, 3) := by decide +kernel
theorem d_M_update_87 : decode prog_14_method_49_code 87 = .ok (.iload_n 2, 1) := by decide +kernel
theorem d_M_update_88 : decode prog_14_method_49_code 88 = .ok (.aload_n 0, 1) := by decide +kernel
theorem d_M_update_89 : decode prog_14_method_49_code 89 = .ok (.getfield 129, 3) := by decide +kernel
theorem d_M_update_92 : decode prog_14_method_49_code 92 = .ok (.iload_n 2, 1) := by decide +kernel
theorem d_M_update_93 : decode prog_14_method_49_code 93 = .ok (.baload, 1) := by decide +kernel
theorem d_M_update_94 : decode prog_14_method_49_code 94 = .ok (.ifCond .eq 7, 3) := by decide +kernel
theorem d_M_update_97 : decode prog_14_method_49_code 97 = .ok (.iconst 3, 1) := by decide +kernel
theorem d_M_update_98 : decode prog_14_method_49_code 98 = .ok (.goto 8, 3) := by decide +kernel
theorem d_M_update_101 : decode prog_14_method_49_code 101 = .ok (.aload_n 0, 1) := by decide +kernel
theorem d_M_update_102 : decode prog_14_method_49_code 102 = .ok (.iload_n 2, 1) := by decide +kernel
theorem d_M_update_103 : decode prog_14_method_49_code 103 = .ok (.invokevirtual 382, 3) := by decide +kernel
theorem d_M_update_106 : decode prog_14_method_49_code 106 = .ok (.iastore, 1) := by decide +kernel
theorem d_M_update_107 : decode prog_14_method_49_code 107 = .ok (.goto 78, 3) := by decide +kernel
theorem d_M_update_110 : decode prog_14_method_49_code 110 = .ok (.aload_n 0, 1) := by decide +kernel
theorem d_M_update_111 : decode prog_14_method_49_code 111 = .ok (.getfield 123, 3) := by decide +kernel
theorem d_M_update_114 : decode prog_14_method_49_code 114 = .ok (.iload_n 3, 1) := by decide +kernel
theorem d_M_update_115 : decode prog_14_method_49_code 115 = .ok (.iaload, 1) := by decide +kernel
theorem d_M_update_116 : decode prog_14_method_49_code 116 = .ok (.ifCond .ne 20, 3) := by decide +kernel
theorem d_M_update_119 : decode prog_14_method_49_code 119 = .ok (.aload_n 0, 1) := by decide +kernel
theorem d_M_update_120 : decode prog_14_method_49_code 120 = .ok (.getfield 126, 3) := by decide +kernel
theorem d_M_update_123 : decode prog_14_method_49_code 123 = .ok (.iload_n 3, 1) := by decide +kernel
theorem d_M_update_124 : decode prog_14_method_49_code 124 = .ok (.baload, 1) := by decide +kernel
theorem d_M_update_125 : decode prog_14_method_49_code 125 = .ok (.ifCond .ne 11, 3) := by decide +kernel
theorem d_M_update_128 : decode prog_14_method_49_code 128 = .ok (.aload_n 0, 1) := by decide +kernel
theorem d_M_update_129 : decode prog_14_method_49_code 129 = .ok (.iload_n 3, 1) := by decide +kernel
theorem d_M_update_130 : decode prog_14_method_49_code 130 = .ok (.invokevirtual 376, 3) := by decide +kernel
theorem d_M_update_133 : decode prog_14_method_49_code 133 = .ok (.goto 52, 3) := by decide +kernel
theorem d_M_update_136 : decode prog_14_method_49_code 136 = .ok (.aload_n 0, 1) := by decide +kernel
theorem d_M_update_137 : decode prog_14_method_49_code 137 = .ok (.getfield 129, 3) := by decide +kernel
theorem d_M_update_140 : decode prog_14_method_49_code 140 = .ok (.iload_n 2, 1) := by decide +kernel
theorem d_M_update_141 : decode prog_14_method_49_code 141 = .ok (.aload_n 0, 1) := by decide +kernel
theorem d_M_update_142 : decode prog_14_method_49_code 142 = .ok (.getfield 129, 3) := by decide +kernel
theorem d_M_update_145 : decode prog_14_method_49_code 145 = .ok (.iload_n 2, 1) := by decide +kernel
theorem d_M_update_146 : decode prog_14_method_49_code 146 = .ok (.baload, 1) := by decide +kernel
theorem d_M_update_147 : decode prog_14_method_49_code 147 = .ok (.ifCond .ne 22, 3) := by decide +kernel
theorem d_M_update_150 : decode prog_14_method_49_code 150 = .ok (.aload_n 0, 1) := by decide +kernel
theorem d_M_update_151 : decode prog_14_method_49_code 151 = .ok (.getfield 126, 3) := by decide +kernel
theorem d_M_update_154 : decode prog_14_method_49_code 154 = .ok (.iload_n 3, 1) := by decide +kernel
theorem d_M_update_155 : decode prog_14_method_49_code 155 = .ok (.baload, 1) := by decide +kernel
theorem d_M_update_156 : decode prog_14_method_49_code 156 = .ok (.ifCond .ne 13, 3) := by decide +kernel
theorem d_M_update_159 : decode prog_14_method_49_code 159 = .ok (.aload_n 0, 1) := by decide +kernel
theorem d_M_update_160 : decode prog_14_method_49_code 160 = .ok (.getfield 123, 3) := by decide +kernel
theorem d_M_update_163 : decode prog_14_method_49_code 163 = .ok (.iload_n 3, 1) := by decide +kernel
theorem d_M_update_164 : decode prog_14_method_49_code 164 = .ok (.iaload, 1) := by decide +kernel
theorem d_M_update_165 : decode prog_14_method_49_code 165 = .ok (.iconst 3, 1) := by decide +kernel
theorem d_M_update_166 : decode prog_14_method_49_code 166 = .ok (.if_icmp .ne 7, 3) := by decide +kernel
theorem d_M_update_169 : decode prog_14_method_49_code 169 = .ok (.iconst 1, 1) := by decide +kernel
theorem d_M_update_170 : decode prog_14_method_49_code 170 = .ok (.goto 4, 3) := by decide +kernel
theorem d_M_update_173 : decode prog_14_method_49_code 173 = .ok (.iconst 0, 1) := by decide +kernel
theorem d_M_update_174 : decode prog_14_method_49_code 174 = .ok (.bastore, 1) := by decide +kernel
theorem d_M_update_175 : decode prog_14_method_49_code 175 = .ok (.aload_n 0, 1) := by decide +kernel
theorem d_M_update_176 : decode prog_14_method_49_code 176 = .ok (.getfield 132, 3) := by decide +kernel
theorem d_M_update_179 : decode prog_14_method_49_code 179 = .ok (.iload_n 2, 1) := by decide +kernel
theorem d_M_update_180 : decode prog_14_method_49_code 180 = .ok (.dup2, 1) := by decide +kernel
theorem d_M_update_181 : decode prog_14_method_49_code 181 = .ok (.iaload, 1) := by decide +kernel
theorem d_M_update_182 : decode prog_14_method_49_code 182 = .ok (.iconst 1, 1) := by decide +kernel
theorem d_M_update_183 : decode prog_14_method_49_code 183 = .ok (.iadd, 1) := by decide +kernel
theorem d_M_update_184 : decode prog_14_method_49_code 184 = .ok (.iastore, 1) := by decide +kernel
theorem d_M_update_185 : decode prog_14_method_49_code 185 = .ok (.goto (-175), 3) := by decide +kernel
theorem d_M_update_188 : decode prog_14_method_49_code 188 = .ok (.return_, 1) := by decide +kernel
noncomputable def f_M_update_j174 (r0 : Option Nat) (x2 : Int32) (sx0 : Int32) (sx1 : Int32) (sr2 : Option Nat) (σ : rb_St) : Option ((rb_St) ⊕ rb_Rs) :=
  (rb_sI σ sr2 104 sx1 sx0).bind fun σ_25 => (rb_gR σ_25 r0 13 60).bind fun r_26 => (rb_aI σ_25 r_26 102 x2).bind fun x_27 => (rb_sI σ_25 r_26 102 x2 (x_27 + (1 : Int32))).bind fun σ_28 => some (.inl σ_28)
theorem t_M_update_j174 {E : rb_EV} {d : Nat} {σ0 : rb_St} {res : rb_Rs} (hdd : 9 ≤ d)  (r0 : Option Nat) (x2 : Int32) (sx0 : Int32) (sx1 : Int32) (sr2 : Option Nat) (σ : rb_St) : rb_TC (f_M_update_j174 r0 x2 sx0 sx1 sr2 σ) (Sum.elim (fun z : (rb_St) => rb_WK E k_M_update d σ0 res 10 [some (va_rf r0), none, none, none] [] z) (fun r => r = res)) (rb_WK E k_M_update d σ0 res 174 [some (va_rf r0), none, some (.int x2), none] [.int sx0, .int sx1, va_rf sr2] σ) := by
  unfold f_M_update_j174
  refine rt_zast sr2 d_M_update_174 (fun σ_25 => ?_)
  refine rb_TC.mono (rk_aload_n 0 d_M_update_175 rfl rfl) ?_
  refine rt_gR r0 fw_M_132 d_M_update_176 (fun r_26 => ?_)
  refine rb_TC.mono (rk_iload_n 2 d_M_update_179 rfl rfl) ?_
  refine rb_TC.mono (rk_dup2ir d_M_update_180) ?_
  refine rt_iald r_26 d_M_update_181 (fun x_27 => ?_)
  refine rb_TC.mono (rk_iconst (1 : Int32) d_M_update_182 (by decide)) ?_
  refine rb_TC.mono (rk_iadd d_M_update_183) ?_
  refine rt_iast r_26 d_M_update_184 (fun σ_28 => ?_)
  refine rb_TC.mono (rk_goto 10 d_M_update_185 (by decide)) ?_
  refine rb_TC.mono (rk_less (lv2 := [some (va_rf r0), none, none, none]) (rb_le_ok (rb_leS (rb_leN (rb_leN (rb_leN rb_le0)))))) ?_
  exact rb_back
noncomputable def f_M_update_j169 (r0 : Option Nat) (x2 : Int32) (sx0 : Int32) (sr1 : Option Nat) (σ : rb_St) : Option ((rb_St) ⊕ rb_Rs) :=
  f_M_update_j174 (r0) (x2) ((1 : Int32)) (sx0) (sr1) σ
theorem t_M_update_j169 {E : rb_EV} {d : Nat} {σ0 : rb_St} {res : rb_Rs} (hdd : 9 ≤ d)  (r0 : Option Nat) (x2 : Int32) (sx0 : Int32) (sr1 : Option Nat) (σ : rb_St) : rb_TC (f_M_update_j169 r0 x2 sx0 sr1 σ) (Sum.elim (fun z : (rb_St) => rb_WK E k_M_update d σ0 res 10 [some (va_rf r0), none, none, none] [] z) (fun r => r = res)) (rb_WK E k_M_update d σ0 res 169 [some (va_rf r0), none, some (.int x2), none] [.int sx0, va_rf sr1] σ) := by
  unfold f_M_update_j169
  refine rb_TC.mono (rk_iconst (1 : Int32) d_M_update_169 (by decide)) ?_
  refine rb_TC.mono (rk_goto 174 d_M_update_170 (by decide)) ?_
  exact t_M_update_j174 hdd  (r0) (x2) ((1 : Int32)) (sx0) (sr1) σ
noncomputable def f_M_update_j136 (r0 : Option Nat) (x2 : Int32) (x3 : Int32) (σ : rb_St) : Option ((rb_St) ⊕ rb_Rs) :=
  (rb_gR σ r0 13 59).bind fun r_18 => (rb_gR σ r0 13 59).bind fun r_19 => (rb_aI σ r_19 104 x2).bind fun x_20 => if x_20 = 0 then ((rb_gR σ r0 13 58).bind fun r_21 => (rb_aI σ r_21 104 x3).bind fun x_22 => if x_22 = 0 then ((rb_gR σ r0 13 57).bind fun r_23 => (rb_aI σ r_23 102 x3).bind fun x_24 => if x_24 = (3 : Int32) then (f_M_update_j169 (r0) (x2) (x2) (r_18) σ) else (f_M_update_j174 (r0) (x2) ((0 : Int32)) (x2) (r_18) σ)) else (f_M_update_j169 (r0) (x2) (x2) (r_18) σ)) else (f_M_update_j169 (r0) (x2) (x2) (r_18) σ)
theorem t_M_update_j136 {E : rb_EV} {d : Nat} {σ0 : rb_St} {res : rb_Rs} (hdd : 9 ≤ d)  (r0 : Option Nat) (x2 : Int32) (x3 : Int32) (σ : rb_St) : rb_TC (f_M_update_j136 r0 x2 x3 σ) (Sum.elim (fun z : (rb_St) => rb_WK E k_M_update d σ0 res 10 [some (va_rf r0), none, none, none] [] z) (fun r => r = res)) (rb_WK E k_M_update d σ0 res 136 [some (va_rf r0), none, some (.int x2), some (.int x3)] [] σ) := by
  unfold f_M_update_j136
  refine rb_TC.mono (rk_aload_n 0 d_M_update_136 rfl rfl) ?_
  refine rt_gR r0 fw_M_129 d_M_update_137 (fun r_18 => ?_)
  refine rb_TC.mono (rk_iload_n 2 d_M_update_140 rfl rfl) ?_
  refine rb_TC.mono (rk_aload_n 0 d_M_update_141 rfl rfl) ?_
  refine rt_gR r0 fw_M_129 d_M_update_142 (fun r_19 => ?_)
  refine rb_TC.mono (rk_iload_n 2 d_M_update_145 rfl rfl) ?_
  refine rt_zald r_19 d_M_update_146 (fun x_20 => ?_)
  refine rt_if_ne 169 d_M_update_147 (by decide) (fun _ => ?_) (fun _ => ?_)
  · refine rb_TC.mono (rk_aload_n 0 d_M_update_150 rfl rfl) ?_
    refine rt_gR r0 fw_M_126 d_M_update_151 (fun r_21 => ?_)
    refine rb_TC.mono (rk_iload_n 3 d_M_update_154 rfl rfl) ?_
    refine rt_zald r_21 d_M_update_155 (fun x_22 => ?_)
    refine rt_if_ne 169 d_M_update_156 (by decide) (fun _ => ?_) (fun _ => ?_)
    · refine rb_TC.mono (rk_aload_n 0 d_M_update_159 rfl rfl) ?_
      refine rt_gR r0 fw_M_123 d_M_update_160 (fun r_23 => ?_)
      refine rb_TC.mono (rk_iload_n 3 d_M_update_163 rfl rfl) ?_
      refine rt_iald r_23 d_M_update_164 (fun x_24 => ?_)
      refine rb_TC.mono (rk_iconst (3 : Int32) d_M_update_165 (by decide)) ?_
      refine rt_icmp_ne 173 d_M_update_166 (by decide) (fun _ => ?_) (fun _ => ?_)
      · refine rb_TC.mono (rk_less (lv2 := [some (va_rf r0), none, some (.int x2), none]) (rb_le_ok (rb_leS (rb_leN (rb_leS (rb_leN rb_le0)))))) ?_
        exact t_M_update_j169 hdd  (r0) (x2) (x2) (r_18) σ
      · refine rb_TC.mono (rk_iconst (0 : Int32) d_M_update_173 (by decide)) ?_
        refine rb_TC.mono (rk_less (lv2 := [some (va_rf r0), none, some (.int x2), none]) (rb_le_ok (rb_leS (rb_leN (rb_leS (rb_leN rb_le0)))))) ?_
        exact t_M_update_j174 hdd  (r0) (x2) ((0 : Int32)) (x2) (r_18) σ
    · refine rb_TC.mono (rk_less (lv2 := [some (va_rf r0), none, some (.int x2), none]) (rb_le_ok (rb_leS (rb_leN (rb_leS (rb_leN rb_le0)))))) ?_
      exact t_M_update_j169 hdd  (r0) (x2) (x2) (r_18) σ
  · refine rb_TC.mono (rk_less (lv2 := [some (va_rf r0), none, some (.int x2), none]) (rb_le_ok (rb_leS (rb_leN (rb_leS (rb_leN rb_le0)))))) ?_
    exact t_M_update_j169 hdd  (r0) (x2) (x2) (r_18) σ
noncomputable def f_M_update_j61 (r0 : Option Nat) (x2 : Int32) (sx0 : Int32) (σ : rb_St) : Option ((rb_St) ⊕ rb_Rs) :=
  if 0 ≤ sx0 then ((rb_gR σ r0 13 57).bind fun r_13 => (rb_aI σ r_13 102 sx0).bind fun x_14 => if x_14 = 0 then ((rb_gR σ r0 13 58).bind fun r_15 => (rb_aI σ r_15 104 sx0).bind fun x_16 => if x_16 = 0 then ((rb_fc σ r0 13).bind fun _ => rb_cV (f_M_begin (r0) (sx0) σ) fun σ_17 => some (.inl σ_17)) else (f_M_update_j136 (r0) (x2) (sx0) σ)) else (f_M_update_j136 (r0) (x2) (sx0) σ)) else ((rb_gI σ r0 13 66).bind fun x_29 => (rb_pI σ r0 13 66 (x_29 - (1 : Int32))).bind fun σ_30 => (rb_gR σ_30 r0 13 58).bind fun r_31 => (rb_sI σ_30 r_31 104 x2 (0 : Int32)).bind fun σ_32 => (rb_gR σ_32 r0 13 57).bind fun r_33 => (rb_gR σ_32 r0 13 59).bind fun r_34 => (rb_aI σ_32 r_34 104 x2).bind fun x_35 => if x_35 = 0 then ((rb_fc σ_32 r0 13).bind fun _ => rb_cI (f_M_finish (r0) (x2) σ_32) fun x_36 σ_37 => (rb_sI σ_37 r_33 102 x2 x_36).bind fun σ_38 => some (.inl σ_38)) else ((rb_sI σ_32 r_33 102 x2 (3 : Int32)).bind fun σ_39 => some (.inl σ_39)))
theorem t_M_update_j61 {E : rb_EV} {d : Nat} {σ0 : rb_St} {res : rb_Rs} (hdd : 9 ≤ d)  (r0 : Option Nat) (x2 : Int32) (sx0 : Int32) (σ : rb_St) : rb_TC (f_M_update_j61 r0 x2 sx0 σ) (Sum.elim (fun z : (rb_St) => rb_WK E k_M_update d σ0 res 10 [some (va_rf r0), none, none, none] [] z) (fun r => r = res)) (rb_WK E k_M_update d σ0 res 61 [some (va_rf r0), none, some (.int x2), none] [.int sx0] σ) := by
  unfold f_M_update_j61
  refine rb_TC.mono (rk_istore_n (lv2 := [some (va_rf r0), none, some (.int x2), some (.int sx0)]) 3 d_M_update_61 rfl (by decide) (fun _ => rb_one_i) rfl) ?_
  refine rb_TC.mono (rk_iload_n 3 d_M_update_62 rfl rfl) ?_
  refine rt_if_ge 110 d_M_update_63 (by decide) (fun _ => ?_) (fun _ => ?_)
  · refine rb_TC.mono (rk_aload_n 0 d_M_update_110 rfl rfl) ?_
    refine rt_gR r0 fw_M_123 d_M_update_111 (fun r_13 => ?_)
    refine rb_TC.mono (rk_iload_n 3 d_M_update_114 rfl rfl) ?_
    refine rt_iald r_13 d_M_update_115 (fun x_14 => ?_)
    refine rt_if_ne 136 d_M_update_116 (by decide) (fun _ => ?_) (fun _ => ?_)
    · refine rb_TC.mono (rk_aload_n 0 d_M_update_119 rfl rfl) ?_
      refine rt_gR r0 fw_M_126 d_M_update_120 (fun r_15 => ?_)
      refine rb_TC.mono (rk_iload_n 3 d_M_update_123 rfl rfl) ?_
      refine rt_zald r_15 d_M_update_124 (fun x_16 => ?_)
      refine rt_if_ne 136 d_M_update_125 (by decide) (fun _ => ?_) (fun _ => ?_)
      · refine rb_TC.mono (rk_aload_n 0 d_M_update_128 rfl rfl) ?_
        refine rb_TC.mono (rk_iload_n 3 d_M_update_129 rfl rfl) ?_
        refine rt_vV (As := [.int sx0]) (st := []) (r0) vw_M_376 (s_M_begin (Nat.le_refl _) (r0) (sx0) σ) (Nat.le_trans (by decide) hdd) rfl (by simp [rb_cat_r, rb_cat_i, rb_cat_l]) d_M_update_130 (fun σ_17 => ?_)
        refine rb_TC.mono (rk_goto 185 d_M_update_133 (by decide)) ?_
        refine rb_TC.mono (rk_goto 10 d_M_update_185 (by decide)) ?_
        refine rb_TC.mono (rk_less (lv2 := [some (va_rf r0), none, none, none]) (rb_le_ok (rb_leS (rb_leN (rb_leN (rb_leN rb_le0)))))) ?_
        exact rb_back
      · exact t_M_update_j136 hdd  (r0) (x2) (sx0) σ
    · exact t_M_update_j136 hdd  (r0) (x2) (sx0) σ
  · refine rb_TC.mono (rk_aload_n 0 d_M_update_66 rfl rfl) ?_
    refine rb_TC.mono (rk_dupr d_M_update_67) ?_
    refine rt_gI r0 fw_M_373 d_M_update_68 (fun x_29 => ?_)
    refine rb_TC.mono (rk_iconst (1 : Int32) d_M_update_71 (by decide)) ?_
    refine rb_TC.mono (rk_isub d_M_update_72) ?_
    refine rt_pI r0 fp_M_update_373 d_M_update_73 (fun σ_30 => ?_)
    refine rb_TC.mono (rk_aload_n 0 d_M_update_76 rfl rfl) ?_
    refine rt_gR r0 fw_M_126 d_M_update_77 (fun r_31 => ?_)
    refine rb_TC.mono (rk_iload_n 2 d_M_update_80 rfl rfl) ?_
    refine rb_TC.mono (rk_iconst (0 : Int32) d_M_update_81 (by decide)) ?_
    refine rt_zast r_31 d_M_update_82 (fun σ_32 => ?_)
    refine rb_TC.mono (rk_aload_n 0 d_M_update_83 rfl rfl) ?_
    refine rt_gR r0 fw_M_123 d_M_update_84 (fun r_33 => ?_)
    refine rb_TC.mono (rk_iload_n 2 d_M_update_87 rfl rfl) ?_
    refine rb_TC.mono (rk_aload_n 0 d_M_update_88 rfl rfl) ?_
    refine rt_gR r0 fw_M_129 d_M_update_89 (fun r_34 => ?_)
    refine rb_TC.mono (rk_iload_n 2 d_M_update_92 rfl rfl) ?_
    refine rt_zald r_34 d_M_update_93 (fun x_35 => ?_)
    refine rt_if_eq 101 d_M_update_94 (by decide) (fun _ => ?_) (fun _ => ?_)
    · refine rb_TC.mono (rk_aload_n 0 d_M_update_101 rfl rfl) ?_
      refine rb_TC.mono (rk_iload_n 2 d_M_update_102 rfl rfl) ?_
      refine rt_vI (As := [.int x2]) (st := [.int x2, va_rf r_33]) (r0) vw_M_382 (s_M_finish (Nat.le_refl _) (r0) (x2) σ_32) (Nat.le_trans (by decide) hdd) rfl (by simp [rb_cat_r, rb_cat_i, rb_cat_l]) d_M_update_103 (fun x_36 σ_37 => ?_)
      refine rt_iast r_33 d_M_update_106 (fun σ_38 => ?_)
      refine rb_TC.mono (rk_goto 185 d_M_update_107 (by decide)) ?_
      refine rb_TC.mono (rk_goto 10 d_M_update_185 (by decide)) ?_
      refine rb_TC.mono (rk_less (lv2 := [some (va_rf r0), none, none, none]) (rb_le_ok (rb_leS (rb_leN (rb_leN (rb_leN rb_le0)))))) ?_
      exact rb_back
    · refine rb_TC.mono (rk_iconst (3 : Int32) d_M_update_97 (by decide)) ?_
      refine rb_TC.mono (rk_goto 106 d_M_update_98 (by decide)) ?_
      refine rt_iast r_33 d_M_update_106 (fun σ_39 => ?_)
      refine rb_TC.mono (rk_goto 185 d_M_update_107 (by decide)) ?_
      refine rb_TC.mono (rk_goto 10 d_M_update_185 (by decide)) ?_
      refine rb_TC.mono (rk_less (lv2 := [some (va_rf r0), none, none, none]) (rb_le_ok (rb_leS (rb_leN (rb_leN (rb_leN rb_le0)))))) ?_
      exact rb_back
noncomputable def f_M_update_j50 (r0 : Option Nat) (x2 : Int32) (σ : rb_St) : Option ((rb_St) ⊕ rb_Rs) :=
  (rb_gR σ r0 13 60).bind fun r_9 => (rb_aI σ r_9 102 x2).bind fun x_10 => (rb_fc σ r0 13).bind fun _ => rb_cI (f_M_dependency (r0) (x2) (x_10) σ) fun x_11 σ_12 => f_M_update_j61 (r0) (x2) (x_11) σ_12
theorem t_M_update_j50 {E : rb_EV} {d : Nat} {σ0 : rb_St} {res : rb_Rs} (hdd : 9 ≤ d)  (r0 : Option Nat) (x2 : Int32) (σ : rb_St) : rb_TC (f_M_update_j50 r0 x2 σ) (Sum.elim (fun z : (rb_St) => rb_WK E k_M_update d σ0 res 10 [some (va_rf r0), none, none, none] [] z) (fun r => r = res)) (rb_WK E k_M_update d σ0 res 50 [some (va_rf r0), none, some (.int x2), none] [] σ) := by
  unfold f_M_update_j50
  refine rb_TC.mono (rk_aload_n 0 d_M_update_50 rfl rfl) ?_
  refine rb_TC.mono (rk_iload_n 2 d_M_update_51 rfl rfl) ?_
  refine rb_TC.mono (rk_aload_n 0 d_M_update_52 rfl rfl) ?_
  refine rt_gR r0 fw_M_132 d_M_update_53 (fun r_9 => ?_)
  refine rb_TC.mono (rk_iload_n 2 d_M_update_56 rfl rfl) ?_
  refine rt_iald r_9 d_M_update_57 (fun x_10 => ?_)
  refine rt_vI (As := [.int x2, .int x_10]) (st := []) (r0) vw_M_251 (s_M_dependency (Nat.le_refl _) (r0) (x2) (x_10) σ) (Nat.le_trans (by decide) hdd) rfl (by simp [rb_cat_r, rb_cat_i, rb_cat_l]) d_M_update_58 (fun x_11 σ_12 => ?_)
  exact t_M_update_j61 hdd  (r0) (x2) (x_11) σ_12
noncomputable def f_M_update_b10 (r0 : Option Nat) (σ : rb_St) : Option ((rb_St) ⊕ rb_Rs) :=
  (rb_gI σ r0 13 66).bind fun x_3 => if x_3 ≤ 0 then ((some (none, σ)).map Sum.inr) else ((rb_gR σ r0 13 65).bind fun r_4 => (rb_gI σ r0 13 66).bind fun x_5 => (rb_aI σ r_4 102 (x_5 - (1 : Int32))).bind fun x_6 => (rb_gR σ r0 13 59).bind fun r_7 => (rb_aI σ r_7 104 x_6).bind fun x_8 => if x_8 = 0 then (f_M_update_j50 (r0) (x_6) σ) else ((rb_fc σ r0 13).bind fun _ => rb_cI (f_M_option (r0) ((1 : Int32)) σ) fun x_40 σ_41 => if x_40 = 0 then (f_M_update_j61 (r0) (x_6) ((-1 : Int32)) σ_41) else (f_M_update_j50 (r0) (x_6) σ_41)))
theorem t_M_update_b10 {E : rb_EV} {d : Nat} {σ0 : rb_St} {res : rb_Rs} (hdd : 9 ≤ d)  (r0 : Option Nat) (σ : rb_St) : rb_TC (f_M_update_b10 r0 σ) (Sum.elim (fun z : (rb_St) => rb_WK E k_M_update d σ0 res 10 [some (va_rf r0), none, none, none] [] z) (fun r => r = res)) (rb_WK E k_M_update d σ0 res 10 [some (va_rf r0), none, none, none] [] σ) := by
  unfold f_M_update_b10
  refine rb_TC.mono (rk_aload_n 0 d_M_update_10 rfl rfl) ?_
  refine rt_gI r0 fw_M_373 d_M_update_11 (fun x_3 => ?_)
  refine rt_if_le 188 d_M_update_14 (by decide) (fun _ => ?_) (fun _ => ?_)
  · refine rb_TC.out ?_
    exact rt_vret rfl (fun h => h) d_M_update_188
  · refine rb_TC.mono (rk_aload_n 0 d_M_update_17 rfl rfl) ?_
    refine rt_gR r0 fw_M_147 d_M_update_18 (fun r_4 => ?_)
    refine rb_TC.mono (rk_aload_n 0 d_M_update_21 rfl rfl) ?_
    refine rt_gI r0 fw_M_373 d_M_update_22 (fun x_5 => ?_)
    refine rb_TC.mono (rk_iconst (1 : Int32) d_M_update_25 (by decide)) ?_
    refine rb_TC.mono (rk_isub d_M_update_26) ?_
    refine rt_iald r_4 d_M_update_27 (fun x_6 => ?_)
    refine rb_TC.mono (rk_istore_n (lv2 := [some (va_rf r0), none, some (.int x_6), none]) 2 d_M_update_28 rfl (by decide) (fun _ => rb_one_n) rfl) ?_
    refine rb_TC.mono (rk_aload_n 0 d_M_update_29 rfl rfl) ?_
    refine rt_gR r0 fw_M_129 d_M_update_30 (fun r_7 => ?_)
    refine rb_TC.mono (rk_iload_n 2 d_M_update_33 rfl rfl) ?_
    refine rt_zald r_7 d_M_update_34 (fun x_8 => ?_)
    refine rt_if_eq 50 d_M_update_35 (by decide) (fun _ => ?_) (fun _ => ?_)
    · exact t_M_update_j50 hdd  (r0) (x_6) σ
    · refine rb_TC.mono (rk_aload_n 0 d_M_update_38 rfl rfl) ?_
      refine rb_TC.mono (rk_iconst (1 : Int32) d_M_update_39 (by decide)) ?_
      refine rt_vI (As := [.int (1 : Int32)]) (st := []) (r0) vw_M_379 (s_M_option (Nat.le_refl _) (r0) ((1 : Int32)) σ) (Nat.le_trans (by decide) hdd) rfl (by simp [rb_cat_r, rb_cat_i, rb_cat_l]) d_M_update_40 (fun x_40 σ_41 => ?_)
      refine rt_if_ne 50 d_M_update_43 (by decide) (fun _ => ?_) (fun _ => ?_)
      · refine rb_TC.mono (rk_iconst (-1 : Int32) d_M_update_46 (by decide)) ?_
        refine rb_TC.mono (rk_goto 61 d_M_update_47 (by decide)) ?_
        exact t_M_update_j61 hdd  (r0) (x_6) ((-1 : Int32)) σ_41
      · exact t_M_update_j50 hdd  (r0) (x_6) σ_41
noncomputable def f_M_update (r0 : Option Nat) (x1 : Int32) (σ : rb_St) : Option rb_Rs :=
  (rb_pI σ r0 13 66 (0 : Int32)).bind fun σ_1 => (rb_fc σ_1 r0 13).bind fun _ => rb_cV (f_M_begin (r0) (x1) σ_1) fun σ_2 => rb_it (fun z : (rb_St) => f_M_update_b10 (r0) z) σ_2
theorem s_M_update {E : rb_EV} {d : Nat} (hdd : 9 ≤ d) (r0 : Option Nat) (x1 : Int32) (σ : rb_St) : rb_Does E k_M_update d [va_rf r0, .int x1] σ (f_M_update r0 x1 σ) := by
  refine rb_start (lv := [some (va_rf r0), some (.int x1), none, none]) (by decide) (by simp [lg_sl, rb_as, lv_args, rb_cat_r, rb_cat_i, rb_cat_l, rb_nL, k_M_update]) (fun res => ?_)
  unfold f_M_update
  refine rb_TC.mono (rk_aload_n 0 d_M_update_0 rfl rfl) ?_
  refine rb_TC.mono (rk_iconst (0 : Int32) d_M_update_1 (by decide)) ?_
  refine rt_pI r0 fp_M_update_373 d_M_update_2 (fun σ_1 => ?_)
  refine rb_TC.mono (rk_aload_n 0 d_M_update_5 rfl rfl) ?_
  refine rb_TC.mono (rk_iload_n 1 d_M_update_6 rfl rfl) ?_
  refine rt_vV (As := [.int x1]) (st := []) (r0) vw_M_376 (s_M_begin (Nat.le_refl _) (r0) (x1) σ_1) (Nat.le_trans (by decide) hdd) rfl (by simp [rb_cat_r, rb_cat_i, rb_cat_l]) d_M_update_7 (fun σ_2 => ?_)
  refine rb_TC.mono (rk_less (lv2 := [some (va_rf r0), none, none, none]) (rb_le_ok (rb_leS (rb_leN (rb_leN (rb_leN rb_le0)))))) ?_
  exact rb_TC.loop2 (A := (fun z : (rb_St) => rb_WK E k_M_update d σ res 10 [some (va_rf r0), none, none, none] [] z)) σ_2 (fun z => t_M_update_b10 hdd  (r0) z)
-- ===== RuleBuilderModel.build(I)I
def k_M_build : rb_MK := (⟨"RuleBuilderModel", "build", "(I)I"⟩, prog_14_method_61_code, 4, some (.int))
theorem mw_M_build : rb_Mw k_M_build 1 := ⟨rb_inG 1614 (by decide +kernel) rfl, rb_inG 94 (by decide +kernel) rfl, ⟨by decide, by decide, by decide +kernel⟩, by decide⟩
theorem fp_M_build_159 : rb_Fp k_M_build 159 13 1 .int := ⟨fw_M_159, rfl, fun q h => by cases h; exact Or.inl rfl⟩
theorem fp_M_build_359 : rb_Fp k_M_build 359 13 56 .int := ⟨fw_M_359, rfl, fun q h => by cases h; exact Or.inl rfl⟩
theorem fp_M_build_386 : rb_Fp k_M_build 386 13 69 .boolean := ⟨fw_M_386, rfl, fun q h => by cases h; exact Or.inl rfl⟩
theorem fp_M_build_407 : rb_Fp k_M_build 407 13 70 .int := ⟨fw_M_407, rfl, fun q h => by cases h; exact Or.inl rfl⟩
theorem fp_M_build_413 : rb_Fp k_M_build 413 13 72 .int := ⟨fw_M_413, rfl, fun q h => by cases h; exact Or.inl rfl⟩
theorem vw_M_440 : rb_Vw "RuleBuilderModel" 440 k_M_update 13 1 := ⟨mw_M_update, rb_inG 1615 (by decide +kernel) rfl, rb_inG 1617 (by decide +kernel) rfl, rb_inG 67 (by decide +kernel) rfl, by decide, by decide, _, rfl, rfl⟩
theorem d_M_build_0 : decode prog_14_method_61_code 0 = .ok (.iload_n 1, 1) := by decide +kernel
theorem d_M_build_1 : decode prog_14_method_61_code 1 = .ok (.ifCond .lt 9, 3) := by decide +kernel
theorem d_M_build_4 : decode prog_14_method_61_code 4 = .ok (.iload_n 1, 1) := by decide +kernel
theorem d_M_build_5 : decode prog_14_method_61_code 5 = .ok (.bipush 63, 2) := by decide +kernel
theorem d_M_build_7 : decode prog_14_method_61_code 7 = .ok (.if_icmp .le 5, 3) := by decide +kernel
theorem d_M_build_10 : decode prog_14_method_61_code 10 = .ok (.iconst (-1), 1) := by decide +kernel
theorem d_M_build_11 : decode prog_14_method_61_code 11 = .ok (.ireturn, 1) := by decide +kernel
theorem d_M_build_12 : decode prog_14_method_61_code 12 = .ok (.aload_n 0, 1) := by decide +kernel
theorem d_M_build_13 : decode prog_14_method_61_code 13 = .ok (.getfield 159, 3) := by decide +kernel
theorem d_M_build_16 : decode prog_14_method_61_code 16 = .ok (.ifCond .ne 10, 3) := by decide +kernel
theorem d_M_build_19 : decode prog_14_method_61_code 19 = .ok (.aload_n 0, 1) := by decide +kernel
theorem d_M_build_20 : decode prog_14_method_61_code 20 = .ok (.getfield 271, 3) := by decide +kernel
theorem d_M_build_23 : decode prog_14_method_61_code 23 = .ok (.goto 11, 3) := by decide +kernel
theorem d_M_build_26 : decode prog_14_method_61_code 26 = .ok (.aload_n 0, 1) := by decide +kernel
theorem d_M_build_27 : decode prog_14_method_61_code 27 = .ok (.aload_n 0, 1) := by decide +kernel
theorem d_M_build_28 : decode prog_14_method_61_code 28 = .ok (.invokevirtual 188, 3) := by decide +kernel
theorem d_M_build_31 : decode prog_14_method_61_code 31 = .ok (.invokevirtual 192, 3) := by decide +kernel
theorem d_M_build_34 : decode prog_14_method_61_code 34 = .ok (.istore_n 2, 1) := by decide +kernel
theorem d_M_build_35 : decode prog_14_method_61_code 35 = .ok (.iload_n 2, 1) := by decide +kernel
theorem d_M_build_36 : decode prog_14_method_61_code 36 = .ok (.ifCond .ge 5, 3) := by decide +kernel
theorem d_M_build_39 : decode prog_14_method_61_code 39 = .ok (.iconst (-1), 1) := by decide +kernel
theorem d_M_build_40 : decode prog_14_method_61_code 40 = .ok (.ireturn, 1) := by decide +kernel
theorem d_M_build_41 : decode prog_14_method_61_code 41 = .ok (.aload_n 0, 1) := by decide +kernel
theorem d_M_build_42 : decode prog_14_method_61_code 42 = .ok (.iconst 0, 1) := by decide +kernel
theorem d_M_build_43 : decode prog_14_method_61_code 43 = .ok (.putfield 159, 3) := by decide +kernel
theorem d_M_build_46 : decode prog_14_method_61_code 46 = .ok (.aload_n 0, 1) := by decide +kernel
theorem d_M_build_47 : decode prog_14_method_61_code 47 = .ok (.iload_n 1, 1) := by decide +kernel
theorem d_M_build_48 : decode prog_14_method_61_code 48 = .ok (.putfield 359, 3) := by decide +kernel
theorem d_M_build_51 : decode prog_14_method_61_code 51 = .ok (.iconst 0, 1) := by decide +kernel
theorem d_M_build_52 : decode prog_14_method_61_code 52 = .ok (.istore_n 3, 1) := by decide +kernel
theorem d_M_build_53 : decode prog_14_method_61_code 53 = .ok (.iload_n 3, 1) := by decide +kernel
theorem d_M_build_54 : decode prog_14_method_61_code 54 = .ok (.bipush 32, 2) := by decide +kernel
theorem d_M_build_56 : decode prog_14_method_61_code 56 = .ok (.if_icmp .ge 23, 3) := by decide +kernel
theorem d_M_build_59 : decode prog_14_method_61_code 59 = .ok (.aload_n 0, 1) := by decide +kernel
theorem d_M_build_60 : decode prog_14_method_61_code 60 = .ok (.getfield 123, 3) := by decide +kernel
theorem d_M_build_63 : decode prog_14_method_61_code 63 = .ok (.iload_n 3, 1) := by decide +kernel
theorem d_M_build_64 : decode prog_14_method_61_code 64 = .ok (.iconst 0, 1) := by decide +kernel
theorem d_M_build_65 : decode prog_14_method_61_code 65 = .ok (.iastore, 1) := by decide +kernel
theorem d_M_build_66 : decode prog_14_method_61_code 66 = .ok (.aload_n 0, 1) := by decide +kernel
theorem d_M_build_67 : decode prog_14_method_61_code 67 = .ok (.getfield 126, 3) := by decide +kernel
theorem d_M_build_70 : decode prog_14_method_61_code 70 = .ok (.iload_n 3, 1) := by decide +kernel
theorem d_M_build_71 : decode prog_14_method_61_code 71 = .ok (.iconst 0, 1) := by decide +kernel
theorem d_M_build_72 : decode prog_14_method_61_code 72 = .ok (.bastore, 1) := by decide +kernel
theorem d_M_build_73 : decode prog_14_method_61_code 73 = .ok (.iinc 3 1, 3) := by decide +kernel
theorem d_M_build_76 : decode prog_14_method_61_code 76 = .ok (.goto (-23), 3) := by decide +kernel
theorem d_M_build_79 : decode prog_14_method_61_code 79 = .ok (.aload_n 0, 1) := by decide +kernel
theorem d_M_build_80 : decode prog_14_method_61_code 80 = .ok (.iconst 0, 1) := by decide +kernel
theorem d_M_build_81 : decode prog_14_method_61_code 81 = .ok (.putfield 386, 3) := by decide +kernel
theorem d_M_build_84 : decode prog_14_method_61_code 84 = .ok (.aload_n 0, 1) := by decide +kernel
theorem d_M_build_85 : decode prog_14_method_61_code 85 = .ok (.iconst 0, 1) := by decide +kernel
theorem d_M_build_86 : decode prog_14_method_61_code 86 = .ok (.putfield 407, 3) := by decide +kernel
theorem d_M_build_89 : decode prog_14_method_61_code 89 = .ok (.aload_n 0, 1) := by decide +kernel
theorem d_M_build_90 : decode prog_14_method_61_code 90 = .ok (.iconst 0, 1) := by decide +kernel
theorem d_M_build_91 : decode prog_14_method_61_code 91 = .ok (.putfield 413, 3) := by decide +kernel
theorem d_M_build_94 : decode prog_14_method_61_code 94 = .ok (.aload_n 0, 1) := by decide +kernel
theorem d_M_build_95 : decode prog_14_method_61_code 95 = .ok (.iload_n 2, 1) := by decide +kernel
theorem d_M_build_96 : decode prog_14_method_61_code 96 = .ok (.invokevirtual 440, 3) := by decide +kernel
theorem d_M_build_99 : decode prog_14_method_61_code 99 = .ok (.aload_n 0, 1) := by decide +kernel
theorem d_M_build_100 : decode prog_14_method_61_code 100 = .ok (.getfield 123, 3) := by decide +kernel
theorem d_M_build_103 : decode prog_14_method_61_code 103 = .ok (.iload_n 2, 1) := by decide +kernel
theorem d_M_build_104 : decode prog_14_method_61_code 104 = .ok (.iaload, 1) := by decide +kernel
theorem d_M_build_105 : decode prog_14_method_61_code 105 = .ok (.iconst 3, 1) := by decide +kernel
theorem d_M_build_106 : decode prog_14_method_61_code 106 = .ok (.if_icmp .ne 7, 3) := by decide +kernel
theorem d_M_build_109 : decode prog_14_method_61_code 109 = .ok (.iconst 2, 1) := by decide +kernel
theorem d_M_build_110 : decode prog_14_method_61_code 110 = .ok (.goto 24, 3) := by decide +kernel
theorem d_M_build_113 : decode prog_14_method_61_code 113 = .ok (.aload_n 0, 1) := by decide +kernel
theorem d_M_build_114 : decode prog_14_method_61_code 114 = .ok (.bipush 8, 2) := by decide +kernel
theorem d_M_build_116 : decode prog_14_method_61_code 116 = .ok (.invokevirtual 379, 3) := by decide +kernel
theorem d_M_build_119 : decode prog_14_method_61_code 119 = .ok (.ifCond .eq 14, 3) := by decide +kernel
theorem d_M_build_122 : decode prog_14_method_61_code 122 = .ok (.aload_n 0, 1) := by decide +kernel
theorem d_M_build_123 : decode prog_14_method_61_code 123 = .ok (.getfield 386, 3) := by decide +kernel
theorem d_M_build_126 : decode prog_14_method_61_code 126 = .ok (.ifCond .eq 7, 3) := by decide +kernel
theorem d_M_build_129 : decode prog_14_method_61_code 129 = .ok (.iconst 1, 1) := by decide +kernel
theorem d_M_build_130 : decode prog_14_method_61_code 130 = .ok (.goto 4, 3) := by decide +kernel
theorem d_M_build_133 : decode prog_14_method_61_code 133 = .ok (.iconst 0, 1) := by decide +kernel
theorem d_M_build_134 : decode prog_14_method_61_code 134 = .ok (.ireturn, 1) := by decide +kernel
noncomputable def f_M_build_b53 (r0 : Option Nat) (x2 : Int32) (x3 : Int32) (σ : rb_St) : Option ((Int32 × rb_St) ⊕ rb_Rs) :=
  if (32 : Int32) ≤ x3 then (((rb_pZ σ r0 13 69 (0 : Int32)).bind fun σ_5 => (rb_pI σ_5 r0 13 70 (0 : Int32)).bind fun σ_6 => (rb_pI σ_6 r0 13 72 (0 : Int32)).bind fun σ_7 => (rb_fc σ_7 r0 13).bind fun _ => rb_cV (f_M_update (r0) (x2) σ_7) fun σ_8 => (rb_gR σ_8 r0 13 57).bind fun r_9 => (rb_aI σ_8 r_9 102 x2).bind fun x_10 => if x_10 = (3 : Int32) then (some (some (.int (2 : Int32)), σ_8)) else ((rb_fc σ_8 r0 13).bind fun _ => rb_cI (f_M_option (r0) ((8 : Int32)) σ_8) fun x_11 σ_12 => if x_11 = 0 then (some (some (.int (0 : Int32)), σ_12)) else ((rb_gI σ_12 r0 13 69).bind fun x_13 => if x_13 = 0 then (some (some (.int (0 : Int32)), σ_12)) else (some (some (.int (1 : Int32)), σ_12))))).map Sum.inr) else ((rb_gR σ r0 13 57).bind fun r_14 => (rb_sI σ r_14 102 x3 (0 : Int32)).bind fun σ_15 => (rb_gR σ_15 r0 13 58).bind fun r_16 => (rb_sI σ_15 r_16 104 x3 (0 : Int32)).bind fun σ_17 => some (.inl ((x3 + 1), σ_17)))
theorem t_M_build_b53 {E : rb_EV} {d : Nat} {σ0 : rb_St} {res : rb_Rs} (hdd : 10 ≤ d)  (r0 : Option Nat) (x2 : Int32) (x3 : Int32) (σ : rb_St) : rb_TC (f_M_build_b53 r0 x2 x3 σ) (Sum.elim (fun z : (Int32 × rb_St) => rb_WK E k_M_build d σ0 res 53 [some (va_rf r0), none, some (.int x2), some (.int z.1)] [] z.2) (fun r => r = res)) (rb_WK E k_M_build d σ0 res 53 [some (va_rf r0), none, some (.int x2), some (.int x3)] [] σ) := by
  unfold f_M_build_b53
  refine rb_TC.mono (rk_iload_n 3 d_M_build_53 rfl rfl) ?_
  refine rb_TC.mono (rk_bipush (32 : Int32) d_M_build_54 (by decide)) ?_
  refine rt_icmp_ge 79 d_M_build_56 (by decide) (fun _ => ?_) (fun _ => ?_)
  · refine rb_TC.out ?_
    refine rb_TC.mono (rk_aload_n 0 d_M_build_79 rfl rfl) ?_
    refine rb_TC.mono (rk_iconst (0 : Int32) d_M_build_80 (by decide)) ?_
    refine rt_pZ r0 fp_M_build_386 d_M_build_81 (fun σ_5 => ?_)
    refine rb_TC.mono (rk_aload_n 0 d_M_build_84 rfl rfl) ?_
    refine rb_TC.mono (rk_iconst (0 : Int32) d_M_build_85 (by decide)) ?_
    refine rt_pI r0 fp_M_build_407 d_M_build_86 (fun σ_6 => ?_)
    refine rb_TC.mono (rk_aload_n 0 d_M_build_89 rfl rfl) ?_
    refine rb_TC.mono (rk_iconst (0 : Int32) d_M_build_90 (by decide)) ?_
    refine rt_pI r0 fp_M_build_413 d_M_build_91 (fun σ_7 => ?_)
    refine rb_TC.mono (rk_aload_n 0 d_M_build_94 rfl rfl) ?_
    refine rb_TC.mono (rk_iload_n 2 d_M_build_95 rfl rfl) ?_
    refine rt_vV (As := [.int x2]) (st := []) (r0) vw_M_440 (s_M_update (Nat.le_refl _) (r0) (x2) σ_7) (Nat.le_trans (by decide) hdd) rfl (by simp [rb_cat_r, rb_cat_i, rb_cat_l]) d_M_build_96 (fun σ_8 => ?_)
    refine rb_TC.mono (rk_aload_n 0 d_M_build_99 rfl rfl) ?_
    refine rt_gR r0 fw_M_123 d_M_build_100 (fun r_9 => ?_)
    refine rb_TC.mono (rk_iload_n 2 d_M_build_103 rfl rfl) ?_
    refine rt_iald r_9 d_M_build_104 (fun x_10 => ?_)
    refine rb_TC.mono (rk_iconst (3 : Int32) d_M_build_105 (by decide)) ?_
    refine rt_icmp_ne 113 d_M_build_106 (by decide) (fun _ => ?_) (fun _ => ?_)
    · refine rb_TC.mono (rk_iconst (2 : Int32) d_M_build_109 (by decide)) ?_
      refine rb_TC.mono (rk_goto 134 d_M_build_110 (by decide)) ?_
      exact rt_iret (ty := .int) rfl rfl (fun h => h) d_M_build_134
    · refine rb_TC.mono (rk_aload_n 0 d_M_build_113 rfl rfl) ?_
      refine rb_TC.mono (rk_bipush (8 : Int32) d_M_build_114 (by decide)) ?_
      refine rt_vI (As := [.int (8 : Int32)]) (st := []) (r0) vw_M_379 (s_M_option (Nat.le_refl _) (r0) ((8 : Int32)) σ_8) (Nat.le_trans (by decide) hdd) rfl (by simp [rb_cat_r, rb_cat_i, rb_cat_l]) d_M_build_116 (fun x_11 σ_12 => ?_)
      refine rt_if_eq 133 d_M_build_119 (by decide) (fun _ => ?_) (fun _ => ?_)
      · refine rb_TC.mono (rk_iconst (0 : Int32) d_M_build_133 (by decide)) ?_
        exact rt_iret (ty := .int) rfl rfl (fun h => h) d_M_build_134
      · refine rb_TC.mono (rk_aload_n 0 d_M_build_122 rfl rfl) ?_
        refine rt_gI r0 fw_M_386 d_M_build_123 (fun x_13 => ?_)
        refine rt_if_eq 133 d_M_build_126 (by decide) (fun _ => ?_) (fun _ => ?_)
        · refine rb_TC.mono (rk_iconst (0 : Int32) d_M_build_133 (by decide)) ?_
          exact rt_iret (ty := .int) rfl rfl (fun h => h) d_M_build_134
        · refine rb_TC.mono (rk_iconst (1 : Int32) d_M_build_129 (by decide)) ?_
          refine rb_TC.mono (rk_goto 134 d_M_build_130 (by decide)) ?_
          exact rt_iret (ty := .int) rfl rfl (fun h => h) d_M_build_134
  · refine rb_TC.mono (rk_aload_n 0 d_M_build_59 rfl rfl) ?_
    refine rt_gR r0 fw_M_123 d_M_build_60 (fun r_14 => ?_)
    refine rb_TC.mono (rk_iload_n 3 d_M_build_63 rfl rfl) ?_
    refine rb_TC.mono (rk_iconst (0 : Int32) d_M_build_64 (by decide)) ?_
    refine rt_iast r_14 d_M_build_65 (fun σ_15 => ?_)
    refine rb_TC.mono (rk_aload_n 0 d_M_build_66 rfl rfl) ?_
    refine rt_gR r0 fw_M_126 d_M_build_67 (fun r_16 => ?_)
    refine rb_TC.mono (rk_iload_n 3 d_M_build_70 rfl rfl) ?_
    refine rb_TC.mono (rk_iconst (0 : Int32) d_M_build_71 (by decide)) ?_
    refine rt_zast r_16 d_M_build_72 (fun σ_17 => ?_)
    refine rb_TC.mono (rk_iinc (lv2 := [some (va_rf r0), none, some (.int x2), some (.int (x3 + 1))]) (x3 + 1) d_M_build_73 rfl rfl (by decide) (fun _ => rb_one_i) rfl) ?_
    refine rb_TC.mono (rk_goto 53 d_M_build_76 (by decide)) ?_
    exact rb_back
noncomputable def f_M_build_j34 (r0 : Option Nat) (x1 : Int32) (sx0 : Int32) (σ : rb_St) : Option rb_Rs :=
  if 0 ≤ sx0 then ((rb_pI σ r0 13 1 (0 : Int32)).bind fun σ_3 => (rb_pI σ_3 r0 13 56 x1).bind fun σ_4 => rb_it (fun z : (Int32 × rb_St) => f_M_build_b53 (r0) (sx0) (z.1) z.2) ((0 : Int32), σ_4)) else (some (some (.int (-1 : Int32)), σ))
theorem t_M_build_j34 {E : rb_EV} {d : Nat} {σ0 : rb_St} {res : rb_Rs} (hdd : 10 ≤ d)  (r0 : Option Nat) (x1 : Int32) (sx0 : Int32) (σ : rb_St) : rb_TC (f_M_build_j34 r0 x1 sx0 σ) (fun r => r = res) (rb_WK E k_M_build d σ0 res 34 [some (va_rf r0), some (.int x1), none, none] [.int sx0] σ) := by
  unfold f_M_build_j34
  refine rb_TC.mono (rk_istore_n (lv2 := [some (va_rf r0), some (.int x1), some (.int sx0), none]) 2 d_M_build_34 rfl (by decide) (fun _ => rb_one_i) rfl) ?_
  refine rb_TC.mono (rk_iload_n 2 d_M_build_35 rfl rfl) ?_
  refine rt_if_ge 41 d_M_build_36 (by decide) (fun _ => ?_) (fun _ => ?_)
  · refine rb_TC.mono (rk_aload_n 0 d_M_build_41 rfl rfl) ?_
    refine rb_TC.mono (rk_iconst (0 : Int32) d_M_build_42 (by decide)) ?_
    refine rt_pI r0 fp_M_build_159 d_M_build_43 (fun σ_3 => ?_)
    refine rb_TC.mono (rk_aload_n 0 d_M_build_46 rfl rfl) ?_
    refine rb_TC.mono (rk_iload_n 1 d_M_build_47 rfl rfl) ?_
    refine rt_pI r0 fp_M_build_359 d_M_build_48 (fun σ_4 => ?_)
    refine rb_TC.mono (rk_iconst (0 : Int32) d_M_build_51 (by decide)) ?_
    refine rb_TC.mono (rk_istore_n (lv2 := [some (va_rf r0), some (.int x1), some (.int sx0), some (.int (0 : Int32))]) 3 d_M_build_52 rfl (by decide) (fun _ => rb_one_i) rfl) ?_
    refine rb_TC.mono (rk_less (lv2 := [some (va_rf r0), none, some (.int sx0), some (.int (0 : Int32))]) (rb_le_ok (rb_leS (rb_leN (rb_leS (rb_leS rb_le0)))))) ?_
    exact rb_TC.loop2 (A := (fun z : (Int32 × rb_St) => rb_WK E k_M_build d σ0 res 53 [some (va_rf r0), none, some (.int sx0), some (.int z.1)] [] z.2)) ((0 : Int32), σ_4) (fun z => t_M_build_b53 hdd  (r0) (sx0) (z.1) z.2)
  · refine rb_TC.mono (rk_iconst (-1 : Int32) d_M_build_39 (by decide)) ?_
    exact rt_iret (ty := .int) rfl rfl (fun h => h) d_M_build_40
noncomputable def f_M_build (r0 : Option Nat) (x1 : Int32) (σ : rb_St) : Option rb_Rs :=
  if x1 < 0 then (some (some (.int (-1 : Int32)), σ)) else (if x1 ≤ (63 : Int32) then ((rb_gI σ r0 13 1).bind fun x_1 => if x_1 = 0 then ((rb_gI σ r0 13 26).bind fun x_2 => f_M_build_j34 (r0) (x1) (x_2) σ) else ((rb_fc σ r0 13).bind fun _ => rb_cL (f_M_drafts (r0)  σ) fun y_18 σ_19 => (rb_fc σ_19 r0 13).bind fun _ => rb_cI (f_M_meet (r0) (y_18) σ_19) fun x_20 σ_21 => f_M_build_j34 (r0) (x1) (x_20) σ_21)) else (some (some (.int (-1 : Int32)), σ)))
theorem s_M_build {E : rb_EV} {d : Nat} (hdd : 10 ≤ d) (r0 : Option Nat) (x1 : Int32) (σ : rb_St) : rb_Does E k_M_build d [va_rf r0, .int x1] σ (f_M_build r0 x1 σ) := by
  refine rb_start (lv := [some (va_rf r0), some (.int x1), none, none]) (by decide) (by simp [lg_sl, rb_as, lv_args, rb_cat_r, rb_cat_i, rb_cat_l, rb_nL, k_M_build]) (fun res => ?_)
  unfold f_M_build
  refine rb_TC.mono (rk_iload_n 1 d_M_build_0 rfl rfl) ?_
  refine rt_if_lt 10 d_M_build_1 (by decide) (fun _ => ?_) (fun _ => ?_)
  · refine rb_TC.mono (rk_iconst (-1 : Int32) d_M_build_10 (by decide)) ?_
    exact rt_iret (ty := .int) rfl rfl (fun h => h) d_M_build_11
  · refine rb_TC.mono (rk_iload_n 1 d_M_build_4 rfl rfl) ?_
    refine rb_TC.mono (rk_bipush (63 : Int32) d_M_build_5 (by decide)) ?_
    refine rt_icmp_le 12 d_M_build_7 (by decide) (fun _ => ?_) (fun _ => ?_)
    · refine rb_TC.mono (rk_aload_n 0 d_M_build_12 rfl rfl) ?_
      refine rt_gI r0 fw_M_159 d_M_build_13 (fun x_1 => ?_)
      refine rt_if_ne 26 d_M_build_16 (by decide) (fun _ => ?_) (fun _ => ?_)
      · refine rb_TC.mono (rk_aload_n 0 d_M_build_19 rfl rfl) ?_
        refine rt_gI r0 fw_M_271 d_M_build_20 (fun x_2 => ?_)
        refine rb_TC.mono (rk_goto 34 d_M_build_23 (by decide)) ?_
        exact t_M_build_j34 hdd  (r0) (x1) (x_2) σ
      · refine rb_TC.mono (rk_aload_n 0 d_M_build_26 rfl rfl) ?_
        refine rb_TC.mono (rk_aload_n 0 d_M_build_27 rfl rfl) ?_
        refine rt_vL (As := []) (st := [va_rf r0]) (r0) vw_M_188 (s_M_drafts (Nat.le_refl _) (r0)  σ) (Nat.le_trans (by decide) hdd) rfl (by simp [rb_cat_r, rb_cat_i, rb_cat_l]) d_M_build_28 (fun y_18 σ_19 => ?_)
        refine rt_vI (As := [.long y_18]) (st := []) (r0) vw_M_192 (s_M_meet (Nat.le_refl _) (r0) (y_18) σ_19) (Nat.le_trans (by decide) hdd) rfl (by simp [rb_cat_r, rb_cat_i, rb_cat_l]) d_M_build_31 (fun x_20 σ_21 => ?_)
        exact t_M_build_j34 hdd  (r0) (x1) (x_20) σ_21
    · refine rb_TC.mono (rk_iconst (-1 : Int32) d_M_build_10 (by decide)) ?_
      exact rt_iret (ty := .int) rfl rfl (fun h => h) d_M_build_11
