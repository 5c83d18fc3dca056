-- ===== RuleBuilder$Expander.<init>()V
def k_Exp_init : rb_MK := (⟨"RuleBuilder$Expander", "<init>", "()V"⟩, prog_4_method_1_code, 1, none)
theorem mw_Exp_init : rb_Mw k_Exp_init 0 := ⟨rb_inG 221 (by decide +kernel) rfl, rb_inG 89 (by decide +kernel) rfl, ⟨by decide, by decide, by decide +kernel⟩, by decide⟩
theorem w_cl_Exp_21 : Cond.classLink "RuleBuilder$Expander" 21 "RuleBuilder$Phrase" ∈ rb_G := rb_inG 225 (by decide +kernel) rfl
theorem fw_Exp_14 : rb_Fw "RuleBuilder$Expander" 14 5 0 := ⟨_, rfl, by decide, by decide, by decide, rfl, rb_inG 226 (by decide +kernel) rfl⟩
theorem fp_Exp_init_14 : rb_Fp k_Exp_init 14 5 0 (.object "RuleBuilder$Text") ∧ ((∃ n, (.object "RuleBuilder$Text" : FieldType) = .object n) ∨ ∃ t, (.object "RuleBuilder$Text" : FieldType) = .array t) := ⟨⟨fw_Exp_14, rfl, fun q h => by cases h; exact Or.inr ⟨rfl, rfl, rfl⟩⟩, Or.inl ⟨_, rfl⟩⟩
theorem fw_Exp_18 : rb_Fw "RuleBuilder$Expander" 18 5 1 := ⟨_, rfl, by decide, by decide, by decide, rfl, rb_inG 230 (by decide +kernel) rfl⟩
theorem fp_Exp_init_18 : rb_Fp k_Exp_init 18 5 1 (.object "RuleBuilder$Text") ∧ ((∃ n, (.object "RuleBuilder$Text" : FieldType) = .object n) ∨ ∃ t, (.object "RuleBuilder$Text" : FieldType) = .array t) := ⟨⟨fw_Exp_18, rfl, fun q h => by cases h; exact Or.inr ⟨rfl, rfl, rfl⟩⟩, Or.inl ⟨_, rfl⟩⟩
theorem fw_Exp_23 : rb_Fw "RuleBuilder$Expander" 23 5 2 := ⟨_, rfl, by decide, by decide, by decide, rfl, rb_inG 232 (by decide +kernel) rfl⟩
theorem fp_Exp_init_23 : rb_Fp k_Exp_init 23 5 2 (.array (.object "RuleBuilder$Phrase")) ∧ ((∃ n, (.array (.object "RuleBuilder$Phrase") : FieldType) = .object n) ∨ ∃ t, (.array (.object "RuleBuilder$Phrase") : FieldType) = .array t) := ⟨⟨fw_Exp_23, rfl, fun q h => by cases h; exact Or.inr ⟨rfl, rfl, rfl⟩⟩, Or.inr ⟨_, rfl⟩⟩
theorem fw_Exp_27 : rb_Fw "RuleBuilder$Expander" 27 5 3 := ⟨_, rfl, by decide, by decide, by decide, rfl, rb_inG 233 (by decide +kernel) rfl⟩
theorem fp_Exp_init_27 : rb_Fp k_Exp_init 27 5 3 (.array (.object "RuleBuilder$Phrase")) ∧ ((∃ n, (.array (.object "RuleBuilder$Phrase") : FieldType) = .object n) ∨ ∃ t, (.array (.object "RuleBuilder$Phrase") : FieldType) = .array t) := ⟨⟨fw_Exp_27, rfl, fun q h => by cases h; exact Or.inr ⟨rfl, rfl, rfl⟩⟩, Or.inr ⟨_, rfl⟩⟩
theorem fw_Exp_30 : rb_Fw "RuleBuilder$Expander" 30 5 4 := ⟨_, rfl, by decide, by decide, by decide, rfl, rb_inG 234 (by decide +kernel) rfl⟩
theorem fp_Exp_init_30 : rb_Fp k_Exp_init 30 5 4 (.array .int) ∧ ((∃ n, (.array .int : FieldType) = .object n) ∨ ∃ t, (.array .int : FieldType) = .array t) := ⟨⟨fw_Exp_30, rfl, fun q h => by cases h; exact Or.inr ⟨rfl, rfl, rfl⟩⟩, Or.inr ⟨_, rfl⟩⟩
theorem iw_Exp_11 : rb_Iw "RuleBuilder$Expander" 11 k_Text_init 1 := ⟨mw_Text_init, rfl, rfl, rb_inG 116 (by decide +kernel) rfl, Or.inl (rb_inG 224 (by decide +kernel) rfl)⟩
theorem w_ml_Exp_1 : Cond.methodLink "RuleBuilder$Expander" 1 Lib.objectInit ∈ rb_G := rb_inG 222 (by decide +kernel) rfl
theorem ow_Exp_7 : rb_Ow "RuleBuilder$Expander" 7 2 := ⟨_, rfl, by decide, by decide, rb_inG 223 (by decide +kernel) rfl, rb_ins2, rb_ini2, rfl, by decide⟩
theorem d_Exp_init_0 : decode prog_4_method_1_code 0 = .ok (.aload_n 0, 1) := by decide +kernel
theorem d_Exp_init_1 : decode prog_4_method_1_code 1 = .ok (.invokespecial 1, 3) := by decide +kernel
theorem d_Exp_init_4 : decode prog_4_method_1_code 4 = .ok (.aload_n 0, 1) := by decide +kernel
theorem d_Exp_init_5 : decode prog_4_method_1_code 5 = .ok (.new 7, 3) := by decide +kernel
theorem d_Exp_init_8 : decode prog_4_method_1_code 8 = .ok (.dup, 1) := by decide +kernel
theorem d_Exp_init_9 : decode prog_4_method_1_code 9 = .ok (.bipush 120, 2) := by decide +kernel
theorem d_Exp_init_11 : decode prog_4_method_1_code 11 = .ok (.invokespecial 11, 3) := by decide +kernel
theorem d_Exp_init_14 : decode prog_4_method_1_code 14 = .ok (.putfield 14, 3) := by decide +kernel
theorem d_Exp_init_17 : decode prog_4_method_1_code 17 = .ok (.aload_n 0, 1) := by decide +kernel
theorem d_Exp_init_18 : decode prog_4_method_1_code 18 = .ok (.new 7, 3) := by decide +kernel
theorem d_Exp_init_21 : decode prog_4_method_1_code 21 = .ok (.dup, 1) := by decide +kernel
theorem d_Exp_init_22 : decode prog_4_method_1_code 22 = .ok (.bipush 121, 2) := by decide +kernel
theorem d_Exp_init_24 : decode prog_4_method_1_code 24 = .ok (.invokespecial 11, 3) := by decide +kernel
theorem d_Exp_init_27 : decode prog_4_method_1_code 27 = .ok (.putfield 18, 3) := by decide +kernel
theorem d_Exp_init_30 : decode prog_4_method_1_code 30 = .ok (.aload_n 0, 1) := by decide +kernel
theorem d_Exp_init_31 : decode prog_4_method_1_code 31 = .ok (.bipush 26, 2) := by decide +kernel
theorem d_Exp_init_33 : decode prog_4_method_1_code 33 = .ok (.anewarray 21, 3) := by decide +kernel
theorem d_Exp_init_36 : decode prog_4_method_1_code 36 = .ok (.putfield 23, 3) := by decide +kernel
theorem d_Exp_init_39 : decode prog_4_method_1_code 39 = .ok (.aload_n 0, 1) := by decide +kernel
theorem d_Exp_init_40 : decode prog_4_method_1_code 40 = .ok (.bipush 26, 2) := by decide +kernel
theorem d_Exp_init_42 : decode prog_4_method_1_code 42 = .ok (.anewarray 21, 3) := by decide +kernel
theorem d_Exp_init_45 : decode prog_4_method_1_code 45 = .ok (.putfield 27, 3) := by decide +kernel
theorem d_Exp_init_48 : decode prog_4_method_1_code 48 = .ok (.aload_n 0, 1) := by decide +kernel
theorem d_Exp_init_49 : decode prog_4_method_1_code 49 = .ok (.sipush 156, 3) := by decide +kernel
theorem d_Exp_init_52 : decode prog_4_method_1_code 52 = .ok (.newarray .int, 2) := by decide +kernel
theorem d_Exp_init_54 : decode prog_4_method_1_code 54 = .ok (.putfield 30, 3) := by decide +kernel
theorem d_Exp_init_57 : decode prog_4_method_1_code 57 = .ok (.return_, 1) := by decide +kernel
noncomputable def f_Exp_init (a0 : Nat) (σ : rb_St) : Option rb_Rs :=
  rb_cV (f_Text_init ((rb_n σ)) ((120 : Int32)) (rb_nO σ 2)) fun σ_1 => (rb_pR σ_1 (some a0) 5 0 (some (rb_n σ))).bind fun σ_2 => rb_cV (f_Text_init ((rb_n σ_2)) ((121 : Int32)) (rb_nO σ_2 2)) fun σ_3 => (rb_pR σ_3 (some a0) 5 1 (some (rb_n σ_2))).bind fun σ_4 => (rb_nA σ_4 111 (26 : Int32)).bind fun σ_5 => (rb_pR σ_5 (some a0) 5 2 (some (rb_n σ_4))).bind fun σ_6 => (rb_nA σ_6 111 (26 : Int32)).bind fun σ_7 => (rb_pR σ_7 (some a0) 5 3 (some (rb_n σ_6))).bind fun σ_8 => (rb_nA σ_8 102 (156 : Int32)).bind fun σ_9 => (rb_pR σ_9 (some a0) 5 4 (some (rb_n σ_8))).bind fun σ_10 => some (none, σ_10)
theorem s_Exp_init {E : rb_EV} {d : Nat} (hdd : 2 ≤ d) (a0 : Nat) (σ : rb_St) : rb_Does E k_Exp_init d [va_rf (some a0)] σ (f_Exp_init a0 σ) := by
  refine rb_start (lv := [some (va_rf (some a0))]) (by decide) (by simp [lg_sl, rb_as, lv_args, rb_cat_r, rb_cat_i, rb_cat_l, rb_nL, k_Exp_init]) (fun res => ?_)
  unfold f_Exp_init
  refine rb_TC.mono (rk_aload_n 0 d_Exp_init_0 rfl rfl) ?_
  refine rb_TC.mono (rk_objInit w_ml_Exp_1 w_oi w_oc (Nat.le_trans (by decide) hdd) (by simp [rb_cat_r, rb_cat_i, rb_cat_l]) d_Exp_init_1 rfl) ?_
  refine rb_TC.mono (rk_aload_n 0 d_Exp_init_4 rfl rfl) ?_
  refine rb_TC.mono (rk_new ow_Exp_7 d_Exp_init_5) ?_
  refine rb_TC.mono (rk_dupr d_Exp_init_8) ?_
  refine rb_TC.mono (rk_bipush (120 : Int32) d_Exp_init_9 (by decide)) ?_
  refine rt_i (As := [.int (120 : Int32)]) (st := [va_rf (some (rb_n σ)), va_rf (some a0)]) iw_Exp_11 (s_Text_init (Nat.le_refl _) ((rb_n σ)) ((120 : Int32)) (rb_nO σ 2)) (Nat.le_trans (by decide) hdd) rfl (by simp [rb_cat_r, rb_cat_i, rb_cat_l]) d_Exp_init_11 (fun σ_1 => ?_)
  refine rt_pR (some a0) fp_Exp_init_14 d_Exp_init_14 (fun σ_2 => ?_)
  refine rb_TC.mono (rk_aload_n 0 d_Exp_init_17 rfl rfl) ?_
  refine rb_TC.mono (rk_new ow_Exp_7 d_Exp_init_18) ?_
  refine rb_TC.mono (rk_dupr d_Exp_init_21) ?_
  refine rb_TC.mono (rk_bipush (121 : Int32) d_Exp_init_22 (by decide)) ?_
  refine rt_i (As := [.int (121 : Int32)]) (st := [va_rf (some (rb_n σ_2)), va_rf (some a0)]) iw_Exp_11 (s_Text_init (Nat.le_refl _) ((rb_n σ_2)) ((121 : Int32)) (rb_nO σ_2 2)) (Nat.le_trans (by decide) hdd) rfl (by simp [rb_cat_r, rb_cat_i, rb_cat_l]) d_Exp_init_24 (fun σ_3 => ?_)
  refine rt_pR (some a0) fp_Exp_init_18 d_Exp_init_27 (fun σ_4 => ?_)
  refine rb_TC.mono (rk_aload_n 0 d_Exp_init_30 rfl rfl) ?_
  refine rb_TC.mono (rk_bipush (26 : Int32) d_Exp_init_31 (by decide)) ?_
  refine rt_anew (t := 111) ⟨by decide, rfl, by decide, w_cl_Exp_21⟩ d_Exp_init_33 (fun σ_5 => ?_)
  refine rt_pR (some a0) fp_Exp_init_23 d_Exp_init_36 (fun σ_6 => ?_)
  refine rb_TC.mono (rk_aload_n 0 d_Exp_init_39 rfl rfl) ?_
  refine rb_TC.mono (rk_bipush (26 : Int32) d_Exp_init_40 (by decide)) ?_
  refine rt_anew (t := 111) ⟨by decide, rfl, by decide, w_cl_Exp_21⟩ d_Exp_init_42 (fun σ_7 => ?_)
  refine rt_pR (some a0) fp_Exp_init_27 d_Exp_init_45 (fun σ_8 => ?_)
  refine rb_TC.mono (rk_aload_n 0 d_Exp_init_48 rfl rfl) ?_
  refine rb_TC.mono (rk_sipush (156 : Int32) d_Exp_init_49 (by decide)) ?_
  refine rt_newa (t := 102) ⟨by decide, rfl, w_ac_int⟩ d_Exp_init_52 (fun σ_9 => ?_)
  refine rt_pR (some a0) fp_Exp_init_30 d_Exp_init_54 (fun σ_10 => ?_)
  exact rt_vret rfl (fun h => h) d_Exp_init_57
-- ===== RuleBuilder$Expander.isCapital(C)Z
def k_Exp_isCapital : rb_MK := (⟨"RuleBuilder$Expander", "isCapital", "(C)Z"⟩, prog_4_method_2_code, 1, some (.boolean))
theorem mw_Exp_isCapital : rb_Mw k_Exp_isCapital 1 := ⟨rb_inG 420 (by decide +kernel) rfl, rb_inG 89 (by decide +kernel) rfl, ⟨by decide, by decide, by decide +kernel⟩, by decide⟩
theorem d_Exp_isCapital_0 : decode prog_4_method_2_code 0 = .ok (.iload_n 0, 1) := by decide +kernel
theorem d_Exp_isCapital_1 : decode prog_4_method_2_code 1 = .ok (.bipush 65, 2) := by decide +kernel
theorem d_Exp_isCapital_3 : decode prog_4_method_2_code 3 = .ok (.if_icmp .lt 13, 3) := by decide +kernel
theorem d_Exp_isCapital_6 : decode prog_4_method_2_code 6 = .ok (.iload_n 0, 1) := by decide +kernel
theorem d_Exp_isCapital_7 : decode prog_4_method_2_code 7 = .ok (.bipush 90, 2) := by decide +kernel
theorem d_Exp_isCapital_9 : decode prog_4_method_2_code 9 = .ok (.if_icmp .gt 7, 3) := by decide +kernel
theorem d_Exp_isCapital_12 : decode prog_4_method_2_code 12 = .ok (.iconst 1, 1) := by decide +kernel
theorem d_Exp_isCapital_13 : decode prog_4_method_2_code 13 = .ok (.goto 4, 3) := by decide +kernel
theorem d_Exp_isCapital_16 : decode prog_4_method_2_code 16 = .ok (.iconst 0, 1) := by decide +kernel
theorem d_Exp_isCapital_17 : decode prog_4_method_2_code 17 = .ok (.ireturn, 1) := by decide +kernel
noncomputable def f_Exp_isCapital (x0 : Int32) (σ : rb_St) : Option rb_Rs :=
  if x0 < (65 : Int32) then (some (some (.int (0 : Int32)), σ)) else (if (90 : Int32) < x0 then (some (some (.int (0 : Int32)), σ)) else (some (some (.int (1 : Int32)), σ)))
theorem s_Exp_isCapital {E : rb_EV} {d : Nat} (hdd : 0 ≤ d) (x0 : Int32) (σ : rb_St) : rb_Does E k_Exp_isCapital d [.int x0] σ (f_Exp_isCapital x0 σ) := by
  refine rb_start (lv := [some (.int x0)]) (by decide) (by simp [lg_sl, rb_as, lv_args, rb_cat_r, rb_cat_i, rb_cat_l, rb_nL, k_Exp_isCapital]) (fun res => ?_)
  unfold f_Exp_isCapital
  refine rb_TC.mono (rk_iload_n 0 d_Exp_isCapital_0 rfl rfl) ?_
  refine rb_TC.mono (rk_bipush (65 : Int32) d_Exp_isCapital_1 (by decide)) ?_
  refine rt_icmp_lt 16 d_Exp_isCapital_3 (by decide) (fun _ => ?_) (fun _ => ?_)
  · refine rb_TC.mono (rk_iconst (0 : Int32) d_Exp_isCapital_16 (by decide)) ?_
    exact rt_iret (ty := .boolean) rfl (by decide) (fun h => h) d_Exp_isCapital_17
  · refine rb_TC.mono (rk_iload_n 0 d_Exp_isCapital_6 rfl rfl) ?_
    refine rb_TC.mono (rk_bipush (90 : Int32) d_Exp_isCapital_7 (by decide)) ?_
    refine rt_icmp_gt 16 d_Exp_isCapital_9 (by decide) (fun _ => ?_) (fun _ => ?_)
    · refine rb_TC.mono (rk_iconst (0 : Int32) d_Exp_isCapital_16 (by decide)) ?_
      exact rt_iret (ty := .boolean) rfl (by decide) (fun h => h) d_Exp_isCapital_17
    · refine rb_TC.mono (rk_iconst (1 : Int32) d_Exp_isCapital_12 (by decide)) ?_
      refine rb_TC.mono (rk_goto 17 d_Exp_isCapital_13 (by decide)) ?_
      exact rt_iret (ty := .boolean) rfl (by decide) (fun h => h) d_Exp_isCapital_17
-- ===== RuleBuilder$Expander.isDefinition(LRuleBuilder$Text;II)Z
def k_Exp_isDefinition : rb_MK := (⟨"RuleBuilder$Expander", "isDefinition", "(LRuleBuilder$Text;II)Z"⟩, prog_4_method_3_code, 3, some (.boolean))
theorem mw_Exp_isDefinition : rb_Mw k_Exp_isDefinition 3 := ⟨rb_inG 413 (by decide +kernel) rfl, rb_inG 89 (by decide +kernel) rfl, ⟨by decide, by decide, by decide +kernel⟩, by decide⟩
theorem sw_Exp_38 : rb_Sw "RuleBuilder$Expander" 38 k_Exp_isCapital 1 := ⟨mw_Exp_isCapital, rb_inG 418 (by decide +kernel) rfl, rb_inG 419 (by decide +kernel) rfl⟩
theorem vw_Exp_34 : rb_Vw "RuleBuilder$Expander" 34 k_Text_at 2 1 := ⟨mw_Text_at, rb_inG 414 (by decide +kernel) rfl, rb_inG 415 (by decide +kernel) rfl, rb_inG 416 (by decide +kernel) rfl, by decide, by decide, _, rfl, rfl⟩
theorem d_Exp_isDefinition_0 : decode prog_4_method_3_code 0 = .ok (.iload_n 2, 1) := by decide +kernel
theorem d_Exp_isDefinition_1 : decode prog_4_method_3_code 1 = .ok (.iload_n 1, 1) := by decide +kernel
theorem d_Exp_isDefinition_2 : decode prog_4_method_3_code 2 = .ok (.isub, 1) := by decide +kernel
theorem d_Exp_isDefinition_3 : decode prog_4_method_3_code 3 = .ok (.iconst 2, 1) := by decide +kernel
theorem d_Exp_isDefinition_4 : decode prog_4_method_3_code 4 = .ok (.if_icmp .lt 30, 3) := by decide +kernel
theorem d_Exp_isDefinition_7 : decode prog_4_method_3_code 7 = .ok (.aload_n 0, 1) := by decide +kernel
theorem d_Exp_isDefinition_8 : decode prog_4_method_3_code 8 = .ok (.iload_n 1, 1) := by decide +kernel
theorem d_Exp_isDefinition_9 : decode prog_4_method_3_code 9 = .ok (.invokevirtual 34, 3) := by decide +kernel
theorem d_Exp_isDefinition_12 : decode prog_4_method_3_code 12 = .ok (.invokestatic 38, 3) := by decide +kernel
theorem d_Exp_isDefinition_15 : decode prog_4_method_3_code 15 = .ok (.ifCond .eq 19, 3) := by decide +kernel
theorem d_Exp_isDefinition_18 : decode prog_4_method_3_code 18 = .ok (.aload_n 0, 1) := by decide +kernel
theorem d_Exp_isDefinition_19 : decode prog_4_method_3_code 19 = .ok (.iload_n 1, 1) := by decide +kernel
theorem d_Exp_isDefinition_20 : decode prog_4_method_3_code 20 = .ok (.iconst 1, 1) := by decide +kernel
theorem d_Exp_isDefinition_21 : decode prog_4_method_3_code 21 = .ok (.iadd, 1) := by decide +kernel
theorem d_Exp_isDefinition_22 : decode prog_4_method_3_code 22 = .ok (.invokevirtual 34, 3) := by decide +kernel
theorem d_Exp_isDefinition_25 : decode prog_4_method_3_code 25 = .ok (.bipush 61, 2) := by decide +kernel
theorem d_Exp_isDefinition_27 : decode prog_4_method_3_code 27 = .ok (.if_icmp .ne 7, 3) := by decide +kernel
theorem d_Exp_isDefinition_30 : decode prog_4_method_3_code 30 = .ok (.iconst 1, 1) := by decide +kernel
theorem d_Exp_isDefinition_31 : decode prog_4_method_3_code 31 = .ok (.goto 4, 3) := by decide +kernel
theorem d_Exp_isDefinition_34 : decode prog_4_method_3_code 34 = .ok (.iconst 0, 1) := by decide +kernel
theorem d_Exp_isDefinition_35 : decode prog_4_method_3_code 35 = .ok (.ireturn, 1) := by decide +kernel
noncomputable def f_Exp_isDefinition (r0 : Option Nat) (x1 : Int32) (x2 : Int32) (σ : rb_St) : Option rb_Rs :=
  if (x2 - x1) < (2 : Int32) then (some (some (.int (0 : Int32)), σ)) else ((rb_fc σ r0 2).bind fun _ => rb_cI (f_Text_at (r0) (x1) σ) fun x_1 σ_2 => rb_cI (f_Exp_isCapital (x_1) σ_2) fun x_3 σ_4 => if x_3 = 0 then (some (some (.int (0 : Int32)), σ_4)) else ((rb_fc σ_4 r0 2).bind fun _ => rb_cI (f_Text_at (r0) ((x1 + (1 : Int32))) σ_4) fun x_5 σ_6 => if x_5 = (61 : Int32) then (some (some (.int (1 : Int32)), σ_6)) else (some (some (.int (0 : Int32)), σ_6))))
theorem s_Exp_isDefinition {E : rb_EV} {d : Nat} (hdd : 1 ≤ d) (r0 : Option Nat) (x1 : Int32) (x2 : Int32) (σ : rb_St) : rb_Does E k_Exp_isDefinition d [va_rf r0, .int x1, .int x2] σ (f_Exp_isDefinition r0 x1 x2 σ) := by
  refine rb_start (lv := [some (va_rf r0), some (.int x1), some (.int x2)]) (by decide) (by simp [lg_sl, rb_as, lv_args, rb_cat_r, rb_cat_i, rb_cat_l, rb_nL, k_Exp_isDefinition]) (fun res => ?_)
  unfold f_Exp_isDefinition
  refine rb_TC.mono (rk_iload_n 2 d_Exp_isDefinition_0 rfl rfl) ?_
  refine rb_TC.mono (rk_iload_n 1 d_Exp_isDefinition_1 rfl rfl) ?_
  refine rb_TC.mono (rk_isub d_Exp_isDefinition_2) ?_
  refine rb_TC.mono (rk_iconst (2 : Int32) d_Exp_isDefinition_3 (by decide)) ?_
  refine rt_icmp_lt 34 d_Exp_isDefinition_4 (by decide) (fun _ => ?_) (fun _ => ?_)
  · refine rb_TC.mono (rk_iconst (0 : Int32) d_Exp_isDefinition_34 (by decide)) ?_
    exact rt_iret (ty := .boolean) rfl (by decide) (fun h => h) d_Exp_isDefinition_35
  · refine rb_TC.mono (rk_aload_n 0 d_Exp_isDefinition_7 rfl rfl) ?_
    refine rb_TC.mono (rk_iload_n 1 d_Exp_isDefinition_8 rfl rfl) ?_
    refine rt_vI (As := [.int x1]) (st := []) (r0) vw_Exp_34 (s_Text_at (Nat.le_refl _) (r0) (x1) σ) (Nat.le_trans (by decide) hdd) rfl (by simp [rb_cat_r, rb_cat_i, rb_cat_l]) d_Exp_isDefinition_9 (fun x_1 σ_2 => ?_)
    refine rt_sI (As := [.int x_1]) (st := []) sw_Exp_38 (s_Exp_isCapital (Nat.le_refl _) (x_1) σ_2) (Nat.le_trans (by decide) hdd) rfl (by simp [rb_cat_r, rb_cat_i, rb_cat_l]) d_Exp_isDefinition_12 (fun x_3 σ_4 => ?_)
    refine rt_if_eq 34 d_Exp_isDefinition_15 (by decide) (fun _ => ?_) (fun _ => ?_)
    · refine rb_TC.mono (rk_iconst (0 : Int32) d_Exp_isDefinition_34 (by decide)) ?_
      exact rt_iret (ty := .boolean) rfl (by decide) (fun h => h) d_Exp_isDefinition_35
    · refine rb_TC.mono (rk_aload_n 0 d_Exp_isDefinition_18 rfl rfl) ?_
      refine rb_TC.mono (rk_iload_n 1 d_Exp_isDefinition_19 rfl rfl) ?_
      refine rb_TC.mono (rk_iconst (1 : Int32) d_Exp_isDefinition_20 (by decide)) ?_
      refine rb_TC.mono (rk_iadd d_Exp_isDefinition_21) ?_
      refine rt_vI (As := [.int (x1 + (1 : Int32))]) (st := []) (r0) vw_Exp_34 (s_Text_at (Nat.le_refl _) (r0) ((x1 + (1 : Int32))) σ_4) (Nat.le_trans (by decide) hdd) rfl (by simp [rb_cat_r, rb_cat_i, rb_cat_l]) d_Exp_isDefinition_22 (fun x_5 σ_6 => ?_)
      refine rb_TC.mono (rk_bipush (61 : Int32) d_Exp_isDefinition_25 (by decide)) ?_
      refine rt_icmp_ne 34 d_Exp_isDefinition_27 (by decide) (fun _ => ?_) (fun _ => ?_)
      · refine rb_TC.mono (rk_iconst (1 : Int32) d_Exp_isDefinition_30 (by decide)) ?_
        refine rb_TC.mono (rk_goto 35 d_Exp_isDefinition_31 (by decide)) ?_
        exact rt_iret (ty := .boolean) rfl (by decide) (fun h => h) d_Exp_isDefinition_35
      · refine rb_TC.mono (rk_iconst (0 : Int32) d_Exp_isDefinition_34 (by decide)) ?_
        exact rt_iret (ty := .boolean) rfl (by decide) (fun h => h) d_Exp_isDefinition_35
-- ===== RuleBuilder$Expander.give(CLjava/lang/String;)V
def k_Exp_give : rb_MK := (⟨"RuleBuilder$Expander", "give", "(CLjava/lang/String;)V"⟩, prog_4_method_4_code, 3, none)
theorem mw_Exp_give : rb_Mw k_Exp_give 2 := ⟨rb_inG 510 (by decide +kernel) rfl, rb_inG 89 (by decide +kernel) rfl, ⟨by decide, by decide, by decide +kernel⟩, by decide⟩
theorem iw_Exp_42 : rb_Iw "RuleBuilder$Expander" 42 k_Phrase_init 1 := ⟨mw_Phrase_init, rfl, rfl, rb_inG 513 (by decide +kernel) rfl, Or.inl (rb_inG 512 (by decide +kernel) rfl)⟩
theorem ow_Exp_21 : rb_Ow "RuleBuilder$Expander" 21 10 := ⟨_, rfl, by decide, by decide, rb_inG 225 (by decide +kernel) rfl, rb_ins10, rb_ini10, rfl, by decide⟩
theorem d_Exp_give_0 : decode prog_4_method_4_code 0 = .ok (.iload_n 1, 1) := by decide +kernel
theorem d_Exp_give_1 : decode prog_4_method_4_code 1 = .ok (.invokestatic 38, 3) := by decide +kernel
theorem d_Exp_give_4 : decode prog_4_method_4_code 4 = .ok (.ifCond .eq 20, 3) := by decide +kernel
theorem d_Exp_give_7 : decode prog_4_method_4_code 7 = .ok (.aload_n 0, 1) := by decide +kernel
theorem d_Exp_give_8 : decode prog_4_method_4_code 8 = .ok (.getfield 23, 3) := by decide +kernel
theorem d_Exp_give_11 : decode prog_4_method_4_code 11 = .ok (.iload_n 1, 1) := by decide +kernel
theorem d_Exp_give_12 : decode prog_4_method_4_code 12 = .ok (.bipush 65, 2) := by decide +kernel
theorem d_Exp_give_14 : decode prog_4_method_4_code 14 = .ok (.isub, 1) := by decide +kernel
theorem d_Exp_give_15 : decode prog_4_method_4_code 15 = .ok (.new 21, 3) := by decide +kernel
theorem d_Exp_give_18 : decode prog_4_method_4_code 18 = .ok (.dup, 1) := by decide +kernel
theorem d_Exp_give_19 : decode prog_4_method_4_code 19 = .ok (.aload_n 2, 1) := by decide +kernel
theorem d_Exp_give_20 : decode prog_4_method_4_code 20 = .ok (.invokespecial 42, 3) := by decide +kernel
theorem d_Exp_give_23 : decode prog_4_method_4_code 23 = .ok (.aastore, 1) := by decide +kernel
theorem d_Exp_give_24 : decode prog_4_method_4_code 24 = .ok (.return_, 1) := by decide +kernel
noncomputable def f_Exp_give (r0 : Option Nat) (x1 : Int32) (r2 : Option Nat) (σ : rb_St) : Option rb_Rs :=
  rb_cI (f_Exp_isCapital (x1) σ) fun x_1 σ_2 => if x_1 = 0 then (some (none, σ_2)) else ((rb_gR σ_2 r0 5 2).bind fun r_3 => rb_cV (f_Phrase_init ((rb_n σ_2)) (r2) (rb_nO σ_2 10)) fun σ_4 => (rb_sR σ_4 r_3 111 (x1 - (65 : Int32)) (some (rb_n σ_2))).bind fun σ_5 => some (none, σ_5))
theorem s_Exp_give {E : rb_EV} {d : Nat} (hdd : 2 ≤ d) (r0 : Option Nat) (x1 : Int32) (r2 : Option Nat) (σ : rb_St) : rb_Does E k_Exp_give d [va_rf r0, .int x1, va_rf r2] σ (f_Exp_give r0 x1 r2 σ) := by
  refine rb_start (lv := [some (va_rf r0), some (.int x1), some (va_rf r2)]) (by decide) (by simp [lg_sl, rb_as, lv_args, rb_cat_r, rb_cat_i, rb_cat_l, rb_nL, k_Exp_give]) (fun res => ?_)
  unfold f_Exp_give
  refine rb_TC.mono (rk_iload_n 1 d_Exp_give_0 rfl rfl) ?_
  refine rt_sI (As := [.int x1]) (st := []) sw_Exp_38 (s_Exp_isCapital (Nat.le_refl _) (x1) σ) (Nat.le_trans (by decide) hdd) rfl (by simp [rb_cat_r, rb_cat_i, rb_cat_l]) d_Exp_give_1 (fun x_1 σ_2 => ?_)
  refine rt_if_eq 24 d_Exp_give_4 (by decide) (fun _ => ?_) (fun _ => ?_)
  · exact rt_vret rfl (fun h => h) d_Exp_give_24
  · refine rb_TC.mono (rk_aload_n 0 d_Exp_give_7 rfl rfl) ?_
    refine rt_gR r0 fw_Exp_23 d_Exp_give_8 (fun r_3 => ?_)
    refine rb_TC.mono (rk_iload_n 1 d_Exp_give_11 rfl rfl) ?_
    refine rb_TC.mono (rk_bipush (65 : Int32) d_Exp_give_12 (by decide)) ?_
    refine rb_TC.mono (rk_isub d_Exp_give_14) ?_
    refine rb_TC.mono (rk_new ow_Exp_21 d_Exp_give_15) ?_
    refine rb_TC.mono (rk_dupr d_Exp_give_18) ?_
    refine rb_TC.mono (rk_aload_n 2 d_Exp_give_19 rfl rfl) ?_
    refine rt_i (As := [va_rf r2]) (st := [va_rf (some (rb_n σ_2)), .int (x1 - (65 : Int32)), va_rf r_3]) iw_Exp_42 (s_Phrase_init (Nat.le_refl _) ((rb_n σ_2)) (r2) (rb_nO σ_2 10)) (Nat.le_trans (by decide) hdd) rfl (by simp [rb_cat_r, rb_cat_i, rb_cat_l]) d_Exp_give_20 (fun σ_4 => ?_)
    refine rt_aast (t := 111) r_3 (some (rb_n σ_2)) (by decide) d_Exp_give_23 (fun σ_5 => ?_)
    exact rt_vret rfl (fun h => h) d_Exp_give_24
-- ===== RuleBuilder$Expander.forgetDefinitions()V
def k_Exp_forgetDefinitions : rb_MK := (⟨"RuleBuilder$Expander", "forgetDefinitions", "()V"⟩, prog_4_method_6_code, 2, none)
theorem mw_Exp_forgetDefinitions : rb_Mw k_Exp_forgetDefinitions 0 := ⟨rb_inG 542 (by decide +kernel) rfl, rb_inG 89 (by decide +kernel) rfl, ⟨by decide, by decide, by decide +kernel⟩, by decide⟩
theorem d_Exp_forgetDefinitions_0 : decode prog_4_method_6_code 0 = .ok (.iconst 0, 1) := by decide +kernel
theorem d_Exp_forgetDefinitions_1 : decode prog_4_method_6_code 1 = .ok (.istore_n 1, 1) := by decide +kernel
theorem d_Exp_forgetDefinitions_2 : decode prog_4_method_6_code 2 = .ok (.iload_n 1, 1) := by decide +kernel
theorem d_Exp_forgetDefinitions_3 : decode prog_4_method_6_code 3 = .ok (.bipush 26, 2) := by decide +kernel
theorem d_Exp_forgetDefinitions_5 : decode prog_4_method_6_code 5 = .ok (.if_icmp .ge 16, 3) := by decide +kernel
theorem d_Exp_forgetDefinitions_8 : decode prog_4_method_6_code 8 = .ok (.aload_n 0, 1) := by decide +kernel
theorem d_Exp_forgetDefinitions_9 : decode prog_4_method_6_code 9 = .ok (.getfield 27, 3) := by decide +kernel
theorem d_Exp_forgetDefinitions_12 : decode prog_4_method_6_code 12 = .ok (.iload_n 1, 1) := by decide +kernel
theorem d_Exp_forgetDefinitions_13 : decode prog_4_method_6_code 13 = .ok (.aconst_null, 1) := by decide +kernel
theorem d_Exp_forgetDefinitions_14 : decode prog_4_method_6_code 14 = .ok (.aastore, 1) := by decide +kernel
theorem d_Exp_forgetDefinitions_15 : decode prog_4_method_6_code 15 = .ok (.iinc 1 1, 3) := by decide +kernel
theorem d_Exp_forgetDefinitions_18 : decode prog_4_method_6_code 18 = .ok (.goto (-16), 3) := by decide +kernel
theorem d_Exp_forgetDefinitions_21 : decode prog_4_method_6_code 21 = .ok (.return_, 1) := by decide +kernel
noncomputable def f_Exp_forgetDefinitions_b2 (r0 : Option Nat) (x1 : Int32) (σ : rb_St) : Option ((Int32 × rb_St) ⊕ rb_Rs) :=
  if (26 : Int32) ≤ x1 then ((some (none, σ)).map Sum.inr) else ((rb_gR σ r0 5 3).bind fun r_1 => (rb_sR σ r_1 111 x1 none).bind fun σ_2 => some (.inl ((x1 + 1), σ_2)))
theorem t_Exp_forgetDefinitions_b2 {E : rb_EV} {d : Nat} {σ0 : rb_St} {res : rb_Rs} (hdd : 0 ≤ d)  (r0 : Option Nat) (x1 : Int32) (σ : rb_St) : rb_TC (f_Exp_forgetDefinitions_b2 r0 x1 σ) (Sum.elim (fun z : (Int32 × rb_St) => rb_WK E k_Exp_forgetDefinitions d σ0 res 2 [some (va_rf r0), some (.int z.1)] [] z.2) (fun r => r = res)) (rb_WK E k_Exp_forgetDefinitions d σ0 res 2 [some (va_rf r0), some (.int x1)] [] σ) := by
  unfold f_Exp_forgetDefinitions_b2
  refine rb_TC.mono (rk_iload_n 1 d_Exp_forgetDefinitions_2 rfl rfl) ?_
  refine rb_TC.mono (rk_bipush (26 : Int32) d_Exp_forgetDefinitions_3 (by decide)) ?_
  refine rt_icmp_ge 21 d_Exp_forgetDefinitions_5 (by decide) (fun _ => ?_) (fun _ => ?_)
  · refine rb_TC.out ?_
    exact rt_vret rfl (fun h => h) d_Exp_forgetDefinitions_21
  · refine rb_TC.mono (rk_aload_n 0 d_Exp_forgetDefinitions_8 rfl rfl) ?_
    refine rt_gR r0 fw_Exp_27 d_Exp_forgetDefinitions_9 (fun r_1 => ?_)
    refine rb_TC.mono (rk_iload_n 1 d_Exp_forgetDefinitions_12 rfl rfl) ?_
    refine rb_TC.mono (rk_null d_Exp_forgetDefinitions_13) ?_
    refine rt_aast (t := 111) r_1 none (by decide) d_Exp_forgetDefinitions_14 (fun σ_2 => ?_)
    refine rb_TC.mono (rk_iinc (lv2 := [some (va_rf r0), some (.int (x1 + 1))]) (x1 + 1) d_Exp_forgetDefinitions_15 rfl rfl (by decide) (fun _ => rb_one_r) rfl) ?_
    refine rb_TC.mono (rk_goto 2 d_Exp_forgetDefinitions_18 (by decide)) ?_
    exact rb_back
noncomputable def f_Exp_forgetDefinitions (r0 : Option Nat) (σ : rb_St) : Option rb_Rs :=
  rb_it (fun z : (Int32 × rb_St) => f_Exp_forgetDefinitions_b2 (r0) (z.1) z.2) ((0 : Int32), σ)
theorem s_Exp_forgetDefinitions {E : rb_EV} {d : Nat} (hdd : 0 ≤ d) (r0 : Option Nat) (σ : rb_St) : rb_Does E k_Exp_forgetDefinitions d [va_rf r0] σ (f_Exp_forgetDefinitions r0 σ) := by
  refine rb_start (lv := [some (va_rf r0), none]) (by decide) (by simp [lg_sl, rb_as, lv_args, rb_cat_r, rb_cat_i, rb_cat_l, rb_nL, k_Exp_forgetDefinitions]) (fun res => ?_)
  unfold f_Exp_forgetDefinitions
  refine rb_TC.mono (rk_iconst (0 : Int32) d_Exp_forgetDefinitions_0 (by decide)) ?_
  refine rb_TC.mono (rk_istore_n (lv2 := [some (va_rf r0), some (.int (0 : Int32))]) 1 d_Exp_forgetDefinitions_1 rfl (by decide) (fun _ => rb_one_r) rfl) ?_
  exact rb_TC.loop2 (A := (fun z : (Int32 × rb_St) => rb_WK E k_Exp_forgetDefinitions d σ res 2 [some (va_rf r0), some (.int z.1)] [] z.2)) ((0 : Int32), σ) (fun z => t_Exp_forgetDefinitions_b2 hdd  (r0) (z.1) z.2)
-- ===== RuleBuilder$Expander.define(CLjava/lang/String;)V
def k_Exp_define : rb_MK := (⟨"RuleBuilder$Expander", "define", "(CLjava/lang/String;)V"⟩, prog_4_method_5_code, 3, none)
theorem mw_Exp_define : rb_Mw k_Exp_define 2 := ⟨rb_inG 714 (by decide +kernel) rfl, rb_inG 89 (by decide +kernel) rfl, ⟨by decide, by decide, by decide +kernel⟩, by decide⟩
theorem d_Exp_define_0 : decode prog_4_method_5_code 0 = .ok (.iload_n 1, 1) := by decide +kernel
theorem d_Exp_define_1 : decode prog_4_method_5_code 1 = .ok (.invokestatic 38, 3) := by decide +kernel
theorem d_Exp_define_4 : decode prog_4_method_5_code 4 = .ok (.ifCond .eq 20, 3) := by decide +kernel
theorem d_Exp_define_7 : decode prog_4_method_5_code 7 = .ok (.aload_n 0, 1) := by decide +kernel
theorem d_Exp_define_8 : decode prog_4_method_5_code 8 = .ok (.getfield 27, 3) := by decide +kernel
theorem d_Exp_define_11 : decode prog_4_method_5_code 11 = .ok (.iload_n 1, 1) := by decide +kernel
theorem d_Exp_define_12 : decode prog_4_method_5_code 12 = .ok (.bipush 65, 2) := by decide +kernel
theorem d_Exp_define_14 : decode prog_4_method_5_code 14 = .ok (.isub, 1) := by decide +kernel
theorem d_Exp_define_15 : decode prog_4_method_5_code 15 = .ok (.new 21, 3) := by decide +kernel
theorem d_Exp_define_18 : decode prog_4_method_5_code 18 = .ok (.dup, 1) := by decide +kernel
theorem d_Exp_define_19 : decode prog_4_method_5_code 19 = .ok (.aload_n 2, 1) := by decide +kernel
theorem d_Exp_define_20 : decode prog_4_method_5_code 20 = .ok (.invokespecial 42, 3) := by decide +kernel
theorem d_Exp_define_23 : decode prog_4_method_5_code 23 = .ok (.aastore, 1) := by decide +kernel
theorem d_Exp_define_24 : decode prog_4_method_5_code 24 = .ok (.return_, 1) := by decide +kernel
noncomputable def f_Exp_define (r0 : Option Nat) (x1 : Int32) (r2 : Option Nat) (σ : rb_St) : Option rb_Rs :=
  rb_cI (f_Exp_isCapital (x1) σ) fun x_1 σ_2 => if x_1 = 0 then (some (none, σ_2)) else ((rb_gR σ_2 r0 5 3).bind fun r_3 => rb_cV (f_Phrase_init ((rb_n σ_2)) (r2) (rb_nO σ_2 10)) fun σ_4 => (rb_sR σ_4 r_3 111 (x1 - (65 : Int32)) (some (rb_n σ_2))).bind fun σ_5 => some (none, σ_5))
theorem s_Exp_define {E : rb_EV} {d : Nat} (hdd : 2 ≤ d) (r0 : Option Nat) (x1 : Int32) (r2 : Option Nat) (σ : rb_St) : rb_Does E k_Exp_define d [va_rf r0, .int x1, va_rf r2] σ (f_Exp_define r0 x1 r2 σ) := by
  refine rb_start (lv := [some (va_rf r0), some (.int x1), some (va_rf r2)]) (by decide) (by simp [lg_sl, rb_as, lv_args, rb_cat_r, rb_cat_i, rb_cat_l, rb_nL, k_Exp_define]) (fun res => ?_)
  unfold f_Exp_define
  refine rb_TC.mono (rk_iload_n 1 d_Exp_define_0 rfl rfl) ?_
  refine rt_sI (As := [.int x1]) (st := []) sw_Exp_38 (s_Exp_isCapital (Nat.le_refl _) (x1) σ) (Nat.le_trans (by decide) hdd) rfl (by simp [rb_cat_r, rb_cat_i, rb_cat_l]) d_Exp_define_1 (fun x_1 σ_2 => ?_)
  refine rt_if_eq 24 d_Exp_define_4 (by decide) (fun _ => ?_) (fun _ => ?_)
  · exact rt_vret rfl (fun h => h) d_Exp_define_24
  · refine rb_TC.mono (rk_aload_n 0 d_Exp_define_7 rfl rfl) ?_
    refine rt_gR r0 fw_Exp_27 d_Exp_define_8 (fun r_3 => ?_)
    refine rb_TC.mono (rk_iload_n 1 d_Exp_define_11 rfl rfl) ?_
    refine rb_TC.mono (rk_bipush (65 : Int32) d_Exp_define_12 (by decide)) ?_
    refine rb_TC.mono (rk_isub d_Exp_define_14) ?_
    refine rb_TC.mono (rk_new ow_Exp_21 d_Exp_define_15) ?_
    refine rb_TC.mono (rk_dupr d_Exp_define_18) ?_
    refine rb_TC.mono (rk_aload_n 2 d_Exp_define_19 rfl rfl) ?_
    refine rt_i (As := [va_rf r2]) (st := [va_rf (some (rb_n σ_2)), .int (x1 - (65 : Int32)), va_rf r_3]) iw_Exp_42 (s_Phrase_init (Nat.le_refl _) ((rb_n σ_2)) (r2) (rb_nO σ_2 10)) (Nat.le_trans (by decide) hdd) rfl (by simp [rb_cat_r, rb_cat_i, rb_cat_l]) d_Exp_define_20 (fun σ_4 => ?_)
    refine rt_aast (t := 111) r_3 (some (rb_n σ_2)) (by decide) d_Exp_define_23 (fun σ_5 => ?_)
    exact rt_vret rfl (fun h => h) d_Exp_define_24
-- ===== RuleBuilder$Expander.placeOf(Ljava/lang/String;CI)I
def k_Exp_placeOf : rb_MK := (⟨"RuleBuilder$Expander", "placeOf", "(Ljava/lang/String;CI)I"⟩, prog_4_method_11_code, 4, some (.int))
theorem mw_Exp_placeOf : rb_Mw k_Exp_placeOf 3 := ⟨rb_inG 743 (by decide +kernel) rfl, rb_inG 89 (by decide +kernel) rfl, ⟨by decide, by decide, by decide +kernel⟩, by decide⟩
theorem w_mmax_Exp_83 : rb_Xw "RuleBuilder$Expander" 83 := ⟨rb_inG 744 (by decide +kernel) rfl, rb_inG 745 (by decide +kernel) rfl, rb_inG 103 (by decide +kernel) rfl, rb_inG 746 (by decide +kernel) rfl⟩
theorem vw_Exp_62 : rb_Vw "RuleBuilder$Expander" 62 k_Str_length 14 0 := ⟨mw_Str_length, rb_inG 731 (by decide +kernel) rfl, rb_inG 590 (by decide +kernel) rfl, rb_inG 591 (by decide +kernel) rfl, by decide, by decide, _, rfl, rfl⟩
theorem vw_Exp_68 : rb_Vw "RuleBuilder$Expander" 68 k_Str_charAt 14 1 := ⟨mw_Str_charAt, rb_inG 732 (by decide +kernel) rfl, rb_inG 598 (by decide +kernel) rfl, rb_inG 599 (by decide +kernel) rfl, by decide, by decide, _, rfl, rfl⟩
theorem d_Exp_placeOf_0 : decode prog_4_method_11_code 0 = .ok (.iload_n 2, 1) := by decide +kernel
theorem d_Exp_placeOf_1 : decode prog_4_method_11_code 1 = .ok (.iconst 0, 1) := by decide +kernel
theorem d_Exp_placeOf_2 : decode prog_4_method_11_code 2 = .ok (.invokestatic 83, 3) := by decide +kernel
theorem d_Exp_placeOf_5 : decode prog_4_method_11_code 5 = .ok (.istore_n 3, 1) := by decide +kernel
theorem d_Exp_placeOf_6 : decode prog_4_method_11_code 6 = .ok (.iload_n 3, 1) := by decide +kernel
theorem d_Exp_placeOf_7 : decode prog_4_method_11_code 7 = .ok (.aload_n 0, 1) := by decide +kernel
theorem d_Exp_placeOf_8 : decode prog_4_method_11_code 8 = .ok (.invokevirtual 62, 3) := by decide +kernel
theorem d_Exp_placeOf_11 : decode prog_4_method_11_code 11 = .ok (.if_icmp .ge 20, 3) := by decide +kernel
theorem d_Exp_placeOf_14 : decode prog_4_method_11_code 14 = .ok (.aload_n 0, 1) := by decide +kernel
theorem d_Exp_placeOf_15 : decode prog_4_method_11_code 15 = .ok (.iload_n 3, 1) := by decide +kernel
theorem d_Exp_placeOf_16 : decode prog_4_method_11_code 16 = .ok (.invokevirtual 68, 3) := by decide +kernel
theorem d_Exp_placeOf_19 : decode prog_4_method_11_code 19 = .ok (.iload_n 1, 1) := by decide +kernel
theorem d_Exp_placeOf_20 : decode prog_4_method_11_code 20 = .ok (.if_icmp .ne 5, 3) := by decide +kernel
theorem d_Exp_placeOf_23 : decode prog_4_method_11_code 23 = .ok (.iload_n 3, 1) := by decide +kernel
theorem d_Exp_placeOf_24 : decode prog_4_method_11_code 24 = .ok (.ireturn, 1) := by decide +kernel
theorem d_Exp_placeOf_25 : decode prog_4_method_11_code 25 = .ok (.iinc 3 1, 3) := by decide +kernel
theorem d_Exp_placeOf_28 : decode prog_4_method_11_code 28 = .ok (.goto (-22), 3) := by decide +kernel
theorem d_Exp_placeOf_31 : decode prog_4_method_11_code 31 = .ok (.aload_n 0, 1) := by decide +kernel
theorem d_Exp_placeOf_32 : decode prog_4_method_11_code 32 = .ok (.invokevirtual 62, 3) := by decide +kernel
theorem d_Exp_placeOf_35 : decode prog_4_method_11_code 35 = .ok (.ireturn, 1) := by decide +kernel
noncomputable def f_Exp_placeOf_b6 (r0 : Option Nat) (x1 : Int32) (x3 : Int32) (σ : rb_St) : Option ((Int32 × rb_St) ⊕ rb_Rs) :=
  (rb_fc σ r0 14).bind fun _ => rb_cI (f_Str_length (r0)  σ) fun x_1 σ_2 => if x_1 ≤ x3 then (((rb_fc σ_2 r0 14).bind fun _ => rb_cI (f_Str_length (r0)  σ_2) fun x_3 σ_4 => some (some (.int x_3), σ_4)).map Sum.inr) else ((rb_fc σ_2 r0 14).bind fun _ => rb_cI (f_Str_charAt (r0) (x3) σ_2) fun x_5 σ_6 => if x_5 = x1 then ((some (some (.int x3), σ_6)).map Sum.inr) else (some (.inl ((x3 + 1), σ_6))))
theorem t_Exp_placeOf_b6 {E : rb_EV} {d : Nat} {σ0 : rb_St} {res : rb_Rs} (hdd : 4 ≤ d)  (r0 : Option Nat) (x1 : Int32) (x3 : Int32) (σ : rb_St) : rb_TC (f_Exp_placeOf_b6 r0 x1 x3 σ) (Sum.elim (fun z : (Int32 × rb_St) => rb_WK E k_Exp_placeOf d σ0 res 6 [some (va_rf r0), some (.int x1), none, some (.int z.1)] [] z.2) (fun r => r = res)) (rb_WK E k_Exp_placeOf d σ0 res 6 [some (va_rf r0), some (.int x1), none, some (.int x3)] [] σ) := by
  unfold f_Exp_placeOf_b6
  refine rb_TC.mono (rk_iload_n 3 d_Exp_placeOf_6 rfl rfl) ?_
  refine rb_TC.mono (rk_aload_n 0 d_Exp_placeOf_7 rfl rfl) ?_
  refine rt_vI (As := []) (st := [.int x3]) (r0) vw_Exp_62 (s_Str_length (Nat.le_refl _) (r0)  σ) (Nat.le_trans (by decide) hdd) rfl (by simp [rb_cat_r, rb_cat_i, rb_cat_l]) d_Exp_placeOf_8 (fun x_1 σ_2 => ?_)
  refine rt_icmp_ge 31 d_Exp_placeOf_11 (by decide) (fun _ => ?_) (fun _ => ?_)
  · refine rb_TC.out ?_
    refine rb_TC.mono (rk_aload_n 0 d_Exp_placeOf_31 rfl rfl) ?_
    refine rt_vI (As := []) (st := []) (r0) vw_Exp_62 (s_Str_length (Nat.le_refl _) (r0)  σ_2) (Nat.le_trans (by decide) hdd) rfl (by simp [rb_cat_r, rb_cat_i, rb_cat_l]) d_Exp_placeOf_32 (fun x_3 σ_4 => ?_)
    exact rt_iret (ty := .int) rfl rfl (fun h => h) d_Exp_placeOf_35
  · refine rb_TC.mono (rk_aload_n 0 d_Exp_placeOf_14 rfl rfl) ?_
    refine rb_TC.mono (rk_iload_n 3 d_Exp_placeOf_15 rfl rfl) ?_
    refine rt_vI (As := [.int x3]) (st := []) (r0) vw_Exp_68 (s_Str_charAt (Nat.le_refl _) (r0) (x3) σ_2) (Nat.le_trans (by decide) hdd) rfl (by simp [rb_cat_r, rb_cat_i, rb_cat_l]) d_Exp_placeOf_16 (fun x_5 σ_6 => ?_)
    refine rb_TC.mono (rk_iload_n 1 d_Exp_placeOf_19 rfl rfl) ?_
    refine rt_icmp_ne 25 d_Exp_placeOf_20 (by decide) (fun _ => ?_) (fun _ => ?_)
    · refine rb_TC.out ?_
      refine rb_TC.mono (rk_iload_n 3 d_Exp_placeOf_23 rfl rfl) ?_
      exact rt_iret (ty := .int) rfl rfl (fun h => h) d_Exp_placeOf_24
    · refine rb_TC.mono (rk_iinc (lv2 := [some (va_rf r0), some (.int x1), none, some (.int (x3 + 1))]) (x3 + 1) d_Exp_placeOf_25 rfl rfl (by decide) (fun _ => rb_one_n) rfl) ?_
      refine rb_TC.mono (rk_goto 6 d_Exp_placeOf_28 (by decide)) ?_
      exact rb_back
noncomputable def f_Exp_placeOf (r0 : Option Nat) (x1 : Int32) (x2 : Int32) (σ : rb_St) : Option rb_Rs :=
  rb_it (fun z : (Int32 × rb_St) => f_Exp_placeOf_b6 (r0) (x1) (z.1) z.2) ((rb_mx x2 (0 : Int32)), σ)
theorem s_Exp_placeOf {E : rb_EV} {d : Nat} (hdd : 4 ≤ d) (r0 : Option Nat) (x1 : Int32) (x2 : Int32) (σ : rb_St) : rb_Does E k_Exp_placeOf d [va_rf r0, .int x1, .int x2] σ (f_Exp_placeOf r0 x1 x2 σ) := by
  refine rb_start (lv := [some (va_rf r0), some (.int x1), some (.int x2), none]) (by decide) (by simp [lg_sl, rb_as, lv_args, rb_cat_r, rb_cat_i, rb_cat_l, rb_nL, k_Exp_placeOf]) (fun res => ?_)
  unfold f_Exp_placeOf
  refine rb_TC.mono (rk_iload_n 2 d_Exp_placeOf_0 rfl rfl) ?_
  refine rb_TC.mono (rk_iconst (0 : Int32) d_Exp_placeOf_1 (by decide)) ?_
  refine rb_TC.mono (rk_mmax w_mmax_Exp_83 (Nat.le_trans (by decide) hdd) (by simp [rb_cat_r, rb_cat_i, rb_cat_l]) d_Exp_placeOf_2) ?_
  refine rb_TC.mono (rk_istore_n (lv2 := [some (va_rf r0), some (.int x1), some (.int x2), some (.int (rb_mx x2 (0 : Int32)))]) 3 d_Exp_placeOf_5 rfl (by decide) (fun _ => rb_one_i) rfl) ?_
  refine rb_TC.mono (rk_less (lv2 := [some (va_rf r0), some (.int x1), none, some (.int (rb_mx x2 (0 : Int32)))]) (rb_le_ok (rb_leS (rb_leS (rb_leN (rb_leS rb_le0)))))) ?_
  exact rb_TC.loop2 (A := (fun z : (Int32 × rb_St) => rb_WK E k_Exp_placeOf d σ res 6 [some (va_rf r0), some (.int x1), none, some (.int z.1)] [] z.2)) ((rb_mx x2 (0 : Int32)), σ) (fun z => t_Exp_placeOf_b6 hdd  (r0) (x1) (z.1) z.2)
-- ===== RuleBuilder$Expander.valueOf(C)Ljava/lang/String;
def k_Exp_valueOf : rb_MK := (⟨"RuleBuilder$Expander", "valueOf", "(C)Ljava/lang/String;"⟩, prog_4_method_13_code, 3, some (.object "java/lang/String"))
theorem mw_Exp_valueOf : rb_Mw k_Exp_valueOf 1 := ⟨rb_inG 755 (by decide +kernel) rfl, rb_inG 89 (by decide +kernel) rfl, ⟨by decide, by decide, by decide +kernel⟩, by decide⟩
theorem fw_Exp_111 : rb_Fw "RuleBuilder$Expander" 111 10 0 := ⟨_, rfl, by decide, by decide, by decide, rfl, rb_inG 519 (by decide +kernel) rfl⟩
theorem d_Exp_valueOf_0 : decode prog_4_method_13_code 0 = .ok (.iload_n 1, 1) := by decide +kernel
theorem d_Exp_valueOf_1 : decode prog_4_method_13_code 1 = .ok (.bipush 65, 2) := by decide +kernel
theorem d_Exp_valueOf_3 : decode prog_4_method_13_code 3 = .ok (.isub, 1) := by decide +kernel
theorem d_Exp_valueOf_4 : decode prog_4_method_13_code 4 = .ok (.istore_n 2, 1) := by decide +kernel
theorem d_Exp_valueOf_5 : decode prog_4_method_13_code 5 = .ok (.aload_n 0, 1) := by decide +kernel
theorem d_Exp_valueOf_6 : decode prog_4_method_13_code 6 = .ok (.getfield 23, 3) := by decide +kernel
theorem d_Exp_valueOf_9 : decode prog_4_method_13_code 9 = .ok (.iload_n 2, 1) := by decide +kernel
theorem d_Exp_valueOf_10 : decode prog_4_method_13_code 10 = .ok (.aaload, 1) := by decide +kernel
theorem d_Exp_valueOf_11 : decode prog_4_method_13_code 11 = .ok (.ifnull 13, 3) := by decide +kernel
theorem d_Exp_valueOf_14 : decode prog_4_method_13_code 14 = .ok (.aload_n 0, 1) := by decide +kernel
theorem d_Exp_valueOf_15 : decode prog_4_method_13_code 15 = .ok (.getfield 23, 3) := by decide +kernel
theorem d_Exp_valueOf_18 : decode prog_4_method_13_code 18 = .ok (.iload_n 2, 1) := by decide +kernel
theorem d_Exp_valueOf_19 : decode prog_4_method_13_code 19 = .ok (.aaload, 1) := by decide +kernel
theorem d_Exp_valueOf_20 : decode prog_4_method_13_code 20 = .ok (.getfield 111, 3) := by decide +kernel
theorem d_Exp_valueOf_23 : decode prog_4_method_13_code 23 = .ok (.areturn, 1) := by decide +kernel
theorem d_Exp_valueOf_24 : decode prog_4_method_13_code 24 = .ok (.aload_n 0, 1) := by decide +kernel
theorem d_Exp_valueOf_25 : decode prog_4_method_13_code 25 = .ok (.getfield 27, 3) := by decide +kernel
theorem d_Exp_valueOf_28 : decode prog_4_method_13_code 28 = .ok (.iload_n 2, 1) := by decide +kernel
theorem d_Exp_valueOf_29 : decode prog_4_method_13_code 29 = .ok (.aaload, 1) := by decide +kernel
theorem d_Exp_valueOf_30 : decode prog_4_method_13_code 30 = .ok (.ifnull 15, 3) := by decide +kernel
theorem d_Exp_valueOf_33 : decode prog_4_method_13_code 33 = .ok (.aload_n 0, 1) := by decide +kernel
theorem d_Exp_valueOf_34 : decode prog_4_method_13_code 34 = .ok (.getfield 27, 3) := by decide +kernel
theorem d_Exp_valueOf_37 : decode prog_4_method_13_code 37 = .ok (.iload_n 2, 1) := by decide +kernel
theorem d_Exp_valueOf_38 : decode prog_4_method_13_code 38 = .ok (.aaload, 1) := by decide +kernel
theorem d_Exp_valueOf_39 : decode prog_4_method_13_code 39 = .ok (.getfield 111, 3) := by decide +kernel
theorem d_Exp_valueOf_42 : decode prog_4_method_13_code 42 = .ok (.goto 5, 3) := by decide +kernel
theorem d_Exp_valueOf_45 : decode prog_4_method_13_code 45 = .ok (.ldc 115, 2) := by decide +kernel
theorem d_Exp_valueOf_47 : decode prog_4_method_13_code 47 = .ok (.areturn, 1) := by decide +kernel
noncomputable def f_Exp_valueOf (r0 : Option Nat) (x1 : Int32) (σ : rb_St) : Option rb_Rs :=
  (rb_gR σ r0 5 2).bind fun r_1 => (rb_aR σ r_1 111 (x1 - (65 : Int32))).bind fun r_2 => if r_2 = none then ((rb_gR σ r0 5 3).bind fun r_3 => (rb_aR σ r_3 111 (x1 - (65 : Int32))).bind fun r_4 => if r_4 = none then (some (some (va_rf (some (rb_k σ 0))), σ)) else ((rb_gR σ r0 5 3).bind fun r_5 => (rb_aR σ r_5 111 (x1 - (65 : Int32))).bind fun r_6 => (rb_gR σ r_6 10 0).bind fun r_7 => some (some (va_rf r_7), σ))) else ((rb_gR σ r0 5 2).bind fun r_8 => (rb_aR σ r_8 111 (x1 - (65 : Int32))).bind fun r_9 => (rb_gR σ r_9 10 0).bind fun r_10 => some (some (va_rf r_10), σ))
theorem s_Exp_valueOf {E : rb_EV} {d : Nat} (hdd : 0 ≤ d) (r0 : Option Nat) (x1 : Int32) (σ : rb_St) : rb_Does E k_Exp_valueOf d [va_rf r0, .int x1] σ (f_Exp_valueOf r0 x1 σ) := by
  refine rb_start (lv := [some (va_rf r0), some (.int x1), none]) (by decide) (by simp [lg_sl, rb_as, lv_args, rb_cat_r, rb_cat_i, rb_cat_l, rb_nL, k_Exp_valueOf]) (fun res => ?_)
  unfold f_Exp_valueOf
  refine rb_TC.mono (rk_iload_n 1 d_Exp_valueOf_0 rfl rfl) ?_
  refine rb_TC.mono (rk_bipush (65 : Int32) d_Exp_valueOf_1 (by decide)) ?_
  refine rb_TC.mono (rk_isub d_Exp_valueOf_3) ?_
  refine rb_TC.mono (rk_istore_n (lv2 := [some (va_rf r0), some (.int x1), some (.int (x1 - (65 : Int32)))]) 2 d_Exp_valueOf_4 rfl (by decide) (fun _ => rb_one_i) rfl) ?_
  refine rb_TC.mono (rk_aload_n 0 d_Exp_valueOf_5 rfl rfl) ?_
  refine rt_gR r0 fw_Exp_23 d_Exp_valueOf_6 (fun r_1 => ?_)
  refine rb_TC.mono (rk_iload_n 2 d_Exp_valueOf_9 rfl rfl) ?_
  refine rt_aald (t := 111) r_1 (by decide) d_Exp_valueOf_10 (fun r_2 => ?_)
  refine rt_ifnull 24 d_Exp_valueOf_11 (by decide) (fun _ => ?_) (fun _ => ?_)
  · refine rb_TC.mono (rk_aload_n 0 d_Exp_valueOf_24 rfl rfl) ?_
    refine rt_gR r0 fw_Exp_27 d_Exp_valueOf_25 (fun r_3 => ?_)
    refine rb_TC.mono (rk_iload_n 2 d_Exp_valueOf_28 rfl rfl) ?_
    refine rt_aald (t := 111) r_3 (by decide) d_Exp_valueOf_29 (fun r_4 => ?_)
    refine rt_ifnull 45 d_Exp_valueOf_30 (by decide) (fun _ => ?_) (fun _ => ?_)
    · refine rb_TC.mono (rk_ldcs (no := 0) (by decide) d_Exp_valueOf_45) ?_
      exact rt_aret (ty := .object "java/lang/String") rfl (Or.inl ⟨_, rfl⟩) (fun h => h) d_Exp_valueOf_47
    · refine rb_TC.mono (rk_aload_n 0 d_Exp_valueOf_33 rfl rfl) ?_
      refine rt_gR r0 fw_Exp_27 d_Exp_valueOf_34 (fun r_5 => ?_)
      refine rb_TC.mono (rk_iload_n 2 d_Exp_valueOf_37 rfl rfl) ?_
      refine rt_aald (t := 111) r_5 (by decide) d_Exp_valueOf_38 (fun r_6 => ?_)
      refine rt_gR r_6 fw_Exp_111 d_Exp_valueOf_39 (fun r_7 => ?_)
      refine rb_TC.mono (rk_goto 47 d_Exp_valueOf_42 (by decide)) ?_
      exact rt_aret (ty := .object "java/lang/String") rfl (Or.inl ⟨_, rfl⟩) (fun h => h) d_Exp_valueOf_47
  · refine rb_TC.mono (rk_aload_n 0 d_Exp_valueOf_14 rfl rfl) ?_
    refine rt_gR r0 fw_Exp_23 d_Exp_valueOf_15 (fun r_8 => ?_)
    refine rb_TC.mono (rk_iload_n 2 d_Exp_valueOf_18 rfl rfl) ?_
    refine rt_aald (t := 111) r_8 (by decide) d_Exp_valueOf_19 (fun r_9 => ?_)
    refine rt_gR r_9 fw_Exp_111 d_Exp_valueOf_20 (fun r_10 => ?_)
    exact rt_aret (ty := .object "java/lang/String") rfl (Or.inl ⟨_, rfl⟩) (fun h => h) d_Exp_valueOf_23
-- ===== RuleBuilder$Expander.replaceEnds(ILjava/lang/String;III)Z
def k_Exp_replaceEnds : rb_MK := (⟨"RuleBuilder$Expander", "replaceEnds", "(ILjava/lang/String;III)Z"⟩, prog_4_method_14_code, 10, some (.boolean))
theorem mw_Exp_replaceEnds : rb_Mw k_Exp_replaceEnds 5 := ⟨rb_inG 760 (by decide +kernel) rfl, rb_inG 89 (by decide +kernel) rfl, ⟨by decide, by decide, by decide +kernel⟩, by decide⟩
theorem vw_Exp_117 : rb_Vw "RuleBuilder$Expander" 117 k_Text_holds 2 5 := ⟨mw_Text_holds, rb_inG 761 (by decide +kernel) rfl, rb_inG 762 (by decide +kernel) rfl, rb_inG 763 (by decide +kernel) rfl, by decide, by decide, _, rfl, rfl⟩
theorem vw_Exp_121 : rb_Vw "RuleBuilder$Expander" 121 k_Text_replace 2 5 := ⟨mw_Text_replace, rb_inG 767 (by decide +kernel) rfl, rb_inG 768 (by decide +kernel) rfl, rb_inG 769 (by decide +kernel) rfl, by decide, by decide, _, rfl, rfl⟩
theorem vw_Exp_82 : rb_Vw "RuleBuilder$Expander" 82 k_Text_length 2 0 := ⟨mw_Text_length, rb_inG 747 (by decide +kernel) rfl, rb_inG 408 (by decide +kernel) rfl, rb_inG 409 (by decide +kernel) rfl, by decide, by decide, _, rfl, rfl⟩
theorem d_Exp_replaceEnds_0 : decode prog_4_method_14_code 0 = .ok (.iload_n 1, 1) := by decide +kernel
theorem d_Exp_replaceEnds_1 : decode prog_4_method_14_code 1 = .ok (.istore 6, 2) := by decide +kernel
theorem d_Exp_replaceEnds_3 : decode prog_4_method_14_code 3 = .ok (.aload_n 0, 1) := by decide +kernel
theorem d_Exp_replaceEnds_4 : decode prog_4_method_14_code 4 = .ok (.getfield 14, 3) := by decide +kernel
theorem d_Exp_replaceEnds_7 : decode prog_4_method_14_code 7 = .ok (.invokevirtual 82, 3) := by decide +kernel
theorem d_Exp_replaceEnds_10 : decode prog_4_method_14_code 10 = .ok (.iload_n 1, 1) := by decide +kernel
theorem d_Exp_replaceEnds_11 : decode prog_4_method_14_code 11 = .ok (.isub, 1) := by decide +kernel
theorem d_Exp_replaceEnds_12 : decode prog_4_method_14_code 12 = .ok (.istore 7, 2) := by decide +kernel
theorem d_Exp_replaceEnds_14 : decode prog_4_method_14_code 14 = .ok (.iload 7, 2) := by decide +kernel
theorem d_Exp_replaceEnds_16 : decode prog_4_method_14_code 16 = .ok (.ifCond .lt 121, 3) := by decide +kernel
theorem d_Exp_replaceEnds_19 : decode prog_4_method_14_code 19 = .ok (.aload_n 0, 1) := by decide +kernel
theorem d_Exp_replaceEnds_20 : decode prog_4_method_14_code 20 = .ok (.getfield 14, 3) := by decide +kernel
theorem d_Exp_replaceEnds_23 : decode prog_4_method_14_code 23 = .ok (.invokevirtual 82, 3) := by decide +kernel
theorem d_Exp_replaceEnds_26 : decode prog_4_method_14_code 26 = .ok (.iload 7, 2) := by decide +kernel
theorem d_Exp_replaceEnds_28 : decode prog_4_method_14_code 28 = .ok (.isub, 1) := by decide +kernel
theorem d_Exp_replaceEnds_29 : decode prog_4_method_14_code 29 = .ok (.istore 8, 2) := by decide +kernel
theorem d_Exp_replaceEnds_31 : decode prog_4_method_14_code 31 = .ok (.iload 7, 2) := by decide +kernel
theorem d_Exp_replaceEnds_33 : decode prog_4_method_14_code 33 = .ok (.ifCond .le 20, 3) := by decide +kernel
theorem d_Exp_replaceEnds_36 : decode prog_4_method_14_code 36 = .ok (.aload_n 0, 1) := by decide +kernel
theorem d_Exp_replaceEnds_37 : decode prog_4_method_14_code 37 = .ok (.getfield 14, 3) := by decide +kernel
theorem d_Exp_replaceEnds_40 : decode prog_4_method_14_code 40 = .ok (.iload 8, 2) := by decide +kernel
theorem d_Exp_replaceEnds_42 : decode prog_4_method_14_code 42 = .ok (.invokevirtual 34, 3) := by decide +kernel
theorem d_Exp_replaceEnds_45 : decode prog_4_method_14_code 45 = .ok (.bipush 32, 2) := by decide +kernel
theorem d_Exp_replaceEnds_47 : decode prog_4_method_14_code 47 = .ok (.if_icmp .eq 6, 3) := by decide +kernel
theorem d_Exp_replaceEnds_50 : decode prog_4_method_14_code 50 = .ok (.goto 81, 3) := by decide +kernel
theorem d_Exp_replaceEnds_53 : decode prog_4_method_14_code 53 = .ok (.iload 8, 2) := by decide +kernel
theorem d_Exp_replaceEnds_55 : decode prog_4_method_14_code 55 = .ok (.iload 4, 2) := by decide +kernel
theorem d_Exp_replaceEnds_57 : decode prog_4_method_14_code 57 = .ok (.iload_n 3, 1) := by decide +kernel
theorem d_Exp_replaceEnds_58 : decode prog_4_method_14_code 58 = .ok (.isub, 1) := by decide +kernel
theorem d_Exp_replaceEnds_59 : decode prog_4_method_14_code 59 = .ok (.isub, 1) := by decide +kernel
theorem d_Exp_replaceEnds_60 : decode prog_4_method_14_code 60 = .ok (.istore 9, 2) := by decide +kernel
theorem d_Exp_replaceEnds_62 : decode prog_4_method_14_code 62 = .ok (.iload 8, 2) := by decide +kernel
theorem d_Exp_replaceEnds_64 : decode prog_4_method_14_code 64 = .ok (.iload 6, 2) := by decide +kernel
theorem d_Exp_replaceEnds_66 : decode prog_4_method_14_code 66 = .ok (.if_icmp .le 51, 3) := by decide +kernel
theorem d_Exp_replaceEnds_69 : decode prog_4_method_14_code 69 = .ok (.iload 9, 2) := by decide +kernel
theorem d_Exp_replaceEnds_71 : decode prog_4_method_14_code 71 = .ok (.iload 6, 2) := by decide +kernel
theorem d_Exp_replaceEnds_73 : decode prog_4_method_14_code 73 = .ok (.if_icmp .lt 44, 3) := by decide +kernel
theorem d_Exp_replaceEnds_76 : decode prog_4_method_14_code 76 = .ok (.aload_n 0, 1) := by decide +kernel
theorem d_Exp_replaceEnds_77 : decode prog_4_method_14_code 77 = .ok (.getfield 14, 3) := by decide +kernel
theorem d_Exp_replaceEnds_80 : decode prog_4_method_14_code 80 = .ok (.iload 9, 2) := by decide +kernel
theorem d_Exp_replaceEnds_82 : decode prog_4_method_14_code 82 = .ok (.iload 8, 2) := by decide +kernel
theorem d_Exp_replaceEnds_84 : decode prog_4_method_14_code 84 = .ok (.aload_n 2, 1) := by decide +kernel
theorem d_Exp_replaceEnds_85 : decode prog_4_method_14_code 85 = .ok (.iload_n 3, 1) := by decide +kernel
theorem d_Exp_replaceEnds_86 : decode prog_4_method_14_code 86 = .ok (.iload 4, 2) := by decide +kernel
theorem d_Exp_replaceEnds_88 : decode prog_4_method_14_code 88 = .ok (.invokevirtual 117, 3) := by decide +kernel
theorem d_Exp_replaceEnds_91 : decode prog_4_method_14_code 91 = .ok (.ifCond .eq 26, 3) := by decide +kernel
theorem d_Exp_replaceEnds_94 : decode prog_4_method_14_code 94 = .ok (.aload_n 0, 1) := by decide +kernel
theorem d_Exp_replaceEnds_95 : decode prog_4_method_14_code 95 = .ok (.getfield 14, 3) := by decide +kernel
theorem d_Exp_replaceEnds_98 : decode prog_4_method_14_code 98 = .ok (.iload 9, 2) := by decide +kernel
theorem d_Exp_replaceEnds_100 : decode prog_4_method_14_code 100 = .ok (.iload 8, 2) := by decide +kernel
theorem d_Exp_replaceEnds_102 : decode prog_4_method_14_code 102 = .ok (.aload_n 2, 1) := by decide +kernel
theorem d_Exp_replaceEnds_103 : decode prog_4_method_14_code 103 = .ok (.iload 4, 2) := by decide +kernel
theorem d_Exp_replaceEnds_105 : decode prog_4_method_14_code 105 = .ok (.iconst 1, 1) := by decide +kernel
theorem d_Exp_replaceEnds_106 : decode prog_4_method_14_code 106 = .ok (.iadd, 1) := by decide +kernel
theorem d_Exp_replaceEnds_107 : decode prog_4_method_14_code 107 = .ok (.iload 5, 2) := by decide +kernel
theorem d_Exp_replaceEnds_109 : decode prog_4_method_14_code 109 = .ok (.invokevirtual 121, 3) := by decide +kernel
theorem d_Exp_replaceEnds_112 : decode prog_4_method_14_code 112 = .ok (.ifCond .ne 5, 3) := by decide +kernel
theorem d_Exp_replaceEnds_115 : decode prog_4_method_14_code 115 = .ok (.iconst 0, 1) := by decide +kernel
theorem d_Exp_replaceEnds_116 : decode prog_4_method_14_code 116 = .ok (.ireturn, 1) := by decide +kernel
theorem d_Exp_replaceEnds_117 : decode prog_4_method_14_code 117 = .ok (.aload_n 0, 1) := by decide +kernel
theorem d_Exp_replaceEnds_118 : decode prog_4_method_14_code 118 = .ok (.getfield 14, 3) := by decide +kernel
theorem d_Exp_replaceEnds_121 : decode prog_4_method_14_code 121 = .ok (.invokevirtual 82, 3) := by decide +kernel
theorem d_Exp_replaceEnds_124 : decode prog_4_method_14_code 124 = .ok (.iload 7, 2) := by decide +kernel
theorem d_Exp_replaceEnds_126 : decode prog_4_method_14_code 126 = .ok (.isub, 1) := by decide +kernel
theorem d_Exp_replaceEnds_127 : decode prog_4_method_14_code 127 = .ok (.iconst 1, 1) := by decide +kernel
theorem d_Exp_replaceEnds_128 : decode prog_4_method_14_code 128 = .ok (.iadd, 1) := by decide +kernel
theorem d_Exp_replaceEnds_129 : decode prog_4_method_14_code 129 = .ok (.istore 6, 2) := by decide +kernel
theorem d_Exp_replaceEnds_131 : decode prog_4_method_14_code 131 = .ok (.iinc 7 (-1), 3) := by decide +kernel
theorem d_Exp_replaceEnds_134 : decode prog_4_method_14_code 134 = .ok (.goto (-120), 3) := by decide +kernel
theorem d_Exp_replaceEnds_137 : decode prog_4_method_14_code 137 = .ok (.iconst 1, 1) := by decide +kernel
theorem d_Exp_replaceEnds_138 : decode prog_4_method_14_code 138 = .ok (.ireturn, 1) := by decide +kernel
noncomputable def f_Exp_replaceEnds_j117 (r0 : Option Nat) (r2 : Option Nat) (x3 : Int32) (x4 : Int32) (x5 : Int32) (x7 : Int32) (σ : rb_St) : Option ((Int32 × Int32 × rb_St) ⊕ rb_Rs) :=
  (rb_gR σ r0 5 0).bind fun r_7 => (rb_fc σ r_7 2).bind fun _ => rb_cI (f_Text_length (r_7)  σ) fun x_8 σ_9 => some (.inl (((x_8 - x7) + (1 : Int32)), (x7 + (-1)), σ_9))
theorem t_Exp_replaceEnds_j117 {E : rb_EV} {d : Nat} {σ0 : rb_St} {res : rb_Rs} (hdd : 5 ≤ d)  (r0 : Option Nat) (r2 : Option Nat) (x3 : Int32) (x4 : Int32) (x5 : Int32) (x7 : Int32) (σ : rb_St) : rb_TC (f_Exp_replaceEnds_j117 r0 r2 x3 x4 x5 x7 σ) (Sum.elim (fun z : (Int32 × Int32 × rb_St) => rb_WK E k_Exp_replaceEnds d σ0 res 14 [some (va_rf r0), none, some (va_rf r2), some (.int x3), some (.int x4), some (.int x5), some (.int z.1), some (.int z.2.1), none, none] [] z.2.2) (fun r => r = res)) (rb_WK E k_Exp_replaceEnds d σ0 res 117 [some (va_rf r0), none, some (va_rf r2), some (.int x3), some (.int x4), some (.int x5), none, some (.int x7), none, none] [] σ) := by
  unfold f_Exp_replaceEnds_j117
  refine rb_TC.mono (rk_aload_n 0 d_Exp_replaceEnds_117 rfl rfl) ?_
  refine rt_gR r0 fw_Exp_14 d_Exp_replaceEnds_118 (fun r_7 => ?_)
  refine rt_vI (As := []) (st := []) (r_7) vw_Exp_82 (s_Text_length (Nat.le_refl _) (r_7)  σ) (Nat.le_trans (by decide) hdd) rfl (by simp [rb_cat_r, rb_cat_i, rb_cat_l]) d_Exp_replaceEnds_121 (fun x_8 σ_9 => ?_)
  refine rb_TC.mono (rk_iload d_Exp_replaceEnds_124 rfl) ?_
  refine rb_TC.mono (rk_isub d_Exp_replaceEnds_126) ?_
  refine rb_TC.mono (rk_iconst (1 : Int32) d_Exp_replaceEnds_127 (by decide)) ?_
  refine rb_TC.mono (rk_iadd d_Exp_replaceEnds_128) ?_
  refine rb_TC.mono (rk_istore (lv2 := [some (va_rf r0), none, some (va_rf r2), some (.int x3), some (.int x4), some (.int x5), some (.int ((x_8 - x7) + (1 : Int32))), some (.int x7), none, none]) d_Exp_replaceEnds_129 (by decide) (fun _ => rb_one_i) rfl) ?_
  refine rb_TC.mono (rk_iinc (lv2 := [some (va_rf r0), none, some (va_rf r2), some (.int x3), some (.int x4), some (.int x5), some (.int ((x_8 - x7) + (1 : Int32))), some (.int (x7 + (-1))), none, none]) (x7 + (-1)) d_Exp_replaceEnds_131 rfl rfl (by decide) (fun _ => rb_one_i) rfl) ?_
  refine rb_TC.mono (rk_goto 14 d_Exp_replaceEnds_134 (by decide)) ?_
  exact rb_back
noncomputable def f_Exp_replaceEnds_j53 (r0 : Option Nat) (r2 : Option Nat) (x3 : Int32) (x4 : Int32) (x5 : Int32) (x6 : Int32) (x7 : Int32) (x8 : Int32) (σ : rb_St) : Option ((Int32 × Int32 × rb_St) ⊕ rb_Rs) :=
  if x8 ≤ x6 then (f_Exp_replaceEnds_j117 (r0) (r2) (x3) (x4) (x5) (x7) σ) else (if (x8 - (x4 - x3)) < x6 then (f_Exp_replaceEnds_j117 (r0) (r2) (x3) (x4) (x5) (x7) σ) else ((rb_gR σ r0 5 0).bind fun r_10 => (rb_fc σ r_10 2).bind fun _ => rb_cI (f_Text_holds (r_10) ((x8 - (x4 - x3))) (x8) (r2) (x3) (x4) σ) fun x_11 σ_12 => if x_11 = 0 then (f_Exp_replaceEnds_j117 (r0) (r2) (x3) (x4) (x5) (x7) σ_12) else ((rb_gR σ_12 r0 5 0).bind fun r_13 => (rb_fc σ_12 r_13 2).bind fun _ => rb_cI (f_Text_replace (r_13) ((x8 - (x4 - x3))) (x8) (r2) ((x4 + (1 : Int32))) (x5) σ_12) fun x_14 σ_15 => if x_14 = 0 then ((some (some (.int (0 : Int32)), σ_15)).map Sum.inr) else (f_Exp_replaceEnds_j117 (r0) (r2) (x3) (x4) (x5) (x7) σ_15))))
theorem t_Exp_replaceEnds_j53 {E : rb_EV} {d : Nat} {σ0 : rb_St} {res : rb_Rs} (hdd : 5 ≤ d)  (r0 : Option Nat) (r2 : Option Nat) (x3 : Int32) (x4 : Int32) (x5 : Int32) (x6 : Int32) (x7 : Int32) (x8 : Int32) (σ : rb_St) : rb_TC (f_Exp_replaceEnds_j53 r0 r2 x3 x4 x5 x6 x7 x8 σ) (Sum.elim (fun z : (Int32 × Int32 × rb_St) => rb_WK E k_Exp_replaceEnds d σ0 res 14 [some (va_rf r0), none, some (va_rf r2), some (.int x3), some (.int x4), some (.int x5), some (.int z.1), some (.int z.2.1), none, none] [] z.2.2) (fun r => r = res)) (rb_WK E k_Exp_replaceEnds d σ0 res 53 [some (va_rf r0), none, some (va_rf r2), some (.int x3), some (.int x4), some (.int x5), some (.int x6), some (.int x7), some (.int x8), none] [] σ) := by
  unfold f_Exp_replaceEnds_j53
  refine rb_TC.mono (rk_iload d_Exp_replaceEnds_53 rfl) ?_
  refine rb_TC.mono (rk_iload d_Exp_replaceEnds_55 rfl) ?_
  refine rb_TC.mono (rk_iload_n 3 d_Exp_replaceEnds_57 rfl rfl) ?_
  refine rb_TC.mono (rk_isub d_Exp_replaceEnds_58) ?_
  refine rb_TC.mono (rk_isub d_Exp_replaceEnds_59) ?_
  refine rb_TC.mono (rk_istore (lv2 := [some (va_rf r0), none, some (va_rf r2), some (.int x3), some (.int x4), some (.int x5), some (.int x6), some (.int x7), some (.int x8), some (.int (x8 - (x4 - x3)))]) d_Exp_replaceEnds_60 (by decide) (fun _ => rb_one_i) rfl) ?_
  refine rb_TC.mono (rk_iload d_Exp_replaceEnds_62 rfl) ?_
  refine rb_TC.mono (rk_iload d_Exp_replaceEnds_64 rfl) ?_
  refine rt_icmp_le 117 d_Exp_replaceEnds_66 (by decide) (fun _ => ?_) (fun _ => ?_)
  · refine rb_TC.mono (rk_less (lv2 := [some (va_rf r0), none, some (va_rf r2), some (.int x3), some (.int x4), some (.int x5), none, some (.int x7), none, none]) (rb_le_ok (rb_leS (rb_leN (rb_leS (rb_leS (rb_leS (rb_leS (rb_leN (rb_leS (rb_leN (rb_leN rb_le0)))))))))))) ?_
    exact t_Exp_replaceEnds_j117 hdd  (r0) (r2) (x3) (x4) (x5) (x7) σ
  · refine rb_TC.mono (rk_iload d_Exp_replaceEnds_69 rfl) ?_
    refine rb_TC.mono (rk_iload d_Exp_replaceEnds_71 rfl) ?_
    refine rt_icmp_lt 117 d_Exp_replaceEnds_73 (by decide) (fun _ => ?_) (fun _ => ?_)
    · refine rb_TC.mono (rk_less (lv2 := [some (va_rf r0), none, some (va_rf r2), some (.int x3), some (.int x4), some (.int x5), none, some (.int x7), none, none]) (rb_le_ok (rb_leS (rb_leN (rb_leS (rb_leS (rb_leS (rb_leS (rb_leN (rb_leS (rb_leN (rb_leN rb_le0)))))))))))) ?_
      exact t_Exp_replaceEnds_j117 hdd  (r0) (r2) (x3) (x4) (x5) (x7) σ
    · refine rb_TC.mono (rk_aload_n 0 d_Exp_replaceEnds_76 rfl rfl) ?_
      refine rt_gR r0 fw_Exp_14 d_Exp_replaceEnds_77 (fun r_10 => ?_)
      refine rb_TC.mono (rk_iload d_Exp_replaceEnds_80 rfl) ?_
      refine rb_TC.mono (rk_iload d_Exp_replaceEnds_82 rfl) ?_
      refine rb_TC.mono (rk_aload_n 2 d_Exp_replaceEnds_84 rfl rfl) ?_
      refine rb_TC.mono (rk_iload_n 3 d_Exp_replaceEnds_85 rfl rfl) ?_
      refine rb_TC.mono (rk_iload d_Exp_replaceEnds_86 rfl) ?_
      refine rt_vI (As := [.int (x8 - (x4 - x3)), .int x8, va_rf r2, .int x3, .int x4]) (st := []) (r_10) vw_Exp_117 (s_Text_holds (Nat.le_refl _) (r_10) ((x8 - (x4 - x3))) (x8) (r2) (x3) (x4) σ) (Nat.le_trans (by decide) hdd) rfl (by simp [rb_cat_r, rb_cat_i, rb_cat_l]) d_Exp_replaceEnds_88 (fun x_11 σ_12 => ?_)
      refine rt_if_eq 117 d_Exp_replaceEnds_91 (by decide) (fun _ => ?_) (fun _ => ?_)
      · refine rb_TC.mono (rk_less (lv2 := [some (va_rf r0), none, some (va_rf r2), some (.int x3), some (.int x4), some (.int x5), none, some (.int x7), none, none]) (rb_le_ok (rb_leS (rb_leN (rb_leS (rb_leS (rb_leS (rb_leS (rb_leN (rb_leS (rb_leN (rb_leN rb_le0)))))))))))) ?_
        exact t_Exp_replaceEnds_j117 hdd  (r0) (r2) (x3) (x4) (x5) (x7) σ_12
      · refine rb_TC.mono (rk_aload_n 0 d_Exp_replaceEnds_94 rfl rfl) ?_
        refine rt_gR r0 fw_Exp_14 d_Exp_replaceEnds_95 (fun r_13 => ?_)
        refine rb_TC.mono (rk_iload d_Exp_replaceEnds_98 rfl) ?_
        refine rb_TC.mono (rk_iload d_Exp_replaceEnds_100 rfl) ?_
        refine rb_TC.mono (rk_aload_n 2 d_Exp_replaceEnds_102 rfl rfl) ?_
        refine rb_TC.mono (rk_iload d_Exp_replaceEnds_103 rfl) ?_
        refine rb_TC.mono (rk_iconst (1 : Int32) d_Exp_replaceEnds_105 (by decide)) ?_
        refine rb_TC.mono (rk_iadd d_Exp_replaceEnds_106) ?_
        refine rb_TC.mono (rk_iload d_Exp_replaceEnds_107 rfl) ?_
        refine rt_vI (As := [.int (x8 - (x4 - x3)), .int x8, va_rf r2, .int (x4 + (1 : Int32)), .int x5]) (st := []) (r_13) vw_Exp_121 (s_Text_replace (Nat.le_refl _) (r_13) ((x8 - (x4 - x3))) (x8) (r2) ((x4 + (1 : Int32))) (x5) σ_12) (Nat.le_trans (by decide) hdd) rfl (by simp [rb_cat_r, rb_cat_i, rb_cat_l]) d_Exp_replaceEnds_109 (fun x_14 σ_15 => ?_)
        refine rt_if_ne 117 d_Exp_replaceEnds_112 (by decide) (fun _ => ?_) (fun _ => ?_)
        · refine rb_TC.out ?_
          refine rb_TC.mono (rk_iconst (0 : Int32) d_Exp_replaceEnds_115 (by decide)) ?_
          exact rt_iret (ty := .boolean) rfl (by decide) (fun h => h) d_Exp_replaceEnds_116
        · refine rb_TC.mono (rk_less (lv2 := [some (va_rf r0), none, some (va_rf r2), some (.int x3), some (.int x4), some (.int x5), none, some (.int x7), none, none]) (rb_le_ok (rb_leS (rb_leN (rb_leS (rb_leS (rb_leS (rb_leS (rb_leN (rb_leS (rb_leN (rb_leN rb_le0)))))))))))) ?_
          exact t_Exp_replaceEnds_j117 hdd  (r0) (r2) (x3) (x4) (x5) (x7) σ_15
noncomputable def f_Exp_replaceEnds_b14 (r0 : Option Nat) (r2 : Option Nat) (x3 : Int32) (x4 : Int32) (x5 : Int32) (x6 : Int32) (x7 : Int32) (σ : rb_St) : Option ((Int32 × Int32 × rb_St) ⊕ rb_Rs) :=
  if x7 < 0 then ((some (some (.int (1 : Int32)), σ)).map Sum.inr) else ((rb_gR σ r0 5 0).bind fun r_4 => (rb_fc σ r_4 2).bind fun _ => rb_cI (f_Text_length (r_4)  σ) fun x_5 σ_6 => if x7 ≤ 0 then (f_Exp_replaceEnds_j53 (r0) (r2) (x3) (x4) (x5) (x6) (x7) ((x_5 - x7)) σ_6) else ((rb_gR σ_6 r0 5 0).bind fun r_16 => (rb_fc σ_6 r_16 2).bind fun _ => rb_cI (f_Text_at (r_16) ((x_5 - x7)) σ_6) fun x_17 σ_18 => if x_17 = (32 : Int32) then (f_Exp_replaceEnds_j53 (r0) (r2) (x3) (x4) (x5) (x6) (x7) ((x_5 - x7)) σ_18) else (some (.inl (x6, (x7 + (-1)), σ_18)))))
theorem t_Exp_replaceEnds_b14 {E : rb_EV} {d : Nat} {σ0 : rb_St} {res : rb_Rs} (hdd : 5 ≤ d)  (r0 : Option Nat) (r2 : Option Nat) (x3 : Int32) (x4 : Int32) (x5 : Int32) (x6 : Int32) (x7 : Int32) (σ : rb_St) : rb_TC (f_Exp_replaceEnds_b14 r0 r2 x3 x4 x5 x6 x7 σ) (Sum.elim (fun z : (Int32 × Int32 × rb_St) => rb_WK E k_Exp_replaceEnds d σ0 res 14 [some (va_rf r0), none, some (va_rf r2), some (.int x3), some (.int x4), some (.int x5), some (.int z.1), some (.int z.2.1), none, none] [] z.2.2) (fun r => r = res)) (rb_WK E k_Exp_replaceEnds d σ0 res 14 [some (va_rf r0), none, some (va_rf r2), some (.int x3), some (.int x4), some (.int x5), some (.int x6), some (.int x7), none, none] [] σ) := by
  unfold f_Exp_replaceEnds_b14
  refine rb_TC.mono (rk_iload d_Exp_replaceEnds_14 rfl) ?_
  refine rt_if_lt 137 d_Exp_replaceEnds_16 (by decide) (fun _ => ?_) (fun _ => ?_)
  · refine rb_TC.out ?_
    refine rb_TC.mono (rk_iconst (1 : Int32) d_Exp_replaceEnds_137 (by decide)) ?_
    exact rt_iret (ty := .boolean) rfl (by decide) (fun h => h) d_Exp_replaceEnds_138
  · refine rb_TC.mono (rk_aload_n 0 d_Exp_replaceEnds_19 rfl rfl) ?_
    refine rt_gR r0 fw_Exp_14 d_Exp_replaceEnds_20 (fun r_4 => ?_)
    refine rt_vI (As := []) (st := []) (r_4) vw_Exp_82 (s_Text_length (Nat.le_refl _) (r_4)  σ) (Nat.le_trans (by decide) hdd) rfl (by simp [rb_cat_r, rb_cat_i, rb_cat_l]) d_Exp_replaceEnds_23 (fun x_5 σ_6 => ?_)
    refine rb_TC.mono (rk_iload d_Exp_replaceEnds_26 rfl) ?_
    refine rb_TC.mono (rk_isub d_Exp_replaceEnds_28) ?_
    refine rb_TC.mono (rk_istore (lv2 := [some (va_rf r0), none, some (va_rf r2), some (.int x3), some (.int x4), some (.int x5), some (.int x6), some (.int x7), some (.int (x_5 - x7)), none]) d_Exp_replaceEnds_29 (by decide) (fun _ => rb_one_i) rfl) ?_
    refine rb_TC.mono (rk_iload d_Exp_replaceEnds_31 rfl) ?_
    refine rt_if_le 53 d_Exp_replaceEnds_33 (by decide) (fun _ => ?_) (fun _ => ?_)
    · exact t_Exp_replaceEnds_j53 hdd  (r0) (r2) (x3) (x4) (x5) (x6) (x7) ((x_5 - x7)) σ_6
    · refine rb_TC.mono (rk_aload_n 0 d_Exp_replaceEnds_36 rfl rfl) ?_
      refine rt_gR r0 fw_Exp_14 d_Exp_replaceEnds_37 (fun r_16 => ?_)
      refine rb_TC.mono (rk_iload d_Exp_replaceEnds_40 rfl) ?_
      refine rt_vI (As := [.int (x_5 - x7)]) (st := []) (r_16) vw_Exp_34 (s_Text_at (Nat.le_refl _) (r_16) ((x_5 - x7)) σ_6) (Nat.le_trans (by decide) hdd) rfl (by simp [rb_cat_r, rb_cat_i, rb_cat_l]) d_Exp_replaceEnds_42 (fun x_17 σ_18 => ?_)
      refine rb_TC.mono (rk_bipush (32 : Int32) d_Exp_replaceEnds_45 (by decide)) ?_
      refine rt_icmp_eq 53 d_Exp_replaceEnds_47 (by decide) (fun _ => ?_) (fun _ => ?_)
      · exact t_Exp_replaceEnds_j53 hdd  (r0) (r2) (x3) (x4) (x5) (x6) (x7) ((x_5 - x7)) σ_18
      · refine rb_TC.mono (rk_goto 131 d_Exp_replaceEnds_50 (by decide)) ?_
        refine rb_TC.mono (rk_iinc (lv2 := [some (va_rf r0), none, some (va_rf r2), some (.int x3), some (.int x4), some (.int x5), some (.int x6), some (.int (x7 + (-1))), some (.int (x_5 - x7)), none]) (x7 + (-1)) d_Exp_replaceEnds_131 rfl rfl (by decide) (fun _ => rb_one_i) rfl) ?_
        refine rb_TC.mono (rk_goto 14 d_Exp_replaceEnds_134 (by decide)) ?_
        refine rb_TC.mono (rk_less (lv2 := [some (va_rf r0), none, some (va_rf r2), some (.int x3), some (.int x4), some (.int x5), some (.int x6), some (.int (x7 + (-1))), none, none]) (rb_le_ok (rb_leS (rb_leN (rb_leS (rb_leS (rb_leS (rb_leS (rb_leS (rb_leS (rb_leN (rb_leN rb_le0)))))))))))) ?_
        exact rb_back
noncomputable def f_Exp_replaceEnds (r0 : Option Nat) (x1 : Int32) (r2 : Option Nat) (x3 : Int32) (x4 : Int32) (x5 : Int32) (σ : rb_St) : Option rb_Rs :=
  (rb_gR σ r0 5 0).bind fun r_1 => (rb_fc σ r_1 2).bind fun _ => rb_cI (f_Text_length (r_1)  σ) fun x_2 σ_3 => rb_it (fun z : (Int32 × Int32 × rb_St) => f_Exp_replaceEnds_b14 (r0) (r2) (x3) (x4) (x5) (z.1) (z.2.1) z.2.2) (x1, (x_2 - x1), σ_3)
theorem s_Exp_replaceEnds {E : rb_EV} {d : Nat} (hdd : 5 ≤ d) (r0 : Option Nat) (x1 : Int32) (r2 : Option Nat) (x3 : Int32) (x4 : Int32) (x5 : Int32) (σ : rb_St) : rb_Does E k_Exp_replaceEnds d [va_rf r0, .int x1, va_rf r2, .int x3, .int x4, .int x5] σ (f_Exp_replaceEnds r0 x1 r2 x3 x4 x5 σ) := by
  refine rb_start (lv := [some (va_rf r0), some (.int x1), some (va_rf r2), some (.int x3), some (.int x4), some (.int x5), none, none, none, none]) (by decide) (by simp [lg_sl, rb_as, lv_args, rb_cat_r, rb_cat_i, rb_cat_l, rb_nL, k_Exp_replaceEnds]) (fun res => ?_)
  unfold f_Exp_replaceEnds
  refine rb_TC.mono (rk_iload_n 1 d_Exp_replaceEnds_0 rfl rfl) ?_
  refine rb_TC.mono (rk_istore (lv2 := [some (va_rf r0), some (.int x1), some (va_rf r2), some (.int x3), some (.int x4), some (.int x5), some (.int x1), none, none, none]) d_Exp_replaceEnds_1 (by decide) (fun _ => rb_one_i) rfl) ?_
  refine rb_TC.mono (rk_aload_n 0 d_Exp_replaceEnds_3 rfl rfl) ?_
  refine rt_gR r0 fw_Exp_14 d_Exp_replaceEnds_4 (fun r_1 => ?_)
  refine rt_vI (As := []) (st := []) (r_1) vw_Exp_82 (s_Text_length (Nat.le_refl _) (r_1)  σ) (Nat.le_trans (by decide) hdd) rfl (by simp [rb_cat_r, rb_cat_i, rb_cat_l]) d_Exp_replaceEnds_7 (fun x_2 σ_3 => ?_)
  refine rb_TC.mono (rk_iload_n 1 d_Exp_replaceEnds_10 rfl rfl) ?_
  refine rb_TC.mono (rk_isub d_Exp_replaceEnds_11) ?_
  refine rb_TC.mono (rk_istore (lv2 := [some (va_rf r0), some (.int x1), some (va_rf r2), some (.int x3), some (.int x4), some (.int x5), some (.int x1), some (.int (x_2 - x1)), none, none]) d_Exp_replaceEnds_12 (by decide) (fun _ => rb_one_i) rfl) ?_
  refine rb_TC.mono (rk_less (lv2 := [some (va_rf r0), none, some (va_rf r2), some (.int x3), some (.int x4), some (.int x5), some (.int x1), some (.int (x_2 - x1)), none, none]) (rb_le_ok (rb_leS (rb_leN (rb_leS (rb_leS (rb_leS (rb_leS (rb_leS (rb_leS (rb_leN (rb_leN rb_le0)))))))))))) ?_
  exact rb_TC.loop2 (A := (fun z : (Int32 × Int32 × rb_St) => rb_WK E k_Exp_replaceEnds d σ res 14 [some (va_rf r0), none, some (va_rf r2), some (.int x3), some (.int x4), some (.int x5), some (.int z.1), some (.int z.2.1), none, none] [] z.2.2)) (x1, (x_2 - x1), σ_3) (fun z => t_Exp_replaceEnds_b14 hdd  (r0) (r2) (x3) (x4) (x5) (z.1) (z.2.1) z.2.2)
-- ===== RuleBuilder$Expander.addAutomatic(C)Z
def k_Exp_addAutomatic : rb_MK := (⟨"RuleBuilder$Expander", "addAutomatic", "(C)Z"⟩, prog_4_method_15_code, 2, some (.boolean))
theorem mw_Exp_addAutomatic : rb_Mw k_Exp_addAutomatic 1 := ⟨rb_inG 775 (by decide +kernel) rfl, rb_inG 89 (by decide +kernel) rfl, ⟨by decide, by decide, by decide +kernel⟩, by decide⟩
theorem fw_Exp_124 : rb_Fw "RuleBuilder$Expander" 124 12 13 := ⟨_, rfl, by decide, by decide, by decide, rfl, rb_inG 919 (by decide +kernel) rfl⟩
theorem fw_Exp_130 : rb_Fw "RuleBuilder$Expander" 130 12 1 := ⟨_, rfl, by decide, by decide, by decide, rfl, rb_inG 884 (by decide +kernel) rfl⟩
theorem fw_Exp_141 : rb_Fw "RuleBuilder$Expander" 141 12 14 := ⟨_, rfl, by decide, by decide, by decide, rfl, rb_inG 921 (by decide +kernel) rfl⟩
theorem fw_Exp_144 : rb_Fw "RuleBuilder$Expander" 144 12 15 := ⟨_, rfl, by decide, by decide, by decide, rfl, rb_inG 923 (by decide +kernel) rfl⟩
theorem fw_Exp_45 : rb_Fw "RuleBuilder$Expander" 45 5 6 := ⟨_, rfl, by decide, by decide, by decide, rfl, rb_inG 236 (by decide +kernel) rfl⟩
theorem vw_Exp_133 : rb_Vw "RuleBuilder$Expander" 133 k_Text_addPart 2 3 := ⟨mw_Text_addPart, rb_inG 776 (by decide +kernel) rfl, rb_inG 777 (by decide +kernel) rfl, rb_inG 778 (by decide +kernel) rfl, by decide, by decide, _, rfl, rfl⟩
theorem vw_Exp_137 : rb_Vw "RuleBuilder$Expander" 137 k_Text_addText 2 3 := ⟨mw_Text_addText, rb_inG 781 (by decide +kernel) rfl, rb_inG 782 (by decide +kernel) rfl, rb_inG 783 (by decide +kernel) rfl, by decide, by decide, _, rfl, rfl⟩
theorem d_Exp_addAutomatic_0 : decode prog_4_method_15_code 0 = .ok (.iload_n 1, 1) := by decide +kernel
theorem d_Exp_addAutomatic_1 : decode prog_4_method_15_code 1 = .ok (.bipush 64, 2) := by decide +kernel
theorem d_Exp_addAutomatic_3 : decode prog_4_method_15_code 3 = .ok (.if_icmp .eq 19, 3) := by decide +kernel
theorem d_Exp_addAutomatic_6 : decode prog_4_method_15_code 6 = .ok (.iload_n 1, 1) := by decide +kernel
theorem d_Exp_addAutomatic_7 : decode prog_4_method_15_code 7 = .ok (.bipush 60, 2) := by decide +kernel
theorem d_Exp_addAutomatic_9 : decode prog_4_method_15_code 9 = .ok (.if_icmp .ne 31, 3) := by decide +kernel
theorem d_Exp_addAutomatic_12 : decode prog_4_method_15_code 12 = .ok (.aload_n 0, 1) := by decide +kernel
theorem d_Exp_addAutomatic_13 : decode prog_4_method_15_code 13 = .ok (.getfield 45, 3) := by decide +kernel
theorem d_Exp_addAutomatic_16 : decode prog_4_method_15_code 16 = .ok (.getfield 124, 3) := by decide +kernel
theorem d_Exp_addAutomatic_19 : decode prog_4_method_15_code 19 = .ok (.ifCond .eq 21, 3) := by decide +kernel
theorem d_Exp_addAutomatic_22 : decode prog_4_method_15_code 22 = .ok (.aload_n 0, 1) := by decide +kernel
theorem d_Exp_addAutomatic_23 : decode prog_4_method_15_code 23 = .ok (.getfield 14, 3) := by decide +kernel
theorem d_Exp_addAutomatic_26 : decode prog_4_method_15_code 26 = .ok (.aload_n 0, 1) := by decide +kernel
theorem d_Exp_addAutomatic_27 : decode prog_4_method_15_code 27 = .ok (.getfield 45, 3) := by decide +kernel
theorem d_Exp_addAutomatic_30 : decode prog_4_method_15_code 30 = .ok (.getfield 130, 3) := by decide +kernel
theorem d_Exp_addAutomatic_33 : decode prog_4_method_15_code 33 = .ok (.iconst 0, 1) := by decide +kernel
theorem d_Exp_addAutomatic_34 : decode prog_4_method_15_code 34 = .ok (.bipush 8, 2) := by decide +kernel
theorem d_Exp_addAutomatic_36 : decode prog_4_method_15_code 36 = .ok (.invokevirtual 133, 3) := by decide +kernel
theorem d_Exp_addAutomatic_39 : decode prog_4_method_15_code 39 = .ok (.ireturn, 1) := by decide +kernel
theorem d_Exp_addAutomatic_40 : decode prog_4_method_15_code 40 = .ok (.iload_n 1, 1) := by decide +kernel
theorem d_Exp_addAutomatic_41 : decode prog_4_method_15_code 41 = .ok (.bipush 63, 2) := by decide +kernel
theorem d_Exp_addAutomatic_43 : decode prog_4_method_15_code 43 = .ok (.if_icmp .ne 23, 3) := by decide +kernel
theorem d_Exp_addAutomatic_46 : decode prog_4_method_15_code 46 = .ok (.aload_n 0, 1) := by decide +kernel
theorem d_Exp_addAutomatic_47 : decode prog_4_method_15_code 47 = .ok (.getfield 14, 3) := by decide +kernel
theorem d_Exp_addAutomatic_50 : decode prog_4_method_15_code 50 = .ok (.aload_n 0, 1) := by decide +kernel
theorem d_Exp_addAutomatic_51 : decode prog_4_method_15_code 51 = .ok (.getfield 18, 3) := by decide +kernel
theorem d_Exp_addAutomatic_54 : decode prog_4_method_15_code 54 = .ok (.iconst 0, 1) := by decide +kernel
theorem d_Exp_addAutomatic_55 : decode prog_4_method_15_code 55 = .ok (.aload_n 0, 1) := by decide +kernel
theorem d_Exp_addAutomatic_56 : decode prog_4_method_15_code 56 = .ok (.getfield 18, 3) := by decide +kernel
theorem d_Exp_addAutomatic_59 : decode prog_4_method_15_code 59 = .ok (.invokevirtual 82, 3) := by decide +kernel
theorem d_Exp_addAutomatic_62 : decode prog_4_method_15_code 62 = .ok (.invokevirtual 137, 3) := by decide +kernel
theorem d_Exp_addAutomatic_65 : decode prog_4_method_15_code 65 = .ok (.ireturn, 1) := by decide +kernel
theorem d_Exp_addAutomatic_66 : decode prog_4_method_15_code 66 = .ok (.iload_n 1, 1) := by decide +kernel
theorem d_Exp_addAutomatic_67 : decode prog_4_method_15_code 67 = .ok (.bipush 60, 2) := by decide +kernel
theorem d_Exp_addAutomatic_69 : decode prog_4_method_15_code 69 = .ok (.if_icmp .ne 42, 3) := by decide +kernel
theorem d_Exp_addAutomatic_72 : decode prog_4_method_15_code 72 = .ok (.aload_n 0, 1) := by decide +kernel
theorem d_Exp_addAutomatic_73 : decode prog_4_method_15_code 73 = .ok (.getfield 45, 3) := by decide +kernel
theorem d_Exp_addAutomatic_76 : decode prog_4_method_15_code 76 = .ok (.getfield 141, 3) := by decide +kernel
theorem d_Exp_addAutomatic_79 : decode prog_4_method_15_code 79 = .ok (.ifnull 26, 3) := by decide +kernel
theorem d_Exp_addAutomatic_82 : decode prog_4_method_15_code 82 = .ok (.aload_n 0, 1) := by decide +kernel
theorem d_Exp_addAutomatic_83 : decode prog_4_method_15_code 83 = .ok (.getfield 14, 3) := by decide +kernel
theorem d_Exp_addAutomatic_86 : decode prog_4_method_15_code 86 = .ok (.aload_n 0, 1) := by decide +kernel
theorem d_Exp_addAutomatic_87 : decode prog_4_method_15_code 87 = .ok (.getfield 45, 3) := by decide +kernel
theorem d_Exp_addAutomatic_90 : decode prog_4_method_15_code 90 = .ok (.getfield 141, 3) := by decide +kernel
theorem d_Exp_addAutomatic_93 : decode prog_4_method_15_code 93 = .ok (.getfield 130, 3) := by decide +kernel
theorem d_Exp_addAutomatic_96 : decode prog_4_method_15_code 96 = .ok (.iconst 0, 1) := by decide +kernel
theorem d_Exp_addAutomatic_97 : decode prog_4_method_15_code 97 = .ok (.bipush 8, 2) := by decide +kernel
theorem d_Exp_addAutomatic_99 : decode prog_4_method_15_code 99 = .ok (.invokevirtual 133, 3) := by decide +kernel
theorem d_Exp_addAutomatic_102 : decode prog_4_method_15_code 102 = .ok (.ifCond .eq 7, 3) := by decide +kernel
theorem d_Exp_addAutomatic_105 : decode prog_4_method_15_code 105 = .ok (.iconst 1, 1) := by decide +kernel
theorem d_Exp_addAutomatic_106 : decode prog_4_method_15_code 106 = .ok (.goto 4, 3) := by decide +kernel
theorem d_Exp_addAutomatic_109 : decode prog_4_method_15_code 109 = .ok (.iconst 0, 1) := by decide +kernel
theorem d_Exp_addAutomatic_110 : decode prog_4_method_15_code 110 = .ok (.ireturn, 1) := by decide +kernel
theorem d_Exp_addAutomatic_111 : decode prog_4_method_15_code 111 = .ok (.iload_n 1, 1) := by decide +kernel
theorem d_Exp_addAutomatic_112 : decode prog_4_method_15_code 112 = .ok (.bipush 42, 2) := by decide +kernel
theorem d_Exp_addAutomatic_114 : decode prog_4_method_15_code 114 = .ok (.if_icmp .ne 44, 3) := by decide +kernel
theorem d_Exp_addAutomatic_117 : decode prog_4_method_15_code 117 = .ok (.aload_n 0, 1) := by decide +kernel
theorem d_Exp_addAutomatic_118 : decode prog_4_method_15_code 118 = .ok (.getfield 45, 3) := by decide +kernel
theorem d_Exp_addAutomatic_121 : decode prog_4_method_15_code 121 = .ok (.getfield 141, 3) := by decide +kernel
theorem d_Exp_addAutomatic_124 : decode prog_4_method_15_code 124 = .ok (.ifnull 28, 3) := by decide +kernel
theorem d_Exp_addAutomatic_127 : decode prog_4_method_15_code 127 = .ok (.aload_n 0, 1) := by decide +kernel
theorem d_Exp_addAutomatic_128 : decode prog_4_method_15_code 128 = .ok (.getfield 14, 3) := by decide +kernel
theorem d_Exp_addAutomatic_131 : decode prog_4_method_15_code 131 = .ok (.aload_n 0, 1) := by decide +kernel
theorem d_Exp_addAutomatic_132 : decode prog_4_method_15_code 132 = .ok (.getfield 45, 3) := by decide +kernel
theorem d_Exp_addAutomatic_135 : decode prog_4_method_15_code 135 = .ok (.getfield 130, 3) := by decide +kernel
theorem d_Exp_addAutomatic_138 : decode prog_4_method_15_code 138 = .ok (.iconst 0, 1) := by decide +kernel
theorem d_Exp_addAutomatic_139 : decode prog_4_method_15_code 139 = .ok (.aload_n 0, 1) := by decide +kernel
theorem d_Exp_addAutomatic_140 : decode prog_4_method_15_code 140 = .ok (.getfield 45, 3) := by decide +kernel
theorem d_Exp_addAutomatic_143 : decode prog_4_method_15_code 143 = .ok (.getfield 144, 3) := by decide +kernel
theorem d_Exp_addAutomatic_146 : decode prog_4_method_15_code 146 = .ok (.invokevirtual 133, 3) := by decide +kernel
theorem d_Exp_addAutomatic_149 : decode prog_4_method_15_code 149 = .ok (.ifCond .eq 7, 3) := by decide +kernel
theorem d_Exp_addAutomatic_152 : decode prog_4_method_15_code 152 = .ok (.iconst 1, 1) := by decide +kernel
theorem d_Exp_addAutomatic_153 : decode prog_4_method_15_code 153 = .ok (.goto 4, 3) := by decide +kernel
theorem d_Exp_addAutomatic_156 : decode prog_4_method_15_code 156 = .ok (.iconst 0, 1) := by decide +kernel
theorem d_Exp_addAutomatic_157 : decode prog_4_method_15_code 157 = .ok (.ireturn, 1) := by decide +kernel
theorem d_Exp_addAutomatic_158 : decode prog_4_method_15_code 158 = .ok (.iconst 0, 1) := by decide +kernel
theorem d_Exp_addAutomatic_159 : decode prog_4_method_15_code 159 = .ok (.ireturn, 1) := by decide +kernel
noncomputable def f_Exp_addAutomatic_j22 (r0 : Option Nat) (σ : rb_St) : Option rb_Rs :=
  (rb_gR σ r0 5 0).bind fun r_1 => (rb_gR σ r0 5 6).bind fun r_2 => (rb_gR σ r_2 12 1).bind fun r_3 => (rb_fc σ r_1 2).bind fun _ => rb_cI (f_Text_addPart (r_1) (r_3) ((0 : Int32)) ((8 : Int32)) σ) fun x_4 σ_5 => if rb_isZ x_4 then some (some (.int x_4), σ_5) else none
theorem t_Exp_addAutomatic_j22 {E : rb_EV} {d : Nat} {σ0 : rb_St} {res : rb_Rs} (hdd : 5 ≤ d)  (r0 : Option Nat) (σ : rb_St) : rb_TC (f_Exp_addAutomatic_j22 r0 σ) (fun r => r = res) (rb_WK E k_Exp_addAutomatic d σ0 res 22 [some (va_rf r0), none] [] σ) := by
  unfold f_Exp_addAutomatic_j22
  refine rb_TC.mono (rk_aload_n 0 d_Exp_addAutomatic_22 rfl rfl) ?_
  refine rt_gR r0 fw_Exp_14 d_Exp_addAutomatic_23 (fun r_1 => ?_)
  refine rb_TC.mono (rk_aload_n 0 d_Exp_addAutomatic_26 rfl rfl) ?_
  refine rt_gR r0 fw_Exp_45 d_Exp_addAutomatic_27 (fun r_2 => ?_)
  refine rt_gR r_2 fw_Exp_130 d_Exp_addAutomatic_30 (fun r_3 => ?_)
  refine rb_TC.mono (rk_iconst (0 : Int32) d_Exp_addAutomatic_33 (by decide)) ?_
  refine rb_TC.mono (rk_bipush (8 : Int32) d_Exp_addAutomatic_34 (by decide)) ?_
  refine rt_vI (As := [va_rf r_3, .int (0 : Int32), .int (8 : Int32)]) (st := []) (r_1) vw_Exp_133 (s_Text_addPart (Nat.le_refl _) (r_1) (r_3) ((0 : Int32)) ((8 : Int32)) σ) (Nat.le_trans (by decide) hdd) rfl (by simp [rb_cat_r, rb_cat_i, rb_cat_l]) d_Exp_addAutomatic_36 (fun x_4 σ_5 => ?_)
  refine rb_TC.ite (fun hn => ?_) (fun _ => rb_TC.none)
  exact rt_iret (ty := .boolean) rfl (rb_nar_Z hn) (fun h => h) d_Exp_addAutomatic_39
noncomputable def f_Exp_addAutomatic_j40 (r0 : Option Nat) (x1 : Int32) (σ : rb_St) : Option rb_Rs :=
  if x1 = (63 : Int32) then ((rb_gR σ r0 5 0).bind fun r_8 => (rb_gR σ r0 5 1).bind fun r_9 => (rb_gR σ r0 5 1).bind fun r_10 => (rb_fc σ r_10 2).bind fun _ => rb_cI (f_Text_length (r_10)  σ) fun x_11 σ_12 => (rb_fc σ_12 r_8 2).bind fun _ => rb_cI (f_Text_addText (r_8) (r_9) ((0 : Int32)) (x_11) σ_12) fun x_13 σ_14 => if rb_isZ x_13 then some (some (.int x_13), σ_14) else none) else (if x1 = (60 : Int32) then ((rb_gR σ r0 5 6).bind fun r_15 => (rb_gR σ r_15 12 14).bind fun r_16 => if r_16 = none then (some (some (.int (1 : Int32)), σ)) else ((rb_gR σ r0 5 0).bind fun r_17 => (rb_gR σ r0 5 6).bind fun r_18 => (rb_gR σ r_18 12 14).bind fun r_19 => (rb_gR σ r_19 12 1).bind fun r_20 => (rb_fc σ r_17 2).bind fun _ => rb_cI (f_Text_addPart (r_17) (r_20) ((0 : Int32)) ((8 : Int32)) σ) fun x_21 σ_22 => if x_21 = 0 then (some (some (.int (0 : Int32)), σ_22)) else (some (some (.int (1 : Int32)), σ_22)))) else (if x1 = (42 : Int32) then ((rb_gR σ r0 5 6).bind fun r_23 => (rb_gR σ r_23 12 14).bind fun r_24 => if r_24 = none then (some (some (.int (1 : Int32)), σ)) else ((rb_gR σ r0 5 0).bind fun r_25 => (rb_gR σ r0 5 6).bind fun r_26 => (rb_gR σ r_26 12 1).bind fun r_27 => (rb_gR σ r0 5 6).bind fun r_28 => (rb_gI σ r_28 12 15).bind fun x_29 => (rb_fc σ r_25 2).bind fun _ => rb_cI (f_Text_addPart (r_25) (r_27) ((0 : Int32)) (x_29) σ) fun x_30 σ_31 => if x_30 = 0 then (some (some (.int (0 : Int32)), σ_31)) else (some (some (.int (1 : Int32)), σ_31)))) else (some (some (.int (0 : Int32)), σ))))
theorem t_Exp_addAutomatic_j40 {E : rb_EV} {d : Nat} {σ0 : rb_St} {res : rb_Rs} (hdd : 5 ≤ d)  (r0 : Option Nat) (x1 : Int32) (σ : rb_St) : rb_TC (f_Exp_addAutomatic_j40 r0 x1 σ) (fun r => r = res) (rb_WK E k_Exp_addAutomatic d σ0 res 40 [some (va_rf r0), some (.int x1)] [] σ) := by
  unfold f_Exp_addAutomatic_j40
  refine rb_TC.mono (rk_iload_n 1 d_Exp_addAutomatic_40 rfl rfl) ?_
  refine rb_TC.mono (rk_bipush (63 : Int32) d_Exp_addAutomatic_41 (by decide)) ?_
  refine rt_icmp_ne 66 d_Exp_addAutomatic_43 (by decide) (fun _ => ?_) (fun _ => ?_)
  · refine rb_TC.mono (rk_aload_n 0 d_Exp_addAutomatic_46 rfl rfl) ?_
    refine rt_gR r0 fw_Exp_14 d_Exp_addAutomatic_47 (fun r_8 => ?_)
    refine rb_TC.mono (rk_aload_n 0 d_Exp_addAutomatic_50 rfl rfl) ?_
    refine rt_gR r0 fw_Exp_18 d_Exp_addAutomatic_51 (fun r_9 => ?_)
    refine rb_TC.mono (rk_iconst (0 : Int32) d_Exp_addAutomatic_54 (by decide)) ?_
    refine rb_TC.mono (rk_aload_n 0 d_Exp_addAutomatic_55 rfl rfl) ?_
    refine rt_gR r0 fw_Exp_18 d_Exp_addAutomatic_56 (fun r_10 => ?_)
    refine rt_vI (As := []) (st := [.int (0 : Int32), va_rf r_9, va_rf r_8]) (r_10) vw_Exp_82 (s_Text_length (Nat.le_refl _) (r_10)  σ) (Nat.le_trans (by decide) hdd) rfl (by simp [rb_cat_r, rb_cat_i, rb_cat_l]) d_Exp_addAutomatic_59 (fun x_11 σ_12 => ?_)
    refine rt_vI (As := [va_rf r_9, .int (0 : Int32), .int x_11]) (st := []) (r_8) vw_Exp_137 (s_Text_addText (Nat.le_refl _) (r_8) (r_9) ((0 : Int32)) (x_11) σ_12) (Nat.le_trans (by decide) hdd) rfl (by simp [rb_cat_r, rb_cat_i, rb_cat_l]) d_Exp_addAutomatic_62 (fun x_13 σ_14 => ?_)
    refine rb_TC.ite (fun hn => ?_) (fun _ => rb_TC.none)
    exact rt_iret (ty := .boolean) rfl (rb_nar_Z hn) (fun h => h) d_Exp_addAutomatic_65
  · refine rb_TC.mono (rk_iload_n 1 d_Exp_addAutomatic_66 rfl rfl) ?_
    refine rb_TC.mono (rk_bipush (60 : Int32) d_Exp_addAutomatic_67 (by decide)) ?_
    refine rt_icmp_ne 111 d_Exp_addAutomatic_69 (by decide) (fun _ => ?_) (fun _ => ?_)
    · refine rb_TC.mono (rk_aload_n 0 d_Exp_addAutomatic_72 rfl rfl) ?_
      refine rt_gR r0 fw_Exp_45 d_Exp_addAutomatic_73 (fun r_15 => ?_)
      refine rt_gR r_15 fw_Exp_141 d_Exp_addAutomatic_76 (fun r_16 => ?_)
      refine rt_ifnull 105 d_Exp_addAutomatic_79 (by decide) (fun _ => ?_) (fun _ => ?_)
      · refine rb_TC.mono (rk_iconst (1 : Int32) d_Exp_addAutomatic_105 (by decide)) ?_
        refine rb_TC.mono (rk_goto 110 d_Exp_addAutomatic_106 (by decide)) ?_
        exact rt_iret (ty := .boolean) rfl (by decide) (fun h => h) d_Exp_addAutomatic_110
      · refine rb_TC.mono (rk_aload_n 0 d_Exp_addAutomatic_82 rfl rfl) ?_
        refine rt_gR r0 fw_Exp_14 d_Exp_addAutomatic_83 (fun r_17 => ?_)
        refine rb_TC.mono (rk_aload_n 0 d_Exp_addAutomatic_86 rfl rfl) ?_
        refine rt_gR r0 fw_Exp_45 d_Exp_addAutomatic_87 (fun r_18 => ?_)
        refine rt_gR r_18 fw_Exp_141 d_Exp_addAutomatic_90 (fun r_19 => ?_)
        refine rt_gR r_19 fw_Exp_130 d_Exp_addAutomatic_93 (fun r_20 => ?_)
        refine rb_TC.mono (rk_iconst (0 : Int32) d_Exp_addAutomatic_96 (by decide)) ?_
        refine rb_TC.mono (rk_bipush (8 : Int32) d_Exp_addAutomatic_97 (by decide)) ?_
        refine rt_vI (As := [va_rf r_20, .int (0 : Int32), .int (8 : Int32)]) (st := []) (r_17) vw_Exp_133 (s_Text_addPart (Nat.le_refl _) (r_17) (r_20) ((0 : Int32)) ((8 : Int32)) σ) (Nat.le_trans (by decide) hdd) rfl (by simp [rb_cat_r, rb_cat_i, rb_cat_l]) d_Exp_addAutomatic_99 (fun x_21 σ_22 => ?_)
        refine rt_if_eq 109 d_Exp_addAutomatic_102 (by decide) (fun _ => ?_) (fun _ => ?_)
        · refine rb_TC.mono (rk_iconst (0 : Int32) d_Exp_addAutomatic_109 (by decide)) ?_
          exact rt_iret (ty := .boolean) rfl (by decide) (fun h => h) d_Exp_addAutomatic_110
        · refine rb_TC.mono (rk_iconst (1 : Int32) d_Exp_addAutomatic_105 (by decide)) ?_
          refine rb_TC.mono (rk_goto 110 d_Exp_addAutomatic_106 (by decide)) ?_
          exact rt_iret (ty := .boolean) rfl (by decide) (fun h => h) d_Exp_addAutomatic_110
    · refine rb_TC.mono (rk_iload_n 1 d_Exp_addAutomatic_111 rfl rfl) ?_
      refine rb_TC.mono (rk_bipush (42 : Int32) d_Exp_addAutomatic_112 (by decide)) ?_
      refine rt_icmp_ne 158 d_Exp_addAutomatic_114 (by decide) (fun _ => ?_) (fun _ => ?_)
      · refine rb_TC.mono (rk_aload_n 0 d_Exp_addAutomatic_117 rfl rfl) ?_
        refine rt_gR r0 fw_Exp_45 d_Exp_addAutomatic_118 (fun r_23 => ?_)
        refine rt_gR r_23 fw_Exp_141 d_Exp_addAutomatic_121 (fun r_24 => ?_)
        refine rt_ifnull 152 d_Exp_addAutomatic_124 (by decide) (fun _ => ?_) (fun _ => ?_)
        · refine rb_TC.mono (rk_iconst (1 : Int32) d_Exp_addAutomatic_152 (by decide)) ?_
          refine rb_TC.mono (rk_goto 157 d_Exp_addAutomatic_153 (by decide)) ?_
          exact rt_iret (ty := .boolean) rfl (by decide) (fun h => h) d_Exp_addAutomatic_157
        · refine rb_TC.mono (rk_aload_n 0 d_Exp_addAutomatic_127 rfl rfl) ?_
          refine rt_gR r0 fw_Exp_14 d_Exp_addAutomatic_128 (fun r_25 => ?_)
          refine rb_TC.mono (rk_aload_n 0 d_Exp_addAutomatic_131 rfl rfl) ?_
          refine rt_gR r0 fw_Exp_45 d_Exp_addAutomatic_132 (fun r_26 => ?_)
          refine rt_gR r_26 fw_Exp_130 d_Exp_addAutomatic_135 (fun r_27 => ?_)
          refine rb_TC.mono (rk_iconst (0 : Int32) d_Exp_addAutomatic_138 (by decide)) ?_
          refine rb_TC.mono (rk_aload_n 0 d_Exp_addAutomatic_139 rfl rfl) ?_
          refine rt_gR r0 fw_Exp_45 d_Exp_addAutomatic_140 (fun r_28 => ?_)
          refine rt_gI r_28 fw_Exp_144 d_Exp_addAutomatic_143 (fun x_29 => ?_)
          refine rt_vI (As := [va_rf r_27, .int (0 : Int32), .int x_29]) (st := []) (r_25) vw_Exp_133 (s_Text_addPart (Nat.le_refl _) (r_25) (r_27) ((0 : Int32)) (x_29) σ) (Nat.le_trans (by decide) hdd) rfl (by simp [rb_cat_r, rb_cat_i, rb_cat_l]) d_Exp_addAutomatic_146 (fun x_30 σ_31 => ?_)
          refine rt_if_eq 156 d_Exp_addAutomatic_149 (by decide) (fun _ => ?_) (fun _ => ?_)
          · refine rb_TC.mono (rk_iconst (0 : Int32) d_Exp_addAutomatic_156 (by decide)) ?_
            exact rt_iret (ty := .boolean) rfl (by decide) (fun h => h) d_Exp_addAutomatic_157
          · refine rb_TC.mono (rk_iconst (1 : Int32) d_Exp_addAutomatic_152 (by decide)) ?_
            refine rb_TC.mono (rk_goto 157 d_Exp_addAutomatic_153 (by decide)) ?_
            exact rt_iret (ty := .boolean) rfl (by decide) (fun h => h) d_Exp_addAutomatic_157
      · refine rb_TC.mono (rk_iconst (0 : Int32) d_Exp_addAutomatic_158 (by decide)) ?_
        exact rt_iret (ty := .boolean) rfl (by decide) (fun h => h) d_Exp_addAutomatic_159
noncomputable def f_Exp_addAutomatic (r0 : Option Nat) (x1 : Int32) (σ : rb_St) : Option rb_Rs :=
  if x1 = (64 : Int32) then (f_Exp_addAutomatic_j22 (r0) σ) else (if x1 = (60 : Int32) then ((rb_gR σ r0 5 6).bind fun r_6 => (rb_gI σ r_6 12 13).bind fun x_7 => if x_7 = 0 then (f_Exp_addAutomatic_j40 (r0) (x1) σ) else (f_Exp_addAutomatic_j22 (r0) σ)) else (f_Exp_addAutomatic_j40 (r0) (x1) σ))
theorem s_Exp_addAutomatic {E : rb_EV} {d : Nat} (hdd : 5 ≤ d) (r0 : Option Nat) (x1 : Int32) (σ : rb_St) : rb_Does E k_Exp_addAutomatic d [va_rf r0, .int x1] σ (f_Exp_addAutomatic r0 x1 σ) := by
  refine rb_start (lv := [some (va_rf r0), some (.int x1)]) (by decide) (by simp [lg_sl, rb_as, lv_args, rb_cat_r, rb_cat_i, rb_cat_l, rb_nL, k_Exp_addAutomatic]) (fun res => ?_)
  unfold f_Exp_addAutomatic
  refine rb_TC.mono (rk_iload_n 1 d_Exp_addAutomatic_0 rfl rfl) ?_
  refine rb_TC.mono (rk_bipush (64 : Int32) d_Exp_addAutomatic_1 (by decide)) ?_
  refine rt_icmp_eq 22 d_Exp_addAutomatic_3 (by decide) (fun _ => ?_) (fun _ => ?_)
  · refine rb_TC.mono (rk_less (lv2 := [some (va_rf r0), none]) (rb_le_ok (rb_leS (rb_leN rb_le0)))) ?_
    exact t_Exp_addAutomatic_j22 hdd  (r0) σ
  · refine rb_TC.mono (rk_iload_n 1 d_Exp_addAutomatic_6 rfl rfl) ?_
    refine rb_TC.mono (rk_bipush (60 : Int32) d_Exp_addAutomatic_7 (by decide)) ?_
    refine rt_icmp_ne 40 d_Exp_addAutomatic_9 (by decide) (fun _ => ?_) (fun _ => ?_)
    · refine rb_TC.mono (rk_aload_n 0 d_Exp_addAutomatic_12 rfl rfl) ?_
      refine rt_gR r0 fw_Exp_45 d_Exp_addAutomatic_13 (fun r_6 => ?_)
      refine rt_gI r_6 fw_Exp_124 d_Exp_addAutomatic_16 (fun x_7 => ?_)
      refine rt_if_eq 40 d_Exp_addAutomatic_19 (by decide) (fun _ => ?_) (fun _ => ?_)
      · exact t_Exp_addAutomatic_j40 hdd  (r0) (x1) σ
      · refine rb_TC.mono (rk_less (lv2 := [some (va_rf r0), none]) (rb_le_ok (rb_leS (rb_leN rb_le0)))) ?_
        exact t_Exp_addAutomatic_j22 hdd  (r0) σ
    · exact t_Exp_addAutomatic_j40 hdd  (r0) (x1) σ
def k_Exp_expandText : rb_MK := (⟨"RuleBuilder$Expander", "expandText", "(Ljava/lang/String;I)Z"⟩, prog_4_method_8_code, 5, some (.boolean))
theorem mw_Exp_expandText : rb_Mw k_Exp_expandText 2 := ⟨rb_inG 730 (by decide +kernel) rfl, rb_inG 89 (by decide +kernel) rfl, ⟨by decide, by decide, by decide +kernel⟩, by decide⟩
-- ===== RuleBuilder$Expander.expandMacro(CI)Z (a group that calls itself)
def k_Exp_expandMacro : rb_MK := (⟨"RuleBuilder$Expander", "expandMacro", "(CI)Z"⟩, prog_4_method_12_code, 6, some (.boolean))
theorem mw_Exp_expandMacro : rb_Mw k_Exp_expandMacro 2 := ⟨rb_inG 751 (by decide +kernel) rfl, rb_inG 89 (by decide +kernel) rfl, ⟨by decide, by decide, by decide +kernel⟩, by decide⟩
theorem fw_Exp_78 : rb_Fw "RuleBuilder$Expander" 78 5 5 := ⟨_, rfl, by decide, by decide, by decide, rfl, rb_inG 235 (by decide +kernel) rfl⟩
theorem fp_Exp_expandMacro_78 : rb_Fp k_Exp_expandMacro 78 5 5 .int := ⟨fw_Exp_78, rfl, fun q h => by cases h; exact Or.inl rfl⟩
theorem vw_Exp_107 : rb_Vw "RuleBuilder$Expander" 107 k_Exp_valueOf 5 1 := ⟨mw_Exp_valueOf, rb_inG 752 (by decide +kernel) rfl, rb_inG 754 (by decide +kernel) rfl, rb_inG 9 (by decide +kernel) rfl, by decide, by decide, _, rfl, rfl⟩
theorem vw_Exp_58 : rb_Vw "RuleBuilder$Expander" 58 k_Exp_expandText 5 2 := ⟨mw_Exp_expandText, rb_inG 727 (by decide +kernel) rfl, rb_inG 729 (by decide +kernel) rfl, rb_inG 5 (by decide +kernel) rfl, by decide, by decide, _, rfl, rfl⟩
theorem d_Exp_expandMacro_0 : decode prog_4_method_12_code 0 = .ok (.iload_n 2, 1) := by decide +kernel
theorem d_Exp_expandMacro_1 : decode prog_4_method_12_code 1 = .ok (.ifCond .lt 16, 3) := by decide +kernel
theorem d_Exp_expandMacro_4 : decode prog_4_method_12_code 4 = .ok (.iload_n 2, 1) := by decide +kernel
theorem d_Exp_expandMacro_5 : decode prog_4_method_12_code 5 = .ok (.bipush 6, 2) := by decide +kernel
theorem d_Exp_expandMacro_7 : decode prog_4_method_12_code 7 = .ok (.if_icmp .ge 10, 3) := by decide +kernel
theorem d_Exp_expandMacro_10 : decode prog_4_method_12_code 10 = .ok (.iload_n 1, 1) := by decide +kernel
theorem d_Exp_expandMacro_11 : decode prog_4_method_12_code 11 = .ok (.invokestatic 38, 3) := by decide +kernel
theorem d_Exp_expandMacro_14 : decode prog_4_method_12_code 14 = .ok (.ifCond .ne 5, 3) := by decide +kernel
theorem d_Exp_expandMacro_17 : decode prog_4_method_12_code 17 = .ok (.iconst 0, 1) := by decide +kernel
theorem d_Exp_expandMacro_18 : decode prog_4_method_12_code 18 = .ok (.ireturn, 1) := by decide +kernel
theorem d_Exp_expandMacro_19 : decode prog_4_method_12_code 19 = .ok (.iload_n 2, 1) := by decide +kernel
theorem d_Exp_expandMacro_20 : decode prog_4_method_12_code 20 = .ok (.bipush 26, 2) := by decide +kernel
theorem d_Exp_expandMacro_22 : decode prog_4_method_12_code 22 = .ok (.imul, 1) := by decide +kernel
theorem d_Exp_expandMacro_23 : decode prog_4_method_12_code 23 = .ok (.iload_n 1, 1) := by decide +kernel
theorem d_Exp_expandMacro_24 : decode prog_4_method_12_code 24 = .ok (.iadd, 1) := by decide +kernel
theorem d_Exp_expandMacro_25 : decode prog_4_method_12_code 25 = .ok (.bipush 65, 2) := by decide +kernel
theorem d_Exp_expandMacro_27 : decode prog_4_method_12_code 27 = .ok (.isub, 1) := by decide +kernel
theorem d_Exp_expandMacro_28 : decode prog_4_method_12_code 28 = .ok (.istore_n 3, 1) := by decide +kernel
theorem d_Exp_expandMacro_29 : decode prog_4_method_12_code 29 = .ok (.aload_n 0, 1) := by decide +kernel
theorem d_Exp_expandMacro_30 : decode prog_4_method_12_code 30 = .ok (.getfield 14, 3) := by decide +kernel
theorem d_Exp_expandMacro_33 : decode prog_4_method_12_code 33 = .ok (.invokevirtual 82, 3) := by decide +kernel
theorem d_Exp_expandMacro_36 : decode prog_4_method_12_code 36 = .ok (.istore 4, 2) := by decide +kernel
theorem d_Exp_expandMacro_38 : decode prog_4_method_12_code 38 = .ok (.aload_n 0, 1) := by decide +kernel
theorem d_Exp_expandMacro_39 : decode prog_4_method_12_code 39 = .ok (.getfield 30, 3) := by decide +kernel
theorem d_Exp_expandMacro_42 : decode prog_4_method_12_code 42 = .ok (.iload_n 3, 1) := by decide +kernel
theorem d_Exp_expandMacro_43 : decode prog_4_method_12_code 43 = .ok (.iaload, 1) := by decide +kernel
theorem d_Exp_expandMacro_44 : decode prog_4_method_12_code 44 = .ok (.iconst (-1), 1) := by decide +kernel
theorem d_Exp_expandMacro_45 : decode prog_4_method_12_code 45 = .ok (.if_icmp .eq 43, 3) := by decide +kernel
theorem d_Exp_expandMacro_48 : decode prog_4_method_12_code 48 = .ok (.aload_n 0, 1) := by decide +kernel
theorem d_Exp_expandMacro_49 : decode prog_4_method_12_code 49 = .ok (.aload_n 0, 1) := by decide +kernel
theorem d_Exp_expandMacro_50 : decode prog_4_method_12_code 50 = .ok (.getfield 78, 3) := by decide +kernel
theorem d_Exp_expandMacro_53 : decode prog_4_method_12_code 53 = .ok (.iload 4, 2) := by decide +kernel
theorem d_Exp_expandMacro_55 : decode prog_4_method_12_code 55 = .ok (.aload_n 0, 1) := by decide +kernel
theorem d_Exp_expandMacro_56 : decode prog_4_method_12_code 56 = .ok (.getfield 30, 3) := by decide +kernel
theorem d_Exp_expandMacro_59 : decode prog_4_method_12_code 59 = .ok (.iload_n 3, 1) := by decide +kernel
theorem d_Exp_expandMacro_60 : decode prog_4_method_12_code 60 = .ok (.iaload, 1) := by decide +kernel
theorem d_Exp_expandMacro_61 : decode prog_4_method_12_code 61 = .ok (.iadd, 1) := by decide +kernel
theorem d_Exp_expandMacro_62 : decode prog_4_method_12_code 62 = .ok (.invokestatic 83, 3) := by decide +kernel
theorem d_Exp_expandMacro_65 : decode prog_4_method_12_code 65 = .ok (.putfield 78, 3) := by decide +kernel
theorem d_Exp_expandMacro_68 : decode prog_4_method_12_code 68 = .ok (.iload 4, 2) := by decide +kernel
theorem d_Exp_expandMacro_70 : decode prog_4_method_12_code 70 = .ok (.aload_n 0, 1) := by decide +kernel
theorem d_Exp_expandMacro_71 : decode prog_4_method_12_code 71 = .ok (.getfield 30, 3) := by decide +kernel
theorem d_Exp_expandMacro_74 : decode prog_4_method_12_code 74 = .ok (.iload_n 3, 1) := by decide +kernel
theorem d_Exp_expandMacro_75 : decode prog_4_method_12_code 75 = .ok (.iaload, 1) := by decide +kernel
theorem d_Exp_expandMacro_76 : decode prog_4_method_12_code 76 = .ok (.iadd, 1) := by decide +kernel
theorem d_Exp_expandMacro_77 : decode prog_4_method_12_code 77 = .ok (.bipush 120, 2) := by decide +kernel
theorem d_Exp_expandMacro_79 : decode prog_4_method_12_code 79 = .ok (.if_icmp .gt 7, 3) := by decide +kernel
theorem d_Exp_expandMacro_82 : decode prog_4_method_12_code 82 = .ok (.iconst 1, 1) := by decide +kernel
theorem d_Exp_expandMacro_83 : decode prog_4_method_12_code 83 = .ok (.goto 4, 3) := by decide +kernel
theorem d_Exp_expandMacro_86 : decode prog_4_method_12_code 86 = .ok (.iconst 0, 1) := by decide +kernel
theorem d_Exp_expandMacro_87 : decode prog_4_method_12_code 87 = .ok (.ireturn, 1) := by decide +kernel
theorem d_Exp_expandMacro_88 : decode prog_4_method_12_code 88 = .ok (.aload_n 0, 1) := by decide +kernel
theorem d_Exp_expandMacro_89 : decode prog_4_method_12_code 89 = .ok (.getfield 78, 3) := by decide +kernel
theorem d_Exp_expandMacro_92 : decode prog_4_method_12_code 92 = .ok (.istore 5, 2) := by decide +kernel
theorem d_Exp_expandMacro_94 : decode prog_4_method_12_code 94 = .ok (.aload_n 0, 1) := by decide +kernel
theorem d_Exp_expandMacro_95 : decode prog_4_method_12_code 95 = .ok (.iload 4, 2) := by decide +kernel
theorem d_Exp_expandMacro_97 : decode prog_4_method_12_code 97 = .ok (.putfield 78, 3) := by decide +kernel
theorem d_Exp_expandMacro_100 : decode prog_4_method_12_code 100 = .ok (.aload_n 0, 1) := by decide +kernel
theorem d_Exp_expandMacro_101 : decode prog_4_method_12_code 101 = .ok (.aload_n 0, 1) := by decide +kernel
theorem d_Exp_expandMacro_102 : decode prog_4_method_12_code 102 = .ok (.iload_n 1, 1) := by decide +kernel
theorem d_Exp_expandMacro_103 : decode prog_4_method_12_code 103 = .ok (.invokevirtual 107, 3) := by decide +kernel
theorem d_Exp_expandMacro_106 : decode prog_4_method_12_code 106 = .ok (.iload_n 2, 1) := by decide +kernel
theorem d_Exp_expandMacro_107 : decode prog_4_method_12_code 107 = .ok (.iconst 1, 1) := by decide +kernel
theorem d_Exp_expandMacro_108 : decode prog_4_method_12_code 108 = .ok (.iadd, 1) := by decide +kernel
theorem d_Exp_expandMacro_109 : decode prog_4_method_12_code 109 = .ok (.invokevirtual 58, 3) := by decide +kernel
theorem d_Exp_expandMacro_112 : decode prog_4_method_12_code 112 = .ok (.ifCond .ne 5, 3) := by decide +kernel
theorem d_Exp_expandMacro_115 : decode prog_4_method_12_code 115 = .ok (.iconst 0, 1) := by decide +kernel
theorem d_Exp_expandMacro_116 : decode prog_4_method_12_code 116 = .ok (.ireturn, 1) := by decide +kernel
theorem d_Exp_expandMacro_117 : decode prog_4_method_12_code 117 = .ok (.aload_n 0, 1) := by decide +kernel
theorem d_Exp_expandMacro_118 : decode prog_4_method_12_code 118 = .ok (.getfield 14, 3) := by decide +kernel
theorem d_Exp_expandMacro_121 : decode prog_4_method_12_code 121 = .ok (.invokevirtual 82, 3) := by decide +kernel
theorem d_Exp_expandMacro_124 : decode prog_4_method_12_code 124 = .ok (.iload 4, 2) := by decide +kernel
theorem d_Exp_expandMacro_126 : decode prog_4_method_12_code 126 = .ok (.if_icmp .ne 16, 3) := by decide +kernel
theorem d_Exp_expandMacro_129 : decode prog_4_method_12_code 129 = .ok (.aload_n 0, 1) := by decide +kernel
theorem d_Exp_expandMacro_130 : decode prog_4_method_12_code 130 = .ok (.getfield 30, 3) := by decide +kernel
theorem d_Exp_expandMacro_133 : decode prog_4_method_12_code 133 = .ok (.iload_n 3, 1) := by decide +kernel
theorem d_Exp_expandMacro_134 : decode prog_4_method_12_code 134 = .ok (.aload_n 0, 1) := by decide +kernel
theorem d_Exp_expandMacro_135 : decode prog_4_method_12_code 135 = .ok (.getfield 78, 3) := by decide +kernel
theorem d_Exp_expandMacro_138 : decode prog_4_method_12_code 138 = .ok (.iload 4, 2) := by decide +kernel
theorem d_Exp_expandMacro_140 : decode prog_4_method_12_code 140 = .ok (.isub, 1) := by decide +kernel
theorem d_Exp_expandMacro_141 : decode prog_4_method_12_code 141 = .ok (.iastore, 1) := by decide +kernel
theorem d_Exp_expandMacro_142 : decode prog_4_method_12_code 142 = .ok (.aload_n 0, 1) := by decide +kernel
theorem d_Exp_expandMacro_143 : decode prog_4_method_12_code 143 = .ok (.aload_n 0, 1) := by decide +kernel
theorem d_Exp_expandMacro_144 : decode prog_4_method_12_code 144 = .ok (.getfield 78, 3) := by decide +kernel
theorem d_Exp_expandMacro_147 : decode prog_4_method_12_code 147 = .ok (.iload 5, 2) := by decide +kernel
theorem d_Exp_expandMacro_149 : decode prog_4_method_12_code 149 = .ok (.invokestatic 83, 3) := by decide +kernel
theorem d_Exp_expandMacro_152 : decode prog_4_method_12_code 152 = .ok (.putfield 78, 3) := by decide +kernel
theorem d_Exp_expandMacro_155 : decode prog_4_method_12_code 155 = .ok (.iconst 1, 1) := by decide +kernel
theorem d_Exp_expandMacro_156 : decode prog_4_method_12_code 156 = .ok (.ireturn, 1) := by decide +kernel
noncomputable def f_Exp_expandMacro_j142 (rT : Option Nat → Option Nat → Int32 → rb_St → Option rb_Rs) (r0 : Option Nat) (x5 : Int32) (σ : rb_St) : Option rb_Rs :=
  (rb_gI σ r0 5 5).bind fun x_20 => (rb_pI σ r0 5 5 (rb_mx x_20 x5)).bind fun σ_21 => some (some (.int (1 : Int32)), σ_21)
theorem t_Exp_expandMacro_j142 {E : rb_EV} {d : Nat} {σ0 : rb_St} {res : rb_Rs} {dT : Nat} {rT : Option Nat → Option Nat → Int32 → rb_St → Option rb_Rs} (hT : ∀ (r0 : Option Nat) (r1 : Option Nat) (x2 : Int32) (σ : rb_St), rb_Does E k_Exp_expandText dT [va_rf r0, va_rf r1, .int x2] σ (rT r0 r1 x2 σ)) (hdd : dT + 1 ≤ d ∧ 1 ≤ d)  (r0 : Option Nat) (x5 : Int32) (σ : rb_St) : rb_TC (f_Exp_expandMacro_j142 rT r0 x5 σ) (fun r => r = res) (rb_WK E k_Exp_expandMacro d σ0 res 142 [some (va_rf r0), none, none, none, none, some (.int x5)] [] σ) := by
  unfold f_Exp_expandMacro_j142
  refine rb_TC.mono (rk_aload_n 0 d_Exp_expandMacro_142 rfl rfl) ?_
  refine rb_TC.mono (rk_aload_n 0 d_Exp_expandMacro_143 rfl rfl) ?_
  refine rt_gI r0 fw_Exp_78 d_Exp_expandMacro_144 (fun x_20 => ?_)
  refine rb_TC.mono (rk_iload d_Exp_expandMacro_147 rfl) ?_
  refine rb_TC.mono (rk_mmax w_mmax_Exp_83 (by omega) (by simp [rb_cat_r, rb_cat_i, rb_cat_l]) d_Exp_expandMacro_149) ?_
  refine rt_pI r0 fp_Exp_expandMacro_78 d_Exp_expandMacro_152 (fun σ_21 => ?_)
  refine rb_TC.mono (rk_iconst (1 : Int32) d_Exp_expandMacro_155 (by decide)) ?_
  exact rt_iret (ty := .boolean) rfl (by decide) (fun h => h) d_Exp_expandMacro_156
noncomputable def f_Exp_expandMacro (rT : Option Nat → Option Nat → Int32 → rb_St → Option rb_Rs) (r0 : Option Nat) (x1 : Int32) (x2 : Int32) (σ : rb_St) : Option rb_Rs :=
  if x2 < 0 then (some (some (.int (0 : Int32)), σ)) else (if (6 : Int32) ≤ x2 then (some (some (.int (0 : Int32)), σ)) else (rb_cI (f_Exp_isCapital (x1) σ) fun x_1 σ_2 => if x_1 = 0 then (some (some (.int (0 : Int32)), σ_2)) else ((rb_gR σ_2 r0 5 0).bind fun r_3 => (rb_fc σ_2 r_3 2).bind fun _ => rb_cI (f_Text_length (r_3)  σ_2) fun x_4 σ_5 => (rb_gR σ_5 r0 5 4).bind fun r_6 => (rb_aI σ_5 r_6 102 (((x2 * (26 : Int32)) + x1) - (65 : Int32))).bind fun x_7 => if x_7 = (-1 : Int32) then ((rb_gI σ_5 r0 5 5).bind fun x_8 => (rb_pI σ_5 r0 5 5 x_4).bind fun σ_9 => (rb_fc σ_9 r0 5).bind fun _ => rb_cR (f_Exp_valueOf (r0) (x1) σ_9) fun r_10 σ_11 => (rb_fc σ_11 r0 5).bind fun _ => rb_cI (rT (r0) (r_10) ((x2 + (1 : Int32))) σ_11) fun x_12 σ_13 => if x_12 = 0 then (some (some (.int (0 : Int32)), σ_13)) else ((rb_gR σ_13 r0 5 0).bind fun r_14 => (rb_fc σ_13 r_14 2).bind fun _ => rb_cI (f_Text_length (r_14)  σ_13) fun x_15 σ_16 => if x_15 = x_4 then ((rb_gR σ_16 r0 5 4).bind fun r_17 => (rb_gI σ_16 r0 5 5).bind fun x_18 => (rb_sI σ_16 r_17 102 (((x2 * (26 : Int32)) + x1) - (65 : Int32)) (x_18 - x_4)).bind fun σ_19 => f_Exp_expandMacro_j142 rT (r0) (x_8) σ_19) else (f_Exp_expandMacro_j142 rT (r0) (x_8) σ_16))) else ((rb_gI σ_5 r0 5 5).bind fun x_22 => (rb_gR σ_5 r0 5 4).bind fun r_23 => (rb_aI σ_5 r_23 102 (((x2 * (26 : Int32)) + x1) - (65 : Int32))).bind fun x_24 => (rb_pI σ_5 r0 5 5 (rb_mx x_22 (x_4 + x_24))).bind fun σ_25 => (rb_gR σ_25 r0 5 4).bind fun r_26 => (rb_aI σ_25 r_26 102 (((x2 * (26 : Int32)) + x1) - (65 : Int32))).bind fun x_27 => if (120 : Int32) < (x_4 + x_27) then (some (some (.int (0 : Int32)), σ_25)) else (some (some (.int (1 : Int32)), σ_25))))))
theorem s_Exp_expandMacro {E : rb_EV} {d : Nat} {dT : Nat} {rT : Option Nat → Option Nat → Int32 → rb_St → Option rb_Rs} (hT : ∀ (r0 : Option Nat) (r1 : Option Nat) (x2 : Int32) (σ : rb_St), rb_Does E k_Exp_expandText dT [va_rf r0, va_rf r1, .int x2] σ (rT r0 r1 x2 σ)) (hdd : dT + 1 ≤ d ∧ 1 ≤ d) (r0 : Option Nat) (x1 : Int32) (x2 : Int32) (σ : rb_St) : rb_Does E k_Exp_expandMacro d [va_rf r0, .int x1, .int x2] σ (f_Exp_expandMacro rT r0 x1 x2 σ) := by
  refine rb_start (lv := [some (va_rf r0), some (.int x1), some (.int x2), none, none, none]) (by decide) (by simp [lg_sl, rb_as, lv_args, rb_cat_r, rb_cat_i, rb_cat_l, rb_nL, k_Exp_expandMacro]) (fun res => ?_)
  unfold f_Exp_expandMacro
  refine rb_TC.mono (rk_iload_n 2 d_Exp_expandMacro_0 rfl rfl) ?_
  refine rt_if_lt 17 d_Exp_expandMacro_1 (by decide) (fun _ => ?_) (fun _ => ?_)
  · refine rb_TC.mono (rk_iconst (0 : Int32) d_Exp_expandMacro_17 (by decide)) ?_
    exact rt_iret (ty := .boolean) rfl (by decide) (fun h => h) d_Exp_expandMacro_18
  · refine rb_TC.mono (rk_iload_n 2 d_Exp_expandMacro_4 rfl rfl) ?_
    refine rb_TC.mono (rk_bipush (6 : Int32) d_Exp_expandMacro_5 (by decide)) ?_
    refine rt_icmp_ge 17 d_Exp_expandMacro_7 (by decide) (fun _ => ?_) (fun _ => ?_)
    · refine rb_TC.mono (rk_iconst (0 : Int32) d_Exp_expandMacro_17 (by decide)) ?_
      exact rt_iret (ty := .boolean) rfl (by decide) (fun h => h) d_Exp_expandMacro_18
    · refine rb_TC.mono (rk_iload_n 1 d_Exp_expandMacro_10 rfl rfl) ?_
      refine rt_sI (As := [.int x1]) (st := []) sw_Exp_38 (s_Exp_isCapital (Nat.le_refl _) (x1) σ) (by omega) rfl (by simp [rb_cat_r, rb_cat_i, rb_cat_l]) d_Exp_expandMacro_11 (fun x_1 σ_2 => ?_)
      refine rt_if_ne 19 d_Exp_expandMacro_14 (by decide) (fun _ => ?_) (fun _ => ?_)
      · refine rb_TC.mono (rk_iconst (0 : Int32) d_Exp_expandMacro_17 (by decide)) ?_
        exact rt_iret (ty := .boolean) rfl (by decide) (fun h => h) d_Exp_expandMacro_18
      · refine rb_TC.mono (rk_iload_n 2 d_Exp_expandMacro_19 rfl rfl) ?_
        refine rb_TC.mono (rk_bipush (26 : Int32) d_Exp_expandMacro_20 (by decide)) ?_
        refine rb_TC.mono (rk_imul d_Exp_expandMacro_22) ?_
        refine rb_TC.mono (rk_iload_n 1 d_Exp_expandMacro_23 rfl rfl) ?_
        refine rb_TC.mono (rk_iadd d_Exp_expandMacro_24) ?_
        refine rb_TC.mono (rk_bipush (65 : Int32) d_Exp_expandMacro_25 (by decide)) ?_
        refine rb_TC.mono (rk_isub d_Exp_expandMacro_27) ?_
        refine rb_TC.mono (rk_istore_n (lv2 := [some (va_rf r0), some (.int x1), some (.int x2), some (.int (((x2 * (26 : Int32)) + x1) - (65 : Int32))), none, none]) 3 d_Exp_expandMacro_28 rfl (by decide) (fun _ => rb_one_i) rfl) ?_
        refine rb_TC.mono (rk_aload_n 0 d_Exp_expandMacro_29 rfl rfl) ?_
        refine rt_gR r0 fw_Exp_14 d_Exp_expandMacro_30 (fun r_3 => ?_)
        refine rt_vI (As := []) (st := []) (r_3) vw_Exp_82 (s_Text_length (Nat.le_refl _) (r_3)  σ_2) (by omega) rfl (by simp [rb_cat_r, rb_cat_i, rb_cat_l]) d_Exp_expandMacro_33 (fun x_4 σ_5 => ?_)
        refine rb_TC.mono (rk_istore (lv2 := [some (va_rf r0), some (.int x1), some (.int x2), some (.int (((x2 * (26 : Int32)) + x1) - (65 : Int32))), some (.int x_4), none]) d_Exp_expandMacro_36 (by decide) (fun _ => rb_one_i) rfl) ?_
        refine rb_TC.mono (rk_aload_n 0 d_Exp_expandMacro_38 rfl rfl) ?_
        refine rt_gR r0 fw_Exp_30 d_Exp_expandMacro_39 (fun r_6 => ?_)
        refine rb_TC.mono (rk_iload_n 3 d_Exp_expandMacro_42 rfl rfl) ?_
        refine rt_iald r_6 d_Exp_expandMacro_43 (fun x_7 => ?_)
        refine rb_TC.mono (rk_iconst (-1 : Int32) d_Exp_expandMacro_44 (by decide)) ?_
        refine rt_icmp_eq 88 d_Exp_expandMacro_45 (by decide) (fun _ => ?_) (fun _ => ?_)
        · refine rb_TC.mono (rk_aload_n 0 d_Exp_expandMacro_88 rfl rfl) ?_
          refine rt_gI r0 fw_Exp_78 d_Exp_expandMacro_89 (fun x_8 => ?_)
          refine rb_TC.mono (rk_istore (lv2 := [some (va_rf r0), some (.int x1), some (.int x2), some (.int (((x2 * (26 : Int32)) + x1) - (65 : Int32))), some (.int x_4), some (.int x_8)]) d_Exp_expandMacro_92 (by decide) (fun _ => rb_one_i) rfl) ?_
          refine rb_TC.mono (rk_aload_n 0 d_Exp_expandMacro_94 rfl rfl) ?_
          refine rb_TC.mono (rk_iload d_Exp_expandMacro_95 rfl) ?_
          refine rt_pI r0 fp_Exp_expandMacro_78 d_Exp_expandMacro_97 (fun σ_9 => ?_)
          refine rb_TC.mono (rk_aload_n 0 d_Exp_expandMacro_100 rfl rfl) ?_
          refine rb_TC.mono (rk_aload_n 0 d_Exp_expandMacro_101 rfl rfl) ?_
          refine rb_TC.mono (rk_iload_n 1 d_Exp_expandMacro_102 rfl rfl) ?_
          refine rt_vR (As := [.int x1]) (st := [va_rf r0]) (r0) vw_Exp_107 (s_Exp_valueOf (Nat.le_refl _) (r0) (x1) σ_9) (by omega) rfl (by simp [rb_cat_r, rb_cat_i, rb_cat_l]) d_Exp_expandMacro_103 (fun r_10 σ_11 => ?_)
          refine rb_TC.mono (rk_iload_n 2 d_Exp_expandMacro_106 rfl rfl) ?_
          refine rb_TC.mono (rk_iconst (1 : Int32) d_Exp_expandMacro_107 (by decide)) ?_
          refine rb_TC.mono (rk_iadd d_Exp_expandMacro_108) ?_
          refine rt_vI (As := [va_rf r_10, .int (x2 + (1 : Int32))]) (st := []) (r0) vw_Exp_58 (hT (r0) (r_10) ((x2 + (1 : Int32))) σ_11) (by omega) rfl (by simp [rb_cat_r, rb_cat_i, rb_cat_l]) d_Exp_expandMacro_109 (fun x_12 σ_13 => ?_)
          refine rt_if_ne 117 d_Exp_expandMacro_112 (by decide) (fun _ => ?_) (fun _ => ?_)
          · refine rb_TC.mono (rk_iconst (0 : Int32) d_Exp_expandMacro_115 (by decide)) ?_
            exact rt_iret (ty := .boolean) rfl (by decide) (fun h => h) d_Exp_expandMacro_116
          · refine rb_TC.mono (rk_aload_n 0 d_Exp_expandMacro_117 rfl rfl) ?_
            refine rt_gR r0 fw_Exp_14 d_Exp_expandMacro_118 (fun r_14 => ?_)
            refine rt_vI (As := []) (st := []) (r_14) vw_Exp_82 (s_Text_length (Nat.le_refl _) (r_14)  σ_13) (by omega) rfl (by simp [rb_cat_r, rb_cat_i, rb_cat_l]) d_Exp_expandMacro_121 (fun x_15 σ_16 => ?_)
            refine rb_TC.mono (rk_iload d_Exp_expandMacro_124 rfl) ?_
            refine rt_icmp_ne 142 d_Exp_expandMacro_126 (by decide) (fun _ => ?_) (fun _ => ?_)
            · refine rb_TC.mono (rk_aload_n 0 d_Exp_expandMacro_129 rfl rfl) ?_
              refine rt_gR r0 fw_Exp_30 d_Exp_expandMacro_130 (fun r_17 => ?_)
              refine rb_TC.mono (rk_iload_n 3 d_Exp_expandMacro_133 rfl rfl) ?_
              refine rb_TC.mono (rk_aload_n 0 d_Exp_expandMacro_134 rfl rfl) ?_
              refine rt_gI r0 fw_Exp_78 d_Exp_expandMacro_135 (fun x_18 => ?_)
              refine rb_TC.mono (rk_iload d_Exp_expandMacro_138 rfl) ?_
              refine rb_TC.mono (rk_isub d_Exp_expandMacro_140) ?_
              refine rt_iast r_17 d_Exp_expandMacro_141 (fun σ_19 => ?_)
              refine rb_TC.mono (rk_less (lv2 := [some (va_rf r0), none, none, none, none, some (.int x_8)]) (rb_le_ok (rb_leS (rb_leN (rb_leN (rb_leN (rb_leN (rb_leS rb_le0)))))))) ?_
              exact t_Exp_expandMacro_j142 hT hdd  (r0) (x_8) σ_19
            · refine rb_TC.mono (rk_less (lv2 := [some (va_rf r0), none, none, none, none, some (.int x_8)]) (rb_le_ok (rb_leS (rb_leN (rb_leN (rb_leN (rb_leN (rb_leS rb_le0)))))))) ?_
              exact t_Exp_expandMacro_j142 hT hdd  (r0) (x_8) σ_16
        · refine rb_TC.mono (rk_aload_n 0 d_Exp_expandMacro_48 rfl rfl) ?_
          refine rb_TC.mono (rk_aload_n 0 d_Exp_expandMacro_49 rfl rfl) ?_
          refine rt_gI r0 fw_Exp_78 d_Exp_expandMacro_50 (fun x_22 => ?_)
          refine rb_TC.mono (rk_iload d_Exp_expandMacro_53 rfl) ?_
          refine rb_TC.mono (rk_aload_n 0 d_Exp_expandMacro_55 rfl rfl) ?_
          refine rt_gR r0 fw_Exp_30 d_Exp_expandMacro_56 (fun r_23 => ?_)
          refine rb_TC.mono (rk_iload_n 3 d_Exp_expandMacro_59 rfl rfl) ?_
          refine rt_iald r_23 d_Exp_expandMacro_60 (fun x_24 => ?_)
          refine rb_TC.mono (rk_iadd d_Exp_expandMacro_61) ?_
          refine rb_TC.mono (rk_mmax w_mmax_Exp_83 (by omega) (by simp [rb_cat_r, rb_cat_i, rb_cat_l]) d_Exp_expandMacro_62) ?_
          refine rt_pI r0 fp_Exp_expandMacro_78 d_Exp_expandMacro_65 (fun σ_25 => ?_)
          refine rb_TC.mono (rk_iload d_Exp_expandMacro_68 rfl) ?_
          refine rb_TC.mono (rk_aload_n 0 d_Exp_expandMacro_70 rfl rfl) ?_
          refine rt_gR r0 fw_Exp_30 d_Exp_expandMacro_71 (fun r_26 => ?_)
          refine rb_TC.mono (rk_iload_n 3 d_Exp_expandMacro_74 rfl rfl) ?_
          refine rt_iald r_26 d_Exp_expandMacro_75 (fun x_27 => ?_)
          refine rb_TC.mono (rk_iadd d_Exp_expandMacro_76) ?_
          refine rb_TC.mono (rk_bipush (120 : Int32) d_Exp_expandMacro_77 (by decide)) ?_
          refine rt_icmp_gt 86 d_Exp_expandMacro_79 (by decide) (fun _ => ?_) (fun _ => ?_)
          · refine rb_TC.mono (rk_iconst (0 : Int32) d_Exp_expandMacro_86 (by decide)) ?_
            exact rt_iret (ty := .boolean) rfl (by decide) (fun h => h) d_Exp_expandMacro_87
          · refine rb_TC.mono (rk_iconst (1 : Int32) d_Exp_expandMacro_82 (by decide)) ?_
            refine rb_TC.mono (rk_goto 87 d_Exp_expandMacro_83 (by decide)) ?_
            exact rt_iret (ty := .boolean) rfl (by decide) (fun h => h) d_Exp_expandMacro_87
-- ===== RuleBuilder$Expander.expandBracket(Ljava/lang/String;II)I (a group that calls itself)
def k_Exp_expandBracket : rb_MK := (⟨"RuleBuilder$Expander", "expandBracket", "(Ljava/lang/String;II)I"⟩, prog_4_method_10_code, 9, some (.int))
theorem mw_Exp_expandBracket : rb_Mw k_Exp_expandBracket 3 := ⟨rb_inG 740 (by decide +kernel) rfl, rb_inG 89 (by decide +kernel) rfl, ⟨by decide, by decide, by decide +kernel⟩, by decide⟩
theorem sw_Exp_99 : rb_Sw "RuleBuilder$Expander" 99 k_Exp_placeOf 3 := ⟨mw_Exp_placeOf, rb_inG 741 (by decide +kernel) rfl, rb_inG 742 (by decide +kernel) rfl⟩
theorem vw_Exp_103 : rb_Vw "RuleBuilder$Expander" 103 k_Exp_replaceEnds 5 5 := ⟨mw_Exp_replaceEnds, rb_inG 757 (by decide +kernel) rfl, rb_inG 759 (by decide +kernel) rfl, rb_inG 10 (by decide +kernel) rfl, by decide, by decide, _, rfl, rfl⟩
theorem vw_Exp_92 : rb_Vw "RuleBuilder$Expander" 92 k_Exp_expandMacro 5 2 := ⟨mw_Exp_expandMacro, rb_inG 748 (by decide +kernel) rfl, rb_inG 750 (by decide +kernel) rfl, rb_inG 8 (by decide +kernel) rfl, by decide, by decide, _, rfl, rfl⟩
theorem d_Exp_expandBracket_0 : decode prog_4_method_10_code 0 = .ok (.iload_n 2, 1) := by decide +kernel
theorem d_Exp_expandBracket_1 : decode prog_4_method_10_code 1 = .ok (.iconst 3, 1) := by decide +kernel
theorem d_Exp_expandBracket_2 : decode prog_4_method_10_code 2 = .ok (.iadd, 1) := by decide +kernel
theorem d_Exp_expandBracket_3 : decode prog_4_method_10_code 3 = .ok (.istore 4, 2) := by decide +kernel
theorem d_Exp_expandBracket_5 : decode prog_4_method_10_code 5 = .ok (.aload_n 1, 1) := by decide +kernel
theorem d_Exp_expandBracket_6 : decode prog_4_method_10_code 6 = .ok (.bipush 41, 2) := by decide +kernel
theorem d_Exp_expandBracket_8 : decode prog_4_method_10_code 8 = .ok (.iload 4, 2) := by decide +kernel
theorem d_Exp_expandBracket_10 : decode prog_4_method_10_code 10 = .ok (.invokestatic 99, 3) := by decide +kernel
theorem d_Exp_expandBracket_13 : decode prog_4_method_10_code 13 = .ok (.istore 5, 2) := by decide +kernel
theorem d_Exp_expandBracket_15 : decode prog_4_method_10_code 15 = .ok (.iload 5, 2) := by decide +kernel
theorem d_Exp_expandBracket_17 : decode prog_4_method_10_code 17 = .ok (.aload_n 1, 1) := by decide +kernel
theorem d_Exp_expandBracket_18 : decode prog_4_method_10_code 18 = .ok (.invokevirtual 62, 3) := by decide +kernel
theorem d_Exp_expandBracket_21 : decode prog_4_method_10_code 21 = .ok (.if_icmp .eq 16, 3) := by decide +kernel
theorem d_Exp_expandBracket_24 : decode prog_4_method_10_code 24 = .ok (.aload_n 1, 1) := by decide +kernel
theorem d_Exp_expandBracket_25 : decode prog_4_method_10_code 25 = .ok (.iload_n 2, 1) := by decide +kernel
theorem d_Exp_expandBracket_26 : decode prog_4_method_10_code 26 = .ok (.iconst 2, 1) := by decide +kernel
theorem d_Exp_expandBracket_27 : decode prog_4_method_10_code 27 = .ok (.iadd, 1) := by decide +kernel
theorem d_Exp_expandBracket_28 : decode prog_4_method_10_code 28 = .ok (.invokevirtual 68, 3) := by decide +kernel
theorem d_Exp_expandBracket_31 : decode prog_4_method_10_code 31 = .ok (.invokestatic 38, 3) := by decide +kernel
theorem d_Exp_expandBracket_34 : decode prog_4_method_10_code 34 = .ok (.ifCond .ne 5, 3) := by decide +kernel
theorem d_Exp_expandBracket_37 : decode prog_4_method_10_code 37 = .ok (.iconst (-1), 1) := by decide +kernel
theorem d_Exp_expandBracket_38 : decode prog_4_method_10_code 38 = .ok (.ireturn, 1) := by decide +kernel
theorem d_Exp_expandBracket_39 : decode prog_4_method_10_code 39 = .ok (.aload_n 1, 1) := by decide +kernel
theorem d_Exp_expandBracket_40 : decode prog_4_method_10_code 40 = .ok (.bipush 61, 2) := by decide +kernel
theorem d_Exp_expandBracket_42 : decode prog_4_method_10_code 42 = .ok (.iload 4, 2) := by decide +kernel
theorem d_Exp_expandBracket_44 : decode prog_4_method_10_code 44 = .ok (.invokestatic 99, 3) := by decide +kernel
theorem d_Exp_expandBracket_47 : decode prog_4_method_10_code 47 = .ok (.istore 6, 2) := by decide +kernel
theorem d_Exp_expandBracket_49 : decode prog_4_method_10_code 49 = .ok (.iload 5, 2) := by decide +kernel
theorem d_Exp_expandBracket_51 : decode prog_4_method_10_code 51 = .ok (.iload 4, 2) := by decide +kernel
theorem d_Exp_expandBracket_53 : decode prog_4_method_10_code 53 = .ok (.if_icmp .le 7, 3) := by decide +kernel
theorem d_Exp_expandBracket_56 : decode prog_4_method_10_code 56 = .ok (.iconst 1, 1) := by decide +kernel
theorem d_Exp_expandBracket_57 : decode prog_4_method_10_code 57 = .ok (.goto 4, 3) := by decide +kernel
theorem d_Exp_expandBracket_60 : decode prog_4_method_10_code 60 = .ok (.iconst 0, 1) := by decide +kernel
theorem d_Exp_expandBracket_61 : decode prog_4_method_10_code 61 = .ok (.istore 7, 2) := by decide +kernel
theorem d_Exp_expandBracket_63 : decode prog_4_method_10_code 63 = .ok (.iload 7, 2) := by decide +kernel
theorem d_Exp_expandBracket_65 : decode prog_4_method_10_code 65 = .ok (.ifCond .eq 23, 3) := by decide +kernel
theorem d_Exp_expandBracket_68 : decode prog_4_method_10_code 68 = .ok (.aload_n 1, 1) := by decide +kernel
theorem d_Exp_expandBracket_69 : decode prog_4_method_10_code 69 = .ok (.iload 4, 2) := by decide +kernel
theorem d_Exp_expandBracket_71 : decode prog_4_method_10_code 71 = .ok (.invokevirtual 68, 3) := by decide +kernel
theorem d_Exp_expandBracket_74 : decode prog_4_method_10_code 74 = .ok (.bipush 58, 2) := by decide +kernel
theorem d_Exp_expandBracket_76 : decode prog_4_method_10_code 76 = .ok (.if_icmp .ne 10, 3) := by decide +kernel
theorem d_Exp_expandBracket_79 : decode prog_4_method_10_code 79 = .ok (.iload 6, 2) := by decide +kernel
theorem d_Exp_expandBracket_81 : decode prog_4_method_10_code 81 = .ok (.iload 5, 2) := by decide +kernel
theorem d_Exp_expandBracket_83 : decode prog_4_method_10_code 83 = .ok (.if_icmp .le 5, 3) := by decide +kernel
theorem d_Exp_expandBracket_86 : decode prog_4_method_10_code 86 = .ok (.iconst (-1), 1) := by decide +kernel
theorem d_Exp_expandBracket_87 : decode prog_4_method_10_code 87 = .ok (.ireturn, 1) := by decide +kernel
theorem d_Exp_expandBracket_88 : decode prog_4_method_10_code 88 = .ok (.aload_n 0, 1) := by decide +kernel
theorem d_Exp_expandBracket_89 : decode prog_4_method_10_code 89 = .ok (.getfield 14, 3) := by decide +kernel
theorem d_Exp_expandBracket_92 : decode prog_4_method_10_code 92 = .ok (.invokevirtual 82, 3) := by decide +kernel
theorem d_Exp_expandBracket_95 : decode prog_4_method_10_code 95 = .ok (.istore 8, 2) := by decide +kernel
theorem d_Exp_expandBracket_97 : decode prog_4_method_10_code 97 = .ok (.aload_n 0, 1) := by decide +kernel
theorem d_Exp_expandBracket_98 : decode prog_4_method_10_code 98 = .ok (.aload_n 1, 1) := by decide +kernel
theorem d_Exp_expandBracket_99 : decode prog_4_method_10_code 99 = .ok (.iload_n 2, 1) := by decide +kernel
theorem d_Exp_expandBracket_100 : decode prog_4_method_10_code 100 = .ok (.iconst 2, 1) := by decide +kernel
theorem d_Exp_expandBracket_101 : decode prog_4_method_10_code 101 = .ok (.iadd, 1) := by decide +kernel
theorem d_Exp_expandBracket_102 : decode prog_4_method_10_code 102 = .ok (.invokevirtual 68, 3) := by decide +kernel
theorem d_Exp_expandBracket_105 : decode prog_4_method_10_code 105 = .ok (.iload_n 3, 1) := by decide +kernel
theorem d_Exp_expandBracket_106 : decode prog_4_method_10_code 106 = .ok (.invokevirtual 92, 3) := by decide +kernel
theorem d_Exp_expandBracket_109 : decode prog_4_method_10_code 109 = .ok (.ifCond .ne 5, 3) := by decide +kernel
theorem d_Exp_expandBracket_112 : decode prog_4_method_10_code 112 = .ok (.iconst (-1), 1) := by decide +kernel
theorem d_Exp_expandBracket_113 : decode prog_4_method_10_code 113 = .ok (.ireturn, 1) := by decide +kernel
theorem d_Exp_expandBracket_114 : decode prog_4_method_10_code 114 = .ok (.iload 7, 2) := by decide +kernel
theorem d_Exp_expandBracket_116 : decode prog_4_method_10_code 116 = .ok (.ifCond .eq 23, 3) := by decide +kernel
theorem d_Exp_expandBracket_119 : decode prog_4_method_10_code 119 = .ok (.aload_n 0, 1) := by decide +kernel
theorem d_Exp_expandBracket_120 : decode prog_4_method_10_code 120 = .ok (.iload 8, 2) := by decide +kernel
theorem d_Exp_expandBracket_122 : decode prog_4_method_10_code 122 = .ok (.aload_n 1, 1) := by decide +kernel
theorem d_Exp_expandBracket_123 : decode prog_4_method_10_code 123 = .ok (.iload 4, 2) := by decide +kernel
theorem d_Exp_expandBracket_125 : decode prog_4_method_10_code 125 = .ok (.iconst 1, 1) := by decide +kernel
theorem d_Exp_expandBracket_126 : decode prog_4_method_10_code 126 = .ok (.iadd, 1) := by decide +kernel
theorem d_Exp_expandBracket_127 : decode prog_4_method_10_code 127 = .ok (.iload 6, 2) := by decide +kernel
theorem d_Exp_expandBracket_129 : decode prog_4_method_10_code 129 = .ok (.iload 5, 2) := by decide +kernel
theorem d_Exp_expandBracket_131 : decode prog_4_method_10_code 131 = .ok (.invokevirtual 103, 3) := by decide +kernel
theorem d_Exp_expandBracket_134 : decode prog_4_method_10_code 134 = .ok (.ifCond .ne 5, 3) := by decide +kernel
theorem d_Exp_expandBracket_137 : decode prog_4_method_10_code 137 = .ok (.iconst (-1), 1) := by decide +kernel
theorem d_Exp_expandBracket_138 : decode prog_4_method_10_code 138 = .ok (.ireturn, 1) := by decide +kernel
theorem d_Exp_expandBracket_139 : decode prog_4_method_10_code 139 = .ok (.iload 5, 2) := by decide +kernel
theorem d_Exp_expandBracket_141 : decode prog_4_method_10_code 141 = .ok (.ireturn, 1) := by decide +kernel
noncomputable def f_Exp_expandBracket_j88 (rT : Option Nat → Option Nat → Int32 → rb_St → Option rb_Rs) (r0 : Option Nat) (r1 : Option Nat) (x2 : Int32) (x3 : Int32) (x4 : Int32) (x5 : Int32) (x6 : Int32) (x7 : Int32) (σ : rb_St) : Option rb_Rs :=
  (rb_gR σ r0 5 0).bind fun r_11 => (rb_fc σ r_11 2).bind fun _ => rb_cI (f_Text_length (r_11)  σ) fun x_12 σ_13 => (rb_fc σ_13 r1 14).bind fun _ => rb_cI (f_Str_charAt (r1) ((x2 + (2 : Int32))) σ_13) fun x_14 σ_15 => (rb_fc σ_15 r0 5).bind fun _ => rb_cI (f_Exp_expandMacro rT (r0) (x_14) (x3) σ_15) fun x_16 σ_17 => if x_16 = 0 then (some (some (.int (-1 : Int32)), σ_17)) else (if x7 = 0 then (some (some (.int x5), σ_17)) else ((rb_fc σ_17 r0 5).bind fun _ => rb_cI (f_Exp_replaceEnds (r0) (x_12) (r1) ((x4 + (1 : Int32))) (x6) (x5) σ_17) fun x_18 σ_19 => if x_18 = 0 then (some (some (.int (-1 : Int32)), σ_19)) else (some (some (.int x5), σ_19))))
theorem t_Exp_expandBracket_j88 {E : rb_EV} {d : Nat} {σ0 : rb_St} {res : rb_Rs} {dT : Nat} {rT : Option Nat → Option Nat → Int32 → rb_St → Option rb_Rs} (hT : ∀ (r0 : Option Nat) (r1 : Option Nat) (x2 : Int32) (σ : rb_St), rb_Does E k_Exp_expandText dT [va_rf r0, va_rf r1, .int x2] σ (rT r0 r1 x2 σ)) (hdd : dT + 2 ≤ d ∧ 6 ≤ d)  (r0 : Option Nat) (r1 : Option Nat) (x2 : Int32) (x3 : Int32) (x4 : Int32) (x5 : Int32) (x6 : Int32) (x7 : Int32) (σ : rb_St) : rb_TC (f_Exp_expandBracket_j88 rT r0 r1 x2 x3 x4 x5 x6 x7 σ) (fun r => r = res) (rb_WK E k_Exp_expandBracket d σ0 res 88 [some (va_rf r0), some (va_rf r1), some (.int x2), some (.int x3), some (.int x4), some (.int x5), some (.int x6), some (.int x7), none] [] σ) := by
  unfold f_Exp_expandBracket_j88
  refine rb_TC.mono (rk_aload_n 0 d_Exp_expandBracket_88 rfl rfl) ?_
  refine rt_gR r0 fw_Exp_14 d_Exp_expandBracket_89 (fun r_11 => ?_)
  refine rt_vI (As := []) (st := []) (r_11) vw_Exp_82 (s_Text_length (Nat.le_refl _) (r_11)  σ) (by omega) rfl (by simp [rb_cat_r, rb_cat_i, rb_cat_l]) d_Exp_expandBracket_92 (fun x_12 σ_13 => ?_)
  refine rb_TC.mono (rk_istore (lv2 := [some (va_rf r0), some (va_rf r1), some (.int x2), some (.int x3), some (.int x4), some (.int x5), some (.int x6), some (.int x7), some (.int x_12)]) d_Exp_expandBracket_95 (by decide) (fun _ => rb_one_i) rfl) ?_
  refine rb_TC.mono (rk_aload_n 0 d_Exp_expandBracket_97 rfl rfl) ?_
  refine rb_TC.mono (rk_aload_n 1 d_Exp_expandBracket_98 rfl rfl) ?_
  refine rb_TC.mono (rk_iload_n 2 d_Exp_expandBracket_99 rfl rfl) ?_
  refine rb_TC.mono (rk_iconst (2 : Int32) d_Exp_expandBracket_100 (by decide)) ?_
  refine rb_TC.mono (rk_iadd d_Exp_expandBracket_101) ?_
  refine rt_vI (As := [.int (x2 + (2 : Int32))]) (st := [va_rf r0]) (r1) vw_Exp_68 (s_Str_charAt (Nat.le_refl _) (r1) ((x2 + (2 : Int32))) σ_13) (by omega) rfl (by simp [rb_cat_r, rb_cat_i, rb_cat_l]) d_Exp_expandBracket_102 (fun x_14 σ_15 => ?_)
  refine rb_TC.mono (rk_iload_n 3 d_Exp_expandBracket_105 rfl rfl) ?_
  refine rt_vI (As := [.int x_14, .int x3]) (st := []) (r0) vw_Exp_92 (s_Exp_expandMacro hT (d := d - 1) (by omega) (r0) (x_14) (x3) σ_15) (by omega) rfl (by simp [rb_cat_r, rb_cat_i, rb_cat_l]) d_Exp_expandBracket_106 (fun x_16 σ_17 => ?_)
  refine rt_if_ne 114 d_Exp_expandBracket_109 (by decide) (fun _ => ?_) (fun _ => ?_)
  · refine rb_TC.mono (rk_iconst (-1 : Int32) d_Exp_expandBracket_112 (by decide)) ?_
    exact rt_iret (ty := .int) rfl rfl (fun h => h) d_Exp_expandBracket_113
  · refine rb_TC.mono (rk_iload d_Exp_expandBracket_114 rfl) ?_
    refine rt_if_eq 139 d_Exp_expandBracket_116 (by decide) (fun _ => ?_) (fun _ => ?_)
    · refine rb_TC.mono (rk_iload d_Exp_expandBracket_139 rfl) ?_
      exact rt_iret (ty := .int) rfl rfl (fun h => h) d_Exp_expandBracket_141
    · refine rb_TC.mono (rk_aload_n 0 d_Exp_expandBracket_119 rfl rfl) ?_
      refine rb_TC.mono (rk_iload d_Exp_expandBracket_120 rfl) ?_
      refine rb_TC.mono (rk_aload_n 1 d_Exp_expandBracket_122 rfl rfl) ?_
      refine rb_TC.mono (rk_iload d_Exp_expandBracket_123 rfl) ?_
      refine rb_TC.mono (rk_iconst (1 : Int32) d_Exp_expandBracket_125 (by decide)) ?_
      refine rb_TC.mono (rk_iadd d_Exp_expandBracket_126) ?_
      refine rb_TC.mono (rk_iload d_Exp_expandBracket_127 rfl) ?_
      refine rb_TC.mono (rk_iload d_Exp_expandBracket_129 rfl) ?_
      refine rt_vI (As := [.int x_12, va_rf r1, .int (x4 + (1 : Int32)), .int x6, .int x5]) (st := []) (r0) vw_Exp_103 (s_Exp_replaceEnds (Nat.le_refl _) (r0) (x_12) (r1) ((x4 + (1 : Int32))) (x6) (x5) σ_17) (by omega) rfl (by simp [rb_cat_r, rb_cat_i, rb_cat_l]) d_Exp_expandBracket_131 (fun x_18 σ_19 => ?_)
      refine rt_if_ne 139 d_Exp_expandBracket_134 (by decide) (fun _ => ?_) (fun _ => ?_)
      · refine rb_TC.mono (rk_iconst (-1 : Int32) d_Exp_expandBracket_137 (by decide)) ?_
        exact rt_iret (ty := .int) rfl rfl (fun h => h) d_Exp_expandBracket_138
      · refine rb_TC.mono (rk_iload d_Exp_expandBracket_139 rfl) ?_
        exact rt_iret (ty := .int) rfl rfl (fun h => h) d_Exp_expandBracket_141
noncomputable def f_Exp_expandBracket_j61 (rT : Option Nat → Option Nat → Int32 → rb_St → Option rb_Rs) (r0 : Option Nat) (r1 : Option Nat) (x2 : Int32) (x3 : Int32) (x4 : Int32) (x5 : Int32) (x6 : Int32) (sx0 : Int32) (σ : rb_St) : Option rb_Rs :=
  if sx0 = 0 then (f_Exp_expandBracket_j88 rT (r0) (r1) (x2) (x3) (x4) (x5) (x6) (sx0) σ) else ((rb_fc σ r1 14).bind fun _ => rb_cI (f_Str_charAt (r1) (x4) σ) fun x_20 σ_21 => if x_20 = (58 : Int32) then (if x6 ≤ x5 then (f_Exp_expandBracket_j88 rT (r0) (r1) (x2) (x3) (x4) (x5) (x6) (sx0) σ_21) else (some (some (.int (-1 : Int32)), σ_21))) else (some (some (.int (-1 : Int32)), σ_21)))
theorem t_Exp_expandBracket_j61 {E : rb_EV} {d : Nat} {σ0 : rb_St} {res : rb_Rs} {dT : Nat} {rT : Option Nat → Option Nat → Int32 → rb_St → Option rb_Rs} (hT : ∀ (r0 : Option Nat) (r1 : Option Nat) (x2 : Int32) (σ : rb_St), rb_Does E k_Exp_expandText dT [va_rf r0, va_rf r1, .int x2] σ (rT r0 r1 x2 σ)) (hdd : dT + 2 ≤ d ∧ 6 ≤ d)  (r0 : Option Nat) (r1 : Option Nat) (x2 : Int32) (x3 : Int32) (x4 : Int32) (x5 : Int32) (x6 : Int32) (sx0 : Int32) (σ : rb_St) : rb_TC (f_Exp_expandBracket_j61 rT r0 r1 x2 x3 x4 x5 x6 sx0 σ) (fun r => r = res) (rb_WK E k_Exp_expandBracket d σ0 res 61 [some (va_rf r0), some (va_rf r1), some (.int x2), some (.int x3), some (.int x4), some (.int x5), some (.int x6), none, none] [.int sx0] σ) := by
  unfold f_Exp_expandBracket_j61
  refine rb_TC.mono (rk_istore (lv2 := [some (va_rf r0), some (va_rf r1), some (.int x2), some (.int x3), some (.int x4), some (.int x5), some (.int x6), some (.int sx0), none]) d_Exp_expandBracket_61 (by decide) (fun _ => rb_one_i) rfl) ?_
  refine rb_TC.mono (rk_iload d_Exp_expandBracket_63 rfl) ?_
  refine rt_if_eq 88 d_Exp_expandBracket_65 (by decide) (fun _ => ?_) (fun _ => ?_)
  · exact t_Exp_expandBracket_j88 hT hdd  (r0) (r1) (x2) (x3) (x4) (x5) (x6) (sx0) σ
  · refine rb_TC.mono (rk_aload_n 1 d_Exp_expandBracket_68 rfl rfl) ?_
    refine rb_TC.mono (rk_iload d_Exp_expandBracket_69 rfl) ?_
    refine rt_vI (As := [.int x4]) (st := []) (r1) vw_Exp_68 (s_Str_charAt (Nat.le_refl _) (r1) (x4) σ) (by omega) rfl (by simp [rb_cat_r, rb_cat_i, rb_cat_l]) d_Exp_expandBracket_71 (fun x_20 σ_21 => ?_)
    refine rb_TC.mono (rk_bipush (58 : Int32) d_Exp_expandBracket_74 (by decide)) ?_
    refine rt_icmp_ne 86 d_Exp_expandBracket_76 (by decide) (fun _ => ?_) (fun _ => ?_)
    · refine rb_TC.mono (rk_iload d_Exp_expandBracket_79 rfl) ?_
      refine rb_TC.mono (rk_iload d_Exp_expandBracket_81 rfl) ?_
      refine rt_icmp_le 88 d_Exp_expandBracket_83 (by decide) (fun _ => ?_) (fun _ => ?_)
      · exact t_Exp_expandBracket_j88 hT hdd  (r0) (r1) (x2) (x3) (x4) (x5) (x6) (sx0) σ_21
      · refine rb_TC.mono (rk_iconst (-1 : Int32) d_Exp_expandBracket_86 (by decide)) ?_
        exact rt_iret (ty := .int) rfl rfl (fun h => h) d_Exp_expandBracket_87
    · refine rb_TC.mono (rk_iconst (-1 : Int32) d_Exp_expandBracket_86 (by decide)) ?_
      exact rt_iret (ty := .int) rfl rfl (fun h => h) d_Exp_expandBracket_87
noncomputable def f_Exp_expandBracket (rT : Option Nat → Option Nat → Int32 → rb_St → Option rb_Rs) (r0 : Option Nat) (r1 : Option Nat) (x2 : Int32) (x3 : Int32) (σ : rb_St) : Option rb_Rs :=
  rb_cI (f_Exp_placeOf (r1) ((41 : Int32)) ((x2 + (3 : Int32))) σ) fun x_1 σ_2 => (rb_fc σ_2 r1 14).bind fun _ => rb_cI (f_Str_length (r1)  σ_2) fun x_3 σ_4 => if x_1 = x_3 then (some (some (.int (-1 : Int32)), σ_4)) else ((rb_fc σ_4 r1 14).bind fun _ => rb_cI (f_Str_charAt (r1) ((x2 + (2 : Int32))) σ_4) fun x_5 σ_6 => rb_cI (f_Exp_isCapital (x_5) σ_6) fun x_7 σ_8 => if x_7 = 0 then (some (some (.int (-1 : Int32)), σ_8)) else (rb_cI (f_Exp_placeOf (r1) ((61 : Int32)) ((x2 + (3 : Int32))) σ_8) fun x_9 σ_10 => if x_1 ≤ (x2 + (3 : Int32)) then (f_Exp_expandBracket_j61 rT (r0) (r1) (x2) (x3) ((x2 + (3 : Int32))) (x_1) (x_9) ((0 : Int32)) σ_10) else (f_Exp_expandBracket_j61 rT (r0) (r1) (x2) (x3) ((x2 + (3 : Int32))) (x_1) (x_9) ((1 : Int32)) σ_10)))
theorem s_Exp_expandBracket {E : rb_EV} {d : Nat} {dT : Nat} {rT : Option Nat → Option Nat → Int32 → rb_St → Option rb_Rs} (hT : ∀ (r0 : Option Nat) (r1 : Option Nat) (x2 : Int32) (σ : rb_St), rb_Does E k_Exp_expandText dT [va_rf r0, va_rf r1, .int x2] σ (rT r0 r1 x2 σ)) (hdd : dT + 2 ≤ d ∧ 6 ≤ d) (r0 : Option Nat) (r1 : Option Nat) (x2 : Int32) (x3 : Int32) (σ : rb_St) : rb_Does E k_Exp_expandBracket d [va_rf r0, va_rf r1, .int x2, .int x3] σ (f_Exp_expandBracket rT r0 r1 x2 x3 σ) := by
  refine rb_start (lv := [some (va_rf r0), some (va_rf r1), some (.int x2), some (.int x3), none, none, none, none, none]) (by decide) (by simp [lg_sl, rb_as, lv_args, rb_cat_r, rb_cat_i, rb_cat_l, rb_nL, k_Exp_expandBracket]) (fun res => ?_)
  unfold f_Exp_expandBracket
  refine rb_TC.mono (rk_iload_n 2 d_Exp_expandBracket_0 rfl rfl) ?_
  refine rb_TC.mono (rk_iconst (3 : Int32) d_Exp_expandBracket_1 (by decide)) ?_
  refine rb_TC.mono (rk_iadd d_Exp_expandBracket_2) ?_
  refine rb_TC.mono (rk_istore (lv2 := [some (va_rf r0), some (va_rf r1), some (.int x2), some (.int x3), some (.int (x2 + (3 : Int32))), none, none, none, none]) d_Exp_expandBracket_3 (by decide) (fun _ => rb_one_i) rfl) ?_
  refine rb_TC.mono (rk_aload_n 1 d_Exp_expandBracket_5 rfl rfl) ?_
  refine rb_TC.mono (rk_bipush (41 : Int32) d_Exp_expandBracket_6 (by decide)) ?_
  refine rb_TC.mono (rk_iload d_Exp_expandBracket_8 rfl) ?_
  refine rt_sI (As := [va_rf r1, .int (41 : Int32), .int (x2 + (3 : Int32))]) (st := []) sw_Exp_99 (s_Exp_placeOf (Nat.le_refl _) (r1) ((41 : Int32)) ((x2 + (3 : Int32))) σ) (by omega) rfl (by simp [rb_cat_r, rb_cat_i, rb_cat_l]) d_Exp_expandBracket_10 (fun x_1 σ_2 => ?_)
  refine rb_TC.mono (rk_istore (lv2 := [some (va_rf r0), some (va_rf r1), some (.int x2), some (.int x3), some (.int (x2 + (3 : Int32))), some (.int x_1), none, none, none]) d_Exp_expandBracket_13 (by decide) (fun _ => rb_one_i) rfl) ?_
  refine rb_TC.mono (rk_iload d_Exp_expandBracket_15 rfl) ?_
  refine rb_TC.mono (rk_aload_n 1 d_Exp_expandBracket_17 rfl rfl) ?_
  refine rt_vI (As := []) (st := [.int x_1]) (r1) vw_Exp_62 (s_Str_length (Nat.le_refl _) (r1)  σ_2) (by omega) rfl (by simp [rb_cat_r, rb_cat_i, rb_cat_l]) d_Exp_expandBracket_18 (fun x_3 σ_4 => ?_)
  refine rt_icmp_eq 37 d_Exp_expandBracket_21 (by decide) (fun _ => ?_) (fun _ => ?_)
  · refine rb_TC.mono (rk_iconst (-1 : Int32) d_Exp_expandBracket_37 (by decide)) ?_
    exact rt_iret (ty := .int) rfl rfl (fun h => h) d_Exp_expandBracket_38
  · refine rb_TC.mono (rk_aload_n 1 d_Exp_expandBracket_24 rfl rfl) ?_
    refine rb_TC.mono (rk_iload_n 2 d_Exp_expandBracket_25 rfl rfl) ?_
    refine rb_TC.mono (rk_iconst (2 : Int32) d_Exp_expandBracket_26 (by decide)) ?_
    refine rb_TC.mono (rk_iadd d_Exp_expandBracket_27) ?_
    refine rt_vI (As := [.int (x2 + (2 : Int32))]) (st := []) (r1) vw_Exp_68 (s_Str_charAt (Nat.le_refl _) (r1) ((x2 + (2 : Int32))) σ_4) (by omega) rfl (by simp [rb_cat_r, rb_cat_i, rb_cat_l]) d_Exp_expandBracket_28 (fun x_5 σ_6 => ?_)
    refine rt_sI (As := [.int x_5]) (st := []) sw_Exp_38 (s_Exp_isCapital (Nat.le_refl _) (x_5) σ_6) (by omega) rfl (by simp [rb_cat_r, rb_cat_i, rb_cat_l]) d_Exp_expandBracket_31 (fun x_7 σ_8 => ?_)
    refine rt_if_ne 39 d_Exp_expandBracket_34 (by decide) (fun _ => ?_) (fun _ => ?_)
    · refine rb_TC.mono (rk_iconst (-1 : Int32) d_Exp_expandBracket_37 (by decide)) ?_
      exact rt_iret (ty := .int) rfl rfl (fun h => h) d_Exp_expandBracket_38
    · refine rb_TC.mono (rk_aload_n 1 d_Exp_expandBracket_39 rfl rfl) ?_
      refine rb_TC.mono (rk_bipush (61 : Int32) d_Exp_expandBracket_40 (by decide)) ?_
      refine rb_TC.mono (rk_iload d_Exp_expandBracket_42 rfl) ?_
      refine rt_sI (As := [va_rf r1, .int (61 : Int32), .int (x2 + (3 : Int32))]) (st := []) sw_Exp_99 (s_Exp_placeOf (Nat.le_refl _) (r1) ((61 : Int32)) ((x2 + (3 : Int32))) σ_8) (by omega) rfl (by simp [rb_cat_r, rb_cat_i, rb_cat_l]) d_Exp_expandBracket_44 (fun x_9 σ_10 => ?_)
      refine rb_TC.mono (rk_istore (lv2 := [some (va_rf r0), some (va_rf r1), some (.int x2), some (.int x3), some (.int (x2 + (3 : Int32))), some (.int x_1), some (.int x_9), none, none]) d_Exp_expandBracket_47 (by decide) (fun _ => rb_one_i) rfl) ?_
      refine rb_TC.mono (rk_iload d_Exp_expandBracket_49 rfl) ?_
      refine rb_TC.mono (rk_iload d_Exp_expandBracket_51 rfl) ?_
      refine rt_icmp_le 60 d_Exp_expandBracket_53 (by decide) (fun _ => ?_) (fun _ => ?_)
      · refine rb_TC.mono (rk_iconst (0 : Int32) d_Exp_expandBracket_60 (by decide)) ?_
        exact t_Exp_expandBracket_j61 hT hdd  (r0) (r1) (x2) (x3) ((x2 + (3 : Int32))) (x_1) (x_9) ((0 : Int32)) σ_10
      · refine rb_TC.mono (rk_iconst (1 : Int32) d_Exp_expandBracket_56 (by decide)) ?_
        refine rb_TC.mono (rk_goto 61 d_Exp_expandBracket_57 (by decide)) ?_
        exact t_Exp_expandBracket_j61 hT hdd  (r0) (r1) (x2) (x3) ((x2 + (3 : Int32))) (x_1) (x_9) ((1 : Int32)) σ_10
-- ===== RuleBuilder$Expander.expandReference(Ljava/lang/String;II)I (a group that calls itself)
def k_Exp_expandReference : rb_MK := (⟨"RuleBuilder$Expander", "expandReference", "(Ljava/lang/String;II)I"⟩, prog_4_method_9_code, 6, some (.int))
theorem mw_Exp_expandReference : rb_Mw k_Exp_expandReference 3 := ⟨rb_inG 736 (by decide +kernel) rfl, rb_inG 89 (by decide +kernel) rfl, ⟨by decide, by decide, by decide +kernel⟩, by decide⟩
theorem vw_Exp_75 : rb_Vw "RuleBuilder$Expander" 75 k_Text_add 2 1 := ⟨mw_Text_add, rb_inG 771 (by decide +kernel) rfl, rb_inG 392 (by decide +kernel) rfl, rb_inG 393 (by decide +kernel) rfl, by decide, by decide, _, rfl, rfl⟩
theorem vw_Exp_89 : rb_Vw "RuleBuilder$Expander" 89 k_Exp_expandBracket 5 3 := ⟨mw_Exp_expandBracket, rb_inG 737 (by decide +kernel) rfl, rb_inG 739 (by decide +kernel) rfl, rb_inG 7 (by decide +kernel) rfl, by decide, by decide, _, rfl, rfl⟩
theorem vw_Exp_96 : rb_Vw "RuleBuilder$Expander" 96 k_Exp_addAutomatic 5 1 := ⟨mw_Exp_addAutomatic, rb_inG 772 (by decide +kernel) rfl, rb_inG 774 (by decide +kernel) rfl, rb_inG 11 (by decide +kernel) rfl, by decide, by decide, _, rfl, rfl⟩
theorem d_Exp_expandReference_0 : decode prog_4_method_9_code 0 = .ok (.iload_n 2, 1) := by decide +kernel
theorem d_Exp_expandReference_1 : decode prog_4_method_9_code 1 = .ok (.iconst 1, 1) := by decide +kernel
theorem d_Exp_expandReference_2 : decode prog_4_method_9_code 2 = .ok (.iadd, 1) := by decide +kernel
theorem d_Exp_expandReference_3 : decode prog_4_method_9_code 3 = .ok (.aload_n 1, 1) := by decide +kernel
theorem d_Exp_expandReference_4 : decode prog_4_method_9_code 4 = .ok (.invokevirtual 62, 3) := by decide +kernel
theorem d_Exp_expandReference_7 : decode prog_4_method_9_code 7 = .ok (.if_icmp .ge 13, 3) := by decide +kernel
theorem d_Exp_expandReference_10 : decode prog_4_method_9_code 10 = .ok (.aload_n 1, 1) := by decide +kernel
theorem d_Exp_expandReference_11 : decode prog_4_method_9_code 11 = .ok (.iload_n 2, 1) := by decide +kernel
theorem d_Exp_expandReference_12 : decode prog_4_method_9_code 12 = .ok (.iconst 1, 1) := by decide +kernel
theorem d_Exp_expandReference_13 : decode prog_4_method_9_code 13 = .ok (.iadd, 1) := by decide +kernel
theorem d_Exp_expandReference_14 : decode prog_4_method_9_code 14 = .ok (.invokevirtual 68, 3) := by decide +kernel
theorem d_Exp_expandReference_17 : decode prog_4_method_9_code 17 = .ok (.goto 4, 3) := by decide +kernel
theorem d_Exp_expandReference_20 : decode prog_4_method_9_code 20 = .ok (.iconst 0, 1) := by decide +kernel
theorem d_Exp_expandReference_21 : decode prog_4_method_9_code 21 = .ok (.istore 4, 2) := by decide +kernel
theorem d_Exp_expandReference_23 : decode prog_4_method_9_code 23 = .ok (.iload 4, 2) := by decide +kernel
theorem d_Exp_expandReference_25 : decode prog_4_method_9_code 25 = .ok (.bipush 40, 2) := by decide +kernel
theorem d_Exp_expandReference_27 : decode prog_4_method_9_code 27 = .ok (.if_icmp .ne 11, 3) := by decide +kernel
theorem d_Exp_expandReference_30 : decode prog_4_method_9_code 30 = .ok (.aload_n 0, 1) := by decide +kernel
theorem d_Exp_expandReference_31 : decode prog_4_method_9_code 31 = .ok (.aload_n 1, 1) := by decide +kernel
theorem d_Exp_expandReference_32 : decode prog_4_method_9_code 32 = .ok (.iload_n 2, 1) := by decide +kernel
theorem d_Exp_expandReference_33 : decode prog_4_method_9_code 33 = .ok (.iload_n 3, 1) := by decide +kernel
theorem d_Exp_expandReference_34 : decode prog_4_method_9_code 34 = .ok (.invokevirtual 89, 3) := by decide +kernel
theorem d_Exp_expandReference_37 : decode prog_4_method_9_code 37 = .ok (.ireturn, 1) := by decide +kernel
theorem d_Exp_expandReference_38 : decode prog_4_method_9_code 38 = .ok (.iload 4, 2) := by decide +kernel
theorem d_Exp_expandReference_40 : decode prog_4_method_9_code 40 = .ok (.bipush 36, 2) := by decide +kernel
theorem d_Exp_expandReference_42 : decode prog_4_method_9_code 42 = .ok (.if_icmp .ne 17, 3) := by decide +kernel
theorem d_Exp_expandReference_45 : decode prog_4_method_9_code 45 = .ok (.aload_n 0, 1) := by decide +kernel
theorem d_Exp_expandReference_46 : decode prog_4_method_9_code 46 = .ok (.getfield 14, 3) := by decide +kernel
theorem d_Exp_expandReference_49 : decode prog_4_method_9_code 49 = .ok (.bipush 36, 2) := by decide +kernel
theorem d_Exp_expandReference_51 : decode prog_4_method_9_code 51 = .ok (.invokevirtual 75, 3) := by decide +kernel
theorem d_Exp_expandReference_54 : decode prog_4_method_9_code 54 = .ok (.istore 5, 2) := by decide +kernel
theorem d_Exp_expandReference_56 : decode prog_4_method_9_code 56 = .ok (.goto 46, 3) := by decide +kernel
theorem d_Exp_expandReference_59 : decode prog_4_method_9_code 59 = .ok (.iload 4, 2) := by decide +kernel
theorem d_Exp_expandReference_61 : decode prog_4_method_9_code 61 = .ok (.invokestatic 38, 3) := by decide +kernel
theorem d_Exp_expandReference_64 : decode prog_4_method_9_code 64 = .ok (.ifCond .eq 15, 3) := by decide +kernel
theorem d_Exp_expandReference_67 : decode prog_4_method_9_code 67 = .ok (.aload_n 0, 1) := by decide +kernel
theorem d_Exp_expandReference_68 : decode prog_4_method_9_code 68 = .ok (.iload 4, 2) := by decide +kernel
theorem d_Exp_expandReference_70 : decode prog_4_method_9_code 70 = .ok (.iload_n 3, 1) := by decide +kernel
theorem d_Exp_expandReference_71 : decode prog_4_method_9_code 71 = .ok (.invokevirtual 92, 3) := by decide +kernel
theorem d_Exp_expandReference_74 : decode prog_4_method_9_code 74 = .ok (.istore 5, 2) := by decide +kernel
theorem d_Exp_expandReference_76 : decode prog_4_method_9_code 76 = .ok (.goto 26, 3) := by decide +kernel
theorem d_Exp_expandReference_79 : decode prog_4_method_9_code 79 = .ok (.aload_n 0, 1) := by decide +kernel
theorem d_Exp_expandReference_80 : decode prog_4_method_9_code 80 = .ok (.getfield 45, 3) := by decide +kernel
theorem d_Exp_expandReference_83 : decode prog_4_method_9_code 83 = .ok (.ifnull 16, 3) := by decide +kernel
theorem d_Exp_expandReference_86 : decode prog_4_method_9_code 86 = .ok (.aload_n 0, 1) := by decide +kernel
theorem d_Exp_expandReference_87 : decode prog_4_method_9_code 87 = .ok (.iload 4, 2) := by decide +kernel
theorem d_Exp_expandReference_89 : decode prog_4_method_9_code 89 = .ok (.invokevirtual 96, 3) := by decide +kernel
theorem d_Exp_expandReference_92 : decode prog_4_method_9_code 92 = .ok (.ifCond .eq 7, 3) := by decide +kernel
theorem d_Exp_expandReference_95 : decode prog_4_method_9_code 95 = .ok (.iconst 1, 1) := by decide +kernel
theorem d_Exp_expandReference_96 : decode prog_4_method_9_code 96 = .ok (.goto 4, 3) := by decide +kernel
theorem d_Exp_expandReference_99 : decode prog_4_method_9_code 99 = .ok (.iconst 0, 1) := by decide +kernel
theorem d_Exp_expandReference_100 : decode prog_4_method_9_code 100 = .ok (.istore 5, 2) := by decide +kernel
theorem d_Exp_expandReference_102 : decode prog_4_method_9_code 102 = .ok (.iload 5, 2) := by decide +kernel
theorem d_Exp_expandReference_104 : decode prog_4_method_9_code 104 = .ok (.ifCond .eq 9, 3) := by decide +kernel
theorem d_Exp_expandReference_107 : decode prog_4_method_9_code 107 = .ok (.iload_n 2, 1) := by decide +kernel
theorem d_Exp_expandReference_108 : decode prog_4_method_9_code 108 = .ok (.iconst 1, 1) := by decide +kernel
theorem d_Exp_expandReference_109 : decode prog_4_method_9_code 109 = .ok (.iadd, 1) := by decide +kernel
theorem d_Exp_expandReference_110 : decode prog_4_method_9_code 110 = .ok (.goto 4, 3) := by decide +kernel
theorem d_Exp_expandReference_113 : decode prog_4_method_9_code 113 = .ok (.iconst (-1), 1) := by decide +kernel
theorem d_Exp_expandReference_114 : decode prog_4_method_9_code 114 = .ok (.ireturn, 1) := by decide +kernel
noncomputable def f_Exp_expandReference_j102 (rT : Option Nat → Option Nat → Int32 → rb_St → Option rb_Rs) (x2 : Int32) (x5 : Int32) (σ : rb_St) : Option rb_Rs :=
  if x5 = 0 then (some (some (.int (-1 : Int32)), σ)) else (some (some (.int (x2 + (1 : Int32))), σ))
theorem t_Exp_expandReference_j102 {E : rb_EV} {d : Nat} {σ0 : rb_St} {res : rb_Rs} {dT : Nat} {rT : Option Nat → Option Nat → Int32 → rb_St → Option rb_Rs} (hT : ∀ (r0 : Option Nat) (r1 : Option Nat) (x2 : Int32) (σ : rb_St), rb_Does E k_Exp_expandText dT [va_rf r0, va_rf r1, .int x2] σ (rT r0 r1 x2 σ)) (hdd : dT + 3 ≤ d ∧ 7 ≤ d)  (x2 : Int32) (x5 : Int32) (σ : rb_St) : rb_TC (f_Exp_expandReference_j102 rT x2 x5 σ) (fun r => r = res) (rb_WK E k_Exp_expandReference d σ0 res 102 [none, none, some (.int x2), none, none, some (.int x5)] [] σ) := by
  unfold f_Exp_expandReference_j102
  refine rb_TC.mono (rk_iload d_Exp_expandReference_102 rfl) ?_
  refine rt_if_eq 113 d_Exp_expandReference_104 (by decide) (fun _ => ?_) (fun _ => ?_)
  · refine rb_TC.mono (rk_iconst (-1 : Int32) d_Exp_expandReference_113 (by decide)) ?_
    exact rt_iret (ty := .int) rfl rfl (fun h => h) d_Exp_expandReference_114
  · refine rb_TC.mono (rk_iload_n 2 d_Exp_expandReference_107 rfl rfl) ?_
    refine rb_TC.mono (rk_iconst (1 : Int32) d_Exp_expandReference_108 (by decide)) ?_
    refine rb_TC.mono (rk_iadd d_Exp_expandReference_109) ?_
    refine rb_TC.mono (rk_goto 114 d_Exp_expandReference_110 (by decide)) ?_
    exact rt_iret (ty := .int) rfl rfl (fun h => h) d_Exp_expandReference_114
noncomputable def f_Exp_expandReference_j100 (rT : Option Nat → Option Nat → Int32 → rb_St → Option rb_Rs) (x2 : Int32) (sx0 : Int32) (σ : rb_St) : Option rb_Rs :=
  f_Exp_expandReference_j102 rT (x2) (sx0) σ
theorem t_Exp_expandReference_j100 {E : rb_EV} {d : Nat} {σ0 : rb_St} {res : rb_Rs} {dT : Nat} {rT : Option Nat → Option Nat → Int32 → rb_St → Option rb_Rs} (hT : ∀ (r0 : Option Nat) (r1 : Option Nat) (x2 : Int32) (σ : rb_St), rb_Does E k_Exp_expandText dT [va_rf r0, va_rf r1, .int x2] σ (rT r0 r1 x2 σ)) (hdd : dT + 3 ≤ d ∧ 7 ≤ d)  (x2 : Int32) (sx0 : Int32) (σ : rb_St) : rb_TC (f_Exp_expandReference_j100 rT x2 sx0 σ) (fun r => r = res) (rb_WK E k_Exp_expandReference d σ0 res 100 [none, none, some (.int x2), none, none, none] [.int sx0] σ) := by
  unfold f_Exp_expandReference_j100
  refine rb_TC.mono (rk_istore (lv2 := [none, none, some (.int x2), none, none, some (.int sx0)]) d_Exp_expandReference_100 (by decide) (fun _ => rb_one_n) rfl) ?_
  exact t_Exp_expandReference_j102 hT hdd  (x2) (sx0) σ
noncomputable def f_Exp_expandReference_j99 (rT : Option Nat → Option Nat → Int32 → rb_St → Option rb_Rs) (x2 : Int32) (σ : rb_St) : Option rb_Rs :=
  f_Exp_expandReference_j100 rT (x2) ((0 : Int32)) σ
theorem t_Exp_expandReference_j99 {E : rb_EV} {d : Nat} {σ0 : rb_St} {res : rb_Rs} {dT : Nat} {rT : Option Nat → Option Nat → Int32 → rb_St → Option rb_Rs} (hT : ∀ (r0 : Option Nat) (r1 : Option Nat) (x2 : Int32) (σ : rb_St), rb_Does E k_Exp_expandText dT [va_rf r0, va_rf r1, .int x2] σ (rT r0 r1 x2 σ)) (hdd : dT + 3 ≤ d ∧ 7 ≤ d)  (x2 : Int32) (σ : rb_St) : rb_TC (f_Exp_expandReference_j99 rT x2 σ) (fun r => r = res) (rb_WK E k_Exp_expandReference d σ0 res 99 [none, none, some (.int x2), none, none, none] [] σ) := by
  unfold f_Exp_expandReference_j99
  refine rb_TC.mono (rk_iconst (0 : Int32) d_Exp_expandReference_99 (by decide)) ?_
  exact t_Exp_expandReference_j100 hT hdd  (x2) ((0 : Int32)) σ
noncomputable def f_Exp_expandReference_j21 (rT : Option Nat → Option Nat → Int32 → rb_St → Option rb_Rs) (r0 : Option Nat) (r1 : Option Nat) (x2 : Int32) (x3 : Int32) (sx0 : Int32) (σ : rb_St) : Option rb_Rs :=
  if sx0 = (40 : Int32) then ((rb_fc σ r0 5).bind fun _ => rb_cI (f_Exp_expandBracket rT (r0) (r1) (x2) (x3) σ) fun x_3 σ_4 => some (some (.int x_3), σ_4)) else (if sx0 = (36 : Int32) then ((rb_gR σ r0 5 0).bind fun r_5 => (rb_fc σ r_5 2).bind fun _ => rb_cI (f_Text_add (r_5) ((36 : Int32)) σ) fun x_6 σ_7 => f_Exp_expandReference_j102 rT (x2) (x_6) σ_7) else (rb_cI (f_Exp_isCapital (sx0) σ) fun x_8 σ_9 => if x_8 = 0 then ((rb_gR σ_9 r0 5 6).bind fun r_10 => if r_10 = none then (f_Exp_expandReference_j99 rT (x2) σ_9) else ((rb_fc σ_9 r0 5).bind fun _ => rb_cI (f_Exp_addAutomatic (r0) (sx0) σ_9) fun x_11 σ_12 => if x_11 = 0 then (f_Exp_expandReference_j99 rT (x2) σ_12) else (f_Exp_expandReference_j100 rT (x2) ((1 : Int32)) σ_12))) else ((rb_fc σ_9 r0 5).bind fun _ => rb_cI (f_Exp_expandMacro rT (r0) (sx0) (x3) σ_9) fun x_13 σ_14 => f_Exp_expandReference_j102 rT (x2) (x_13) σ_14)))
theorem t_Exp_expandReference_j21 {E : rb_EV} {d : Nat} {σ0 : rb_St} {res : rb_Rs} {dT : Nat} {rT : Option Nat → Option Nat → Int32 → rb_St → Option rb_Rs} (hT : ∀ (r0 : Option Nat) (r1 : Option Nat) (x2 : Int32) (σ : rb_St), rb_Does E k_Exp_expandText dT [va_rf r0, va_rf r1, .int x2] σ (rT r0 r1 x2 σ)) (hdd : dT + 3 ≤ d ∧ 7 ≤ d)  (r0 : Option Nat) (r1 : Option Nat) (x2 : Int32) (x3 : Int32) (sx0 : Int32) (σ : rb_St) : rb_TC (f_Exp_expandReference_j21 rT r0 r1 x2 x3 sx0 σ) (fun r => r = res) (rb_WK E k_Exp_expandReference d σ0 res 21 [some (va_rf r0), some (va_rf r1), some (.int x2), some (.int x3), none, none] [.int sx0] σ) := by
  unfold f_Exp_expandReference_j21
  refine rb_TC.mono (rk_istore (lv2 := [some (va_rf r0), some (va_rf r1), some (.int x2), some (.int x3), some (.int sx0), none]) d_Exp_expandReference_21 (by decide) (fun _ => rb_one_i) rfl) ?_
  refine rb_TC.mono (rk_iload d_Exp_expandReference_23 rfl) ?_
  refine rb_TC.mono (rk_bipush (40 : Int32) d_Exp_expandReference_25 (by decide)) ?_
  refine rt_icmp_ne 38 d_Exp_expandReference_27 (by decide) (fun _ => ?_) (fun _ => ?_)
  · refine rb_TC.mono (rk_aload_n 0 d_Exp_expandReference_30 rfl rfl) ?_
    refine rb_TC.mono (rk_aload_n 1 d_Exp_expandReference_31 rfl rfl) ?_
    refine rb_TC.mono (rk_iload_n 2 d_Exp_expandReference_32 rfl rfl) ?_
    refine rb_TC.mono (rk_iload_n 3 d_Exp_expandReference_33 rfl rfl) ?_
    refine rt_vI (As := [va_rf r1, .int x2, .int x3]) (st := []) (r0) vw_Exp_89 (s_Exp_expandBracket hT (d := d - 1) (by omega) (r0) (r1) (x2) (x3) σ) (by omega) rfl (by simp [rb_cat_r, rb_cat_i, rb_cat_l]) d_Exp_expandReference_34 (fun x_3 σ_4 => ?_)
    exact rt_iret (ty := .int) rfl rfl (fun h => h) d_Exp_expandReference_37
  · refine rb_TC.mono (rk_iload d_Exp_expandReference_38 rfl) ?_
    refine rb_TC.mono (rk_bipush (36 : Int32) d_Exp_expandReference_40 (by decide)) ?_
    refine rt_icmp_ne 59 d_Exp_expandReference_42 (by decide) (fun _ => ?_) (fun _ => ?_)
    · refine rb_TC.mono (rk_aload_n 0 d_Exp_expandReference_45 rfl rfl) ?_
      refine rt_gR r0 fw_Exp_14 d_Exp_expandReference_46 (fun r_5 => ?_)
      refine rb_TC.mono (rk_bipush (36 : Int32) d_Exp_expandReference_49 (by decide)) ?_
      refine rt_vI (As := [.int (36 : Int32)]) (st := []) (r_5) vw_Exp_75 (s_Text_add (Nat.le_refl _) (r_5) ((36 : Int32)) σ) (by omega) rfl (by simp [rb_cat_r, rb_cat_i, rb_cat_l]) d_Exp_expandReference_51 (fun x_6 σ_7 => ?_)
      refine rb_TC.mono (rk_istore (lv2 := [some (va_rf r0), some (va_rf r1), some (.int x2), some (.int x3), some (.int sx0), some (.int x_6)]) d_Exp_expandReference_54 (by decide) (fun _ => rb_one_i) rfl) ?_
      refine rb_TC.mono (rk_goto 102 d_Exp_expandReference_56 (by decide)) ?_
      refine rb_TC.mono (rk_less (lv2 := [none, none, some (.int x2), none, none, some (.int x_6)]) (rb_le_ok (rb_leN (rb_leN (rb_leS (rb_leN (rb_leN (rb_leS rb_le0)))))))) ?_
      exact t_Exp_expandReference_j102 hT hdd  (x2) (x_6) σ_7
    · refine rb_TC.mono (rk_iload d_Exp_expandReference_59 rfl) ?_
      refine rt_sI (As := [.int sx0]) (st := []) sw_Exp_38 (s_Exp_isCapital (Nat.le_refl _) (sx0) σ) (by omega) rfl (by simp [rb_cat_r, rb_cat_i, rb_cat_l]) d_Exp_expandReference_61 (fun x_8 σ_9 => ?_)
      refine rt_if_eq 79 d_Exp_expandReference_64 (by decide) (fun _ => ?_) (fun _ => ?_)
      · refine rb_TC.mono (rk_aload_n 0 d_Exp_expandReference_79 rfl rfl) ?_
        refine rt_gR r0 fw_Exp_45 d_Exp_expandReference_80 (fun r_10 => ?_)
        refine rt_ifnull 99 d_Exp_expandReference_83 (by decide) (fun _ => ?_) (fun _ => ?_)
        · refine rb_TC.mono (rk_less (lv2 := [none, none, some (.int x2), none, none, none]) (rb_le_ok (rb_leN (rb_leN (rb_leS (rb_leN (rb_leN (rb_leN rb_le0)))))))) ?_
          exact t_Exp_expandReference_j99 hT hdd  (x2) σ_9
        · refine rb_TC.mono (rk_aload_n 0 d_Exp_expandReference_86 rfl rfl) ?_
          refine rb_TC.mono (rk_iload d_Exp_expandReference_87 rfl) ?_
          refine rt_vI (As := [.int sx0]) (st := []) (r0) vw_Exp_96 (s_Exp_addAutomatic (Nat.le_refl _) (r0) (sx0) σ_9) (by omega) rfl (by simp [rb_cat_r, rb_cat_i, rb_cat_l]) d_Exp_expandReference_89 (fun x_11 σ_12 => ?_)
          refine rt_if_eq 99 d_Exp_expandReference_92 (by decide) (fun _ => ?_) (fun _ => ?_)
          · refine rb_TC.mono (rk_less (lv2 := [none, none, some (.int x2), none, none, none]) (rb_le_ok (rb_leN (rb_leN (rb_leS (rb_leN (rb_leN (rb_leN rb_le0)))))))) ?_
            exact t_Exp_expandReference_j99 hT hdd  (x2) σ_12
          · refine rb_TC.mono (rk_iconst (1 : Int32) d_Exp_expandReference_95 (by decide)) ?_
            refine rb_TC.mono (rk_goto 100 d_Exp_expandReference_96 (by decide)) ?_
            refine rb_TC.mono (rk_less (lv2 := [none, none, some (.int x2), none, none, none]) (rb_le_ok (rb_leN (rb_leN (rb_leS (rb_leN (rb_leN (rb_leN rb_le0)))))))) ?_
            exact t_Exp_expandReference_j100 hT hdd  (x2) ((1 : Int32)) σ_12
      · refine rb_TC.mono (rk_aload_n 0 d_Exp_expandReference_67 rfl rfl) ?_
        refine rb_TC.mono (rk_iload d_Exp_expandReference_68 rfl) ?_
        refine rb_TC.mono (rk_iload_n 3 d_Exp_expandReference_70 rfl rfl) ?_
        refine rt_vI (As := [.int sx0, .int x3]) (st := []) (r0) vw_Exp_92 (s_Exp_expandMacro hT (d := d - 1) (by omega) (r0) (sx0) (x3) σ_9) (by omega) rfl (by simp [rb_cat_r, rb_cat_i, rb_cat_l]) d_Exp_expandReference_71 (fun x_13 σ_14 => ?_)
        refine rb_TC.mono (rk_istore (lv2 := [some (va_rf r0), some (va_rf r1), some (.int x2), some (.int x3), some (.int sx0), some (.int x_13)]) d_Exp_expandReference_74 (by decide) (fun _ => rb_one_i) rfl) ?_
        refine rb_TC.mono (rk_goto 102 d_Exp_expandReference_76 (by decide)) ?_
        refine rb_TC.mono (rk_less (lv2 := [none, none, some (.int x2), none, none, some (.int x_13)]) (rb_le_ok (rb_leN (rb_leN (rb_leS (rb_leN (rb_leN (rb_leS rb_le0)))))))) ?_
        exact t_Exp_expandReference_j102 hT hdd  (x2) (x_13) σ_14
noncomputable def f_Exp_expandReference (rT : Option Nat → Option Nat → Int32 → rb_St → Option rb_Rs) (r0 : Option Nat) (r1 : Option Nat) (x2 : Int32) (x3 : Int32) (σ : rb_St) : Option rb_Rs :=
  (rb_fc σ r1 14).bind fun _ => rb_cI (f_Str_length (r1)  σ) fun x_1 σ_2 => if x_1 ≤ (x2 + (1 : Int32)) then (f_Exp_expandReference_j21 rT (r0) (r1) (x2) (x3) ((0 : Int32)) σ_2) else ((rb_fc σ_2 r1 14).bind fun _ => rb_cI (f_Str_charAt (r1) ((x2 + (1 : Int32))) σ_2) fun x_15 σ_16 => f_Exp_expandReference_j21 rT (r0) (r1) (x2) (x3) (x_15) σ_16)
theorem s_Exp_expandReference {E : rb_EV} {d : Nat} {dT : Nat} {rT : Option Nat → Option Nat → Int32 → rb_St → Option rb_Rs} (hT : ∀ (r0 : Option Nat) (r1 : Option Nat) (x2 : Int32) (σ : rb_St), rb_Does E k_Exp_expandText dT [va_rf r0, va_rf r1, .int x2] σ (rT r0 r1 x2 σ)) (hdd : dT + 3 ≤ d ∧ 7 ≤ d) (r0 : Option Nat) (r1 : Option Nat) (x2 : Int32) (x3 : Int32) (σ : rb_St) : rb_Does E k_Exp_expandReference d [va_rf r0, va_rf r1, .int x2, .int x3] σ (f_Exp_expandReference rT r0 r1 x2 x3 σ) := by
  refine rb_start (lv := [some (va_rf r0), some (va_rf r1), some (.int x2), some (.int x3), none, none]) (by decide) (by simp [lg_sl, rb_as, lv_args, rb_cat_r, rb_cat_i, rb_cat_l, rb_nL, k_Exp_expandReference]) (fun res => ?_)
  unfold f_Exp_expandReference
  refine rb_TC.mono (rk_iload_n 2 d_Exp_expandReference_0 rfl rfl) ?_
  refine rb_TC.mono (rk_iconst (1 : Int32) d_Exp_expandReference_1 (by decide)) ?_
  refine rb_TC.mono (rk_iadd d_Exp_expandReference_2) ?_
  refine rb_TC.mono (rk_aload_n 1 d_Exp_expandReference_3 rfl rfl) ?_
  refine rt_vI (As := []) (st := [.int (x2 + (1 : Int32))]) (r1) vw_Exp_62 (s_Str_length (Nat.le_refl _) (r1)  σ) (by omega) rfl (by simp [rb_cat_r, rb_cat_i, rb_cat_l]) d_Exp_expandReference_4 (fun x_1 σ_2 => ?_)
  refine rt_icmp_ge 20 d_Exp_expandReference_7 (by decide) (fun _ => ?_) (fun _ => ?_)
  · refine rb_TC.mono (rk_iconst (0 : Int32) d_Exp_expandReference_20 (by decide)) ?_
    exact t_Exp_expandReference_j21 hT hdd  (r0) (r1) (x2) (x3) ((0 : Int32)) σ_2
  · refine rb_TC.mono (rk_aload_n 1 d_Exp_expandReference_10 rfl rfl) ?_
    refine rb_TC.mono (rk_iload_n 2 d_Exp_expandReference_11 rfl rfl) ?_
    refine rb_TC.mono (rk_iconst (1 : Int32) d_Exp_expandReference_12 (by decide)) ?_
    refine rb_TC.mono (rk_iadd d_Exp_expandReference_13) ?_
    refine rt_vI (As := [.int (x2 + (1 : Int32))]) (st := []) (r1) vw_Exp_68 (s_Str_charAt (Nat.le_refl _) (r1) ((x2 + (1 : Int32))) σ_2) (by omega) rfl (by simp [rb_cat_r, rb_cat_i, rb_cat_l]) d_Exp_expandReference_14 (fun x_15 σ_16 => ?_)
    refine rb_TC.mono (rk_goto 21 d_Exp_expandReference_17 (by decide)) ?_
    exact t_Exp_expandReference_j21 hT hdd  (r0) (r1) (x2) (x3) (x_15) σ_16
-- ===== RuleBuilder$Expander.expandText(Ljava/lang/String;I)Z (a group that calls itself)
theorem fp_Exp_expandText_78 : rb_Fp k_Exp_expandText 78 5 5 .int := ⟨fw_Exp_78, rfl, fun q h => by cases h; exact Or.inl rfl⟩
theorem vw_Exp_71 : rb_Vw "RuleBuilder$Expander" 71 k_Exp_expandReference 5 3 := ⟨mw_Exp_expandReference, rb_inG 733 (by decide +kernel) rfl, rb_inG 735 (by decide +kernel) rfl, rb_inG 6 (by decide +kernel) rfl, by decide, by decide, _, rfl, rfl⟩
theorem d_Exp_expandText_0 : decode prog_4_method_8_code 0 = .ok (.iconst 0, 1) := by decide +kernel
theorem d_Exp_expandText_1 : decode prog_4_method_8_code 1 = .ok (.istore_n 3, 1) := by decide +kernel
theorem d_Exp_expandText_2 : decode prog_4_method_8_code 2 = .ok (.iload_n 3, 1) := by decide +kernel
theorem d_Exp_expandText_3 : decode prog_4_method_8_code 3 = .ok (.aload_n 1, 1) := by decide +kernel
theorem d_Exp_expandText_4 : decode prog_4_method_8_code 4 = .ok (.invokevirtual 62, 3) := by decide +kernel
theorem d_Exp_expandText_7 : decode prog_4_method_8_code 7 = .ok (.if_icmp .ge 77, 3) := by decide +kernel
theorem d_Exp_expandText_10 : decode prog_4_method_8_code 10 = .ok (.aload_n 1, 1) := by decide +kernel
theorem d_Exp_expandText_11 : decode prog_4_method_8_code 11 = .ok (.iload_n 3, 1) := by decide +kernel
theorem d_Exp_expandText_12 : decode prog_4_method_8_code 12 = .ok (.invokevirtual 68, 3) := by decide +kernel
theorem d_Exp_expandText_15 : decode prog_4_method_8_code 15 = .ok (.bipush 36, 2) := by decide +kernel
theorem d_Exp_expandText_17 : decode prog_4_method_8_code 17 = .ok (.if_icmp .ne 26, 3) := by decide +kernel
theorem d_Exp_expandText_20 : decode prog_4_method_8_code 20 = .ok (.aload_n 0, 1) := by decide +kernel
theorem d_Exp_expandText_21 : decode prog_4_method_8_code 21 = .ok (.aload_n 1, 1) := by decide +kernel
theorem d_Exp_expandText_22 : decode prog_4_method_8_code 22 = .ok (.iload_n 3, 1) := by decide +kernel
theorem d_Exp_expandText_23 : decode prog_4_method_8_code 23 = .ok (.iload_n 2, 1) := by decide +kernel
theorem d_Exp_expandText_24 : decode prog_4_method_8_code 24 = .ok (.invokevirtual 71, 3) := by decide +kernel
theorem d_Exp_expandText_27 : decode prog_4_method_8_code 27 = .ok (.istore 4, 2) := by decide +kernel
theorem d_Exp_expandText_29 : decode prog_4_method_8_code 29 = .ok (.iload 4, 2) := by decide +kernel
theorem d_Exp_expandText_31 : decode prog_4_method_8_code 31 = .ok (.iload_n 3, 1) := by decide +kernel
theorem d_Exp_expandText_32 : decode prog_4_method_8_code 32 = .ok (.if_icmp .ge 5, 3) := by decide +kernel
theorem d_Exp_expandText_35 : decode prog_4_method_8_code 35 = .ok (.iconst 0, 1) := by decide +kernel
theorem d_Exp_expandText_36 : decode prog_4_method_8_code 36 = .ok (.ireturn, 1) := by decide +kernel
theorem d_Exp_expandText_37 : decode prog_4_method_8_code 37 = .ok (.iload 4, 2) := by decide +kernel
theorem d_Exp_expandText_39 : decode prog_4_method_8_code 39 = .ok (.istore_n 3, 1) := by decide +kernel
theorem d_Exp_expandText_40 : decode prog_4_method_8_code 40 = .ok (.goto 20, 3) := by decide +kernel
theorem d_Exp_expandText_43 : decode prog_4_method_8_code 43 = .ok (.aload_n 0, 1) := by decide +kernel
theorem d_Exp_expandText_44 : decode prog_4_method_8_code 44 = .ok (.getfield 14, 3) := by decide +kernel
theorem d_Exp_expandText_47 : decode prog_4_method_8_code 47 = .ok (.aload_n 1, 1) := by decide +kernel
theorem d_Exp_expandText_48 : decode prog_4_method_8_code 48 = .ok (.iload_n 3, 1) := by decide +kernel
theorem d_Exp_expandText_49 : decode prog_4_method_8_code 49 = .ok (.invokevirtual 68, 3) := by decide +kernel
theorem d_Exp_expandText_52 : decode prog_4_method_8_code 52 = .ok (.invokevirtual 75, 3) := by decide +kernel
theorem d_Exp_expandText_55 : decode prog_4_method_8_code 55 = .ok (.ifCond .ne 5, 3) := by decide +kernel
theorem d_Exp_expandText_58 : decode prog_4_method_8_code 58 = .ok (.iconst 0, 1) := by decide +kernel
theorem d_Exp_expandText_59 : decode prog_4_method_8_code 59 = .ok (.ireturn, 1) := by decide +kernel
theorem d_Exp_expandText_60 : decode prog_4_method_8_code 60 = .ok (.aload_n 0, 1) := by decide +kernel
theorem d_Exp_expandText_61 : decode prog_4_method_8_code 61 = .ok (.aload_n 0, 1) := by decide +kernel
theorem d_Exp_expandText_62 : decode prog_4_method_8_code 62 = .ok (.getfield 78, 3) := by decide +kernel
theorem d_Exp_expandText_65 : decode prog_4_method_8_code 65 = .ok (.aload_n 0, 1) := by decide +kernel
theorem d_Exp_expandText_66 : decode prog_4_method_8_code 66 = .ok (.getfield 14, 3) := by decide +kernel
theorem d_Exp_expandText_69 : decode prog_4_method_8_code 69 = .ok (.invokevirtual 82, 3) := by decide +kernel
theorem d_Exp_expandText_72 : decode prog_4_method_8_code 72 = .ok (.invokestatic 83, 3) := by decide +kernel
theorem d_Exp_expandText_75 : decode prog_4_method_8_code 75 = .ok (.putfield 78, 3) := by decide +kernel
theorem d_Exp_expandText_78 : decode prog_4_method_8_code 78 = .ok (.iinc 3 1, 3) := by decide +kernel
theorem d_Exp_expandText_81 : decode prog_4_method_8_code 81 = .ok (.goto (-79), 3) := by decide +kernel
theorem d_Exp_expandText_84 : decode prog_4_method_8_code 84 = .ok (.iconst 1, 1) := by decide +kernel
theorem d_Exp_expandText_85 : decode prog_4_method_8_code 85 = .ok (.ireturn, 1) := by decide +kernel
noncomputable def f_Exp_expandText_j60 (rT : Option Nat → Option Nat → Int32 → rb_St → Option rb_Rs) (r0 : Option Nat) (r1 : Option Nat) (x2 : Int32) (x3 : Int32) (σ : rb_St) : Option ((Int32 × rb_St) ⊕ rb_Rs) :=
  (rb_gI σ r0 5 5).bind fun x_7 => (rb_gR σ r0 5 0).bind fun r_8 => (rb_fc σ r_8 2).bind fun _ => rb_cI (f_Text_length (r_8)  σ) fun x_9 σ_10 => (rb_pI σ_10 r0 5 5 (rb_mx x_7 x_9)).bind fun σ_11 => some (.inl ((x3 + 1), σ_11))
theorem t_Exp_expandText_j60 {E : rb_EV} {d : Nat} {σ0 : rb_St} {res : rb_Rs} {dT : Nat} {rT : Option Nat → Option Nat → Int32 → rb_St → Option rb_Rs} (hT : ∀ (r0 : Option Nat) (r1 : Option Nat) (x2 : Int32) (σ : rb_St), rb_Does E k_Exp_expandText dT [va_rf r0, va_rf r1, .int x2] σ (rT r0 r1 x2 σ)) (hdd : dT + 4 ≤ d ∧ 8 ≤ d)  (r0 : Option Nat) (r1 : Option Nat) (x2 : Int32) (x3 : Int32) (σ : rb_St) : rb_TC (f_Exp_expandText_j60 rT r0 r1 x2 x3 σ) (Sum.elim (fun z : (Int32 × rb_St) => rb_WK E k_Exp_expandText d σ0 res 2 [some (va_rf r0), some (va_rf r1), some (.int x2), some (.int z.1), none] [] z.2) (fun r => r = res)) (rb_WK E k_Exp_expandText d σ0 res 60 [some (va_rf r0), some (va_rf r1), some (.int x2), some (.int x3), none] [] σ) := by
  unfold f_Exp_expandText_j60
  refine rb_TC.mono (rk_aload_n 0 d_Exp_expandText_60 rfl rfl) ?_
  refine rb_TC.mono (rk_aload_n 0 d_Exp_expandText_61 rfl rfl) ?_
  refine rt_gI r0 fw_Exp_78 d_Exp_expandText_62 (fun x_7 => ?_)
  refine rb_TC.mono (rk_aload_n 0 d_Exp_expandText_65 rfl rfl) ?_
  refine rt_gR r0 fw_Exp_14 d_Exp_expandText_66 (fun r_8 => ?_)
  refine rt_vI (As := []) (st := [.int x_7, va_rf r0]) (r_8) vw_Exp_82 (s_Text_length (Nat.le_refl _) (r_8)  σ) (by omega) rfl (by simp [rb_cat_r, rb_cat_i, rb_cat_l]) d_Exp_expandText_69 (fun x_9 σ_10 => ?_)
  refine rb_TC.mono (rk_mmax w_mmax_Exp_83 (by omega) (by simp [rb_cat_r, rb_cat_i, rb_cat_l]) d_Exp_expandText_72) ?_
  refine rt_pI r0 fp_Exp_expandText_78 d_Exp_expandText_75 (fun σ_11 => ?_)
  refine rb_TC.mono (rk_iinc (lv2 := [some (va_rf r0), some (va_rf r1), some (.int x2), some (.int (x3 + 1)), none]) (x3 + 1) d_Exp_expandText_78 rfl rfl (by decide) (fun _ => rb_one_i) rfl) ?_
  refine rb_TC.mono (rk_goto 2 d_Exp_expandText_81 (by decide)) ?_
  exact rb_back
noncomputable def f_Exp_expandText_b2 (rT : Option Nat → Option Nat → Int32 → rb_St → Option rb_Rs) (r0 : Option Nat) (r1 : Option Nat) (x2 : Int32) (x3 : Int32) (σ : rb_St) : Option ((Int32 × rb_St) ⊕ rb_Rs) :=
  (rb_fc σ r1 14).bind fun _ => rb_cI (f_Str_length (r1)  σ) fun x_1 σ_2 => if x_1 ≤ x3 then ((some (some (.int (1 : Int32)), σ_2)).map Sum.inr) else ((rb_fc σ_2 r1 14).bind fun _ => rb_cI (f_Str_charAt (r1) (x3) σ_2) fun x_3 σ_4 => if x_3 = (36 : Int32) then ((rb_fc σ_4 r0 5).bind fun _ => rb_cI (f_Exp_expandReference rT (r0) (r1) (x3) (x2) σ_4) fun x_5 σ_6 => if x3 ≤ x_5 then (f_Exp_expandText_j60 rT (r0) (r1) (x2) (x_5) σ_6) else ((some (some (.int (0 : Int32)), σ_6)).map Sum.inr)) else ((rb_gR σ_4 r0 5 0).bind fun r_12 => (rb_fc σ_4 r1 14).bind fun _ => rb_cI (f_Str_charAt (r1) (x3) σ_4) fun x_13 σ_14 => (rb_fc σ_14 r_12 2).bind fun _ => rb_cI (f_Text_add (r_12) (x_13) σ_14) fun x_15 σ_16 => if x_15 = 0 then ((some (some (.int (0 : Int32)), σ_16)).map Sum.inr) else (f_Exp_expandText_j60 rT (r0) (r1) (x2) (x3) σ_16)))
theorem t_Exp_expandText_b2 {E : rb_EV} {d : Nat} {σ0 : rb_St} {res : rb_Rs} {dT : Nat} {rT : Option Nat → Option Nat → Int32 → rb_St → Option rb_Rs} (hT : ∀ (r0 : Option Nat) (r1 : Option Nat) (x2 : Int32) (σ : rb_St), rb_Does E k_Exp_expandText dT [va_rf r0, va_rf r1, .int x2] σ (rT r0 r1 x2 σ)) (hdd : dT + 4 ≤ d ∧ 8 ≤ d)  (r0 : Option Nat) (r1 : Option Nat) (x2 : Int32) (x3 : Int32) (σ : rb_St) : rb_TC (f_Exp_expandText_b2 rT r0 r1 x2 x3 σ) (Sum.elim (fun z : (Int32 × rb_St) => rb_WK E k_Exp_expandText d σ0 res 2 [some (va_rf r0), some (va_rf r1), some (.int x2), some (.int z.1), none] [] z.2) (fun r => r = res)) (rb_WK E k_Exp_expandText d σ0 res 2 [some (va_rf r0), some (va_rf r1), some (.int x2), some (.int x3), none] [] σ) := by
  unfold f_Exp_expandText_b2
  refine rb_TC.mono (rk_iload_n 3 d_Exp_expandText_2 rfl rfl) ?_
  refine rb_TC.mono (rk_aload_n 1 d_Exp_expandText_3 rfl rfl) ?_
  refine rt_vI (As := []) (st := [.int x3]) (r1) vw_Exp_62 (s_Str_length (Nat.le_refl _) (r1)  σ) (by omega) rfl (by simp [rb_cat_r, rb_cat_i, rb_cat_l]) d_Exp_expandText_4 (fun x_1 σ_2 => ?_)
  refine rt_icmp_ge 84 d_Exp_expandText_7 (by decide) (fun _ => ?_) (fun _ => ?_)
  · refine rb_TC.out ?_
    refine rb_TC.mono (rk_iconst (1 : Int32) d_Exp_expandText_84 (by decide)) ?_
    exact rt_iret (ty := .boolean) rfl (by decide) (fun h => h) d_Exp_expandText_85
  · refine rb_TC.mono (rk_aload_n 1 d_Exp_expandText_10 rfl rfl) ?_
    refine rb_TC.mono (rk_iload_n 3 d_Exp_expandText_11 rfl rfl) ?_
    refine rt_vI (As := [.int x3]) (st := []) (r1) vw_Exp_68 (s_Str_charAt (Nat.le_refl _) (r1) (x3) σ_2) (by omega) rfl (by simp [rb_cat_r, rb_cat_i, rb_cat_l]) d_Exp_expandText_12 (fun x_3 σ_4 => ?_)
    refine rb_TC.mono (rk_bipush (36 : Int32) d_Exp_expandText_15 (by decide)) ?_
    refine rt_icmp_ne 43 d_Exp_expandText_17 (by decide) (fun _ => ?_) (fun _ => ?_)
    · refine rb_TC.mono (rk_aload_n 0 d_Exp_expandText_20 rfl rfl) ?_
      refine rb_TC.mono (rk_aload_n 1 d_Exp_expandText_21 rfl rfl) ?_
      refine rb_TC.mono (rk_iload_n 3 d_Exp_expandText_22 rfl rfl) ?_
      refine rb_TC.mono (rk_iload_n 2 d_Exp_expandText_23 rfl rfl) ?_
      refine rt_vI (As := [va_rf r1, .int x3, .int x2]) (st := []) (r0) vw_Exp_71 (s_Exp_expandReference hT (d := d - 1) (by omega) (r0) (r1) (x3) (x2) σ_4) (by omega) rfl (by simp [rb_cat_r, rb_cat_i, rb_cat_l]) d_Exp_expandText_24 (fun x_5 σ_6 => ?_)
      refine rb_TC.mono (rk_istore (lv2 := [some (va_rf r0), some (va_rf r1), some (.int x2), some (.int x3), some (.int x_5)]) d_Exp_expandText_27 (by decide) (fun _ => rb_one_i) rfl) ?_
      refine rb_TC.mono (rk_iload d_Exp_expandText_29 rfl) ?_
      refine rb_TC.mono (rk_iload_n 3 d_Exp_expandText_31 rfl rfl) ?_
      refine rt_icmp_ge 37 d_Exp_expandText_32 (by decide) (fun _ => ?_) (fun _ => ?_)
      · refine rb_TC.mono (rk_iload d_Exp_expandText_37 rfl) ?_
        refine rb_TC.mono (rk_istore_n (lv2 := [some (va_rf r0), some (va_rf r1), some (.int x2), some (.int x_5), some (.int x_5)]) 3 d_Exp_expandText_39 rfl (by decide) (fun _ => rb_one_i) rfl) ?_
        refine rb_TC.mono (rk_goto 60 d_Exp_expandText_40 (by decide)) ?_
        refine rb_TC.mono (rk_less (lv2 := [some (va_rf r0), some (va_rf r1), some (.int x2), some (.int x_5), none]) (rb_le_ok (rb_leS (rb_leS (rb_leS (rb_leS (rb_leN rb_le0))))))) ?_
        exact t_Exp_expandText_j60 hT hdd  (r0) (r1) (x2) (x_5) σ_6
      · refine rb_TC.out ?_
        refine rb_TC.mono (rk_iconst (0 : Int32) d_Exp_expandText_35 (by decide)) ?_
        exact rt_iret (ty := .boolean) rfl (by decide) (fun h => h) d_Exp_expandText_36
    · refine rb_TC.mono (rk_aload_n 0 d_Exp_expandText_43 rfl rfl) ?_
      refine rt_gR r0 fw_Exp_14 d_Exp_expandText_44 (fun r_12 => ?_)
      refine rb_TC.mono (rk_aload_n 1 d_Exp_expandText_47 rfl rfl) ?_
      refine rb_TC.mono (rk_iload_n 3 d_Exp_expandText_48 rfl rfl) ?_
      refine rt_vI (As := [.int x3]) (st := [va_rf r_12]) (r1) vw_Exp_68 (s_Str_charAt (Nat.le_refl _) (r1) (x3) σ_4) (by omega) rfl (by simp [rb_cat_r, rb_cat_i, rb_cat_l]) d_Exp_expandText_49 (fun x_13 σ_14 => ?_)
      refine rt_vI (As := [.int x_13]) (st := []) (r_12) vw_Exp_75 (s_Text_add (Nat.le_refl _) (r_12) (x_13) σ_14) (by omega) rfl (by simp [rb_cat_r, rb_cat_i, rb_cat_l]) d_Exp_expandText_52 (fun x_15 σ_16 => ?_)
      refine rt_if_ne 60 d_Exp_expandText_55 (by decide) (fun _ => ?_) (fun _ => ?_)
      · refine rb_TC.out ?_
        refine rb_TC.mono (rk_iconst (0 : Int32) d_Exp_expandText_58 (by decide)) ?_
        exact rt_iret (ty := .boolean) rfl (by decide) (fun h => h) d_Exp_expandText_59
      · exact t_Exp_expandText_j60 hT hdd  (r0) (r1) (x2) (x3) σ_16
noncomputable def f_Exp_expandText_F (rT : Option Nat → Option Nat → Int32 → rb_St → Option rb_Rs) (r0 : Option Nat) (r1 : Option Nat) (x2 : Int32) (σ : rb_St) : Option rb_Rs :=
  rb_it (fun z : (Int32 × rb_St) => f_Exp_expandText_b2 rT (r0) (r1) (x2) (z.1) z.2) ((0 : Int32), σ)
theorem s_Exp_expandText_F {E : rb_EV} {d : Nat} {dT : Nat} {rT : Option Nat → Option Nat → Int32 → rb_St → Option rb_Rs} (hT : ∀ (r0 : Option Nat) (r1 : Option Nat) (x2 : Int32) (σ : rb_St), rb_Does E k_Exp_expandText dT [va_rf r0, va_rf r1, .int x2] σ (rT r0 r1 x2 σ)) (hdd : dT + 4 ≤ d ∧ 8 ≤ d) (r0 : Option Nat) (r1 : Option Nat) (x2 : Int32) (σ : rb_St) : rb_Does E k_Exp_expandText d [va_rf r0, va_rf r1, .int x2] σ (f_Exp_expandText_F rT r0 r1 x2 σ) := by
  refine rb_start (lv := [some (va_rf r0), some (va_rf r1), some (.int x2), none, none]) (by decide) (by simp [lg_sl, rb_as, lv_args, rb_cat_r, rb_cat_i, rb_cat_l, rb_nL, k_Exp_expandText]) (fun res => ?_)
  unfold f_Exp_expandText_F
  refine rb_TC.mono (rk_iconst (0 : Int32) d_Exp_expandText_0 (by decide)) ?_
  refine rb_TC.mono (rk_istore_n (lv2 := [some (va_rf r0), some (va_rf r1), some (.int x2), some (.int (0 : Int32)), none]) 3 d_Exp_expandText_1 rfl (by decide) (fun _ => rb_one_i) rfl) ?_
  exact rb_TC.loop2 (A := (fun z : (Int32 × rb_St) => rb_WK E k_Exp_expandText d σ res 2 [some (va_rf r0), some (va_rf r1), some (.int x2), some (.int z.1), none] [] z.2)) ((0 : Int32), σ) (fun z => t_Exp_expandText_b2 hT hdd  (r0) (r1) (x2) (z.1) z.2)
noncomputable def f_Exp_expandText_N : Nat → Option Nat → Option Nat → Int32 → rb_St → Option rb_Rs
  | 0 => fun _ _ _ _ => none
  | n + 1 => f_Exp_expandText_F (f_Exp_expandText_N n)
theorem s_Exp_expandText_N {E : rb_EV} : ∀ (n d : Nat), 8 + 4 * n ≤ d → ∀ (r0 : Option Nat) (r1 : Option Nat) (x2 : Int32) (σ : rb_St), rb_Does E k_Exp_expandText d [va_rf r0, va_rf r1, .int x2] σ (f_Exp_expandText_N n r0 r1 x2 σ)
  | 0, d, _, r0, r1, x2, σ => fun res h => by cases h
  | n + 1, d, h, r0, r1, x2, σ => s_Exp_expandText_F (dT := 8 + 4 * n) (fun r0 r1 x2 σ => s_Exp_expandText_N n _ (Nat.le_refl _) r0 r1 x2 σ) ⟨by omega, by omega⟩ r0 r1 x2 σ
noncomputable def f_Exp_expandText (r0 : Option Nat) (r1 : Option Nat) (x2 : Int32) (σ : rb_St) : Option rb_Rs := f_Exp_expandText_N 8 r0 r1 x2 σ
theorem s_Exp_expandText {E : rb_EV} {d : Nat} (hdd : 40 ≤ d) (r0 : Option Nat) (r1 : Option Nat) (x2 : Int32) (σ : rb_St) : rb_Does E k_Exp_expandText d [va_rf r0, va_rf r1, .int x2] σ (f_Exp_expandText r0 r1 x2 σ) := s_Exp_expandText_N 8 d hdd r0 r1 x2 σ
