-- ===== RuleBuilder$Builder.<init>(LRuleBuilder$Store;LRuleBuilder$Rules;LRuleBuilder$Expander;LRuleBuilder$Shell;)V
def k_Bld_init : rb_MK := (⟨"RuleBuilder$Builder", "<init>", "(LRuleBuilder$Store;LRuleBuilder$Rules;LRuleBuilder$Expander;LRuleBuilder$Shell;)V"⟩, prog_2_method_1_code, 5, none)
theorem mw_Bld_init : rb_Mw k_Bld_init 4 := ⟨rb_inG 332 (by decide +kernel) rfl, rb_inG 93 (by decide +kernel) rfl, ⟨by decide, by decide, by decide +kernel⟩, by decide⟩
theorem fw_Bld_16 : rb_Fw "RuleBuilder$Builder" 16 9 4 := ⟨_, rfl, by decide, by decide, by decide, rfl, rb_inG 340 (by decide +kernel) rfl⟩
theorem fp_Bld_init_16 : rb_Fp k_Bld_init 16 9 4 (.object "RuleBuilder$Text") ∧ ((∃ n, (.object "RuleBuilder$Text" : FieldType) = .object n) ∨ ∃ t, (.object "RuleBuilder$Text" : FieldType) = .array t) := ⟨⟨fw_Bld_16, rfl, fun q h => by cases h; exact Or.inr ⟨rfl, rfl, rfl⟩⟩, Or.inl ⟨_, rfl⟩⟩
theorem fw_Bld_22 : rb_Fw "RuleBuilder$Builder" 22 9 0 := ⟨_, rfl, by decide, by decide, by decide, rfl, rb_inG 336 (by decide +kernel) rfl⟩
theorem fp_Bld_init_22 : rb_Fp k_Bld_init 22 9 0 (.object "RuleBuilder$Store") ∧ ((∃ n, (.object "RuleBuilder$Store" : FieldType) = .object n) ∨ ∃ t, (.object "RuleBuilder$Store" : FieldType) = .array t) := ⟨⟨fw_Bld_22, rfl, fun q h => by cases h; exact Or.inr ⟨rfl, rfl, rfl⟩⟩, Or.inl ⟨_, rfl⟩⟩
theorem fw_Bld_26 : rb_Fw "RuleBuilder$Builder" 26 9 1 := ⟨_, rfl, by decide, by decide, by decide, rfl, rb_inG 337 (by decide +kernel) rfl⟩
theorem fp_Bld_init_26 : rb_Fp k_Bld_init 26 9 1 (.object "RuleBuilder$Rules") ∧ ((∃ n, (.object "RuleBuilder$Rules" : FieldType) = .object n) ∨ ∃ t, (.object "RuleBuilder$Rules" : FieldType) = .array t) := ⟨⟨fw_Bld_26, rfl, fun q h => by cases h; exact Or.inr ⟨rfl, rfl, rfl⟩⟩, Or.inl ⟨_, rfl⟩⟩
theorem fw_Bld_30 : rb_Fw "RuleBuilder$Builder" 30 9 2 := ⟨_, rfl, by decide, by decide, by decide, rfl, rb_inG 338 (by decide +kernel) rfl⟩
theorem fp_Bld_init_30 : rb_Fp k_Bld_init 30 9 2 (.object "RuleBuilder$Expander") ∧ ((∃ n, (.object "RuleBuilder$Expander" : FieldType) = .object n) ∨ ∃ t, (.object "RuleBuilder$Expander" : FieldType) = .array t) := ⟨⟨fw_Bld_30, rfl, fun q h => by cases h; exact Or.inr ⟨rfl, rfl, rfl⟩⟩, Or.inl ⟨_, rfl⟩⟩
theorem fw_Bld_34 : rb_Fw "RuleBuilder$Builder" 34 9 3 := ⟨_, rfl, by decide, by decide, by decide, rfl, rb_inG 339 (by decide +kernel) rfl⟩
theorem fp_Bld_init_34 : rb_Fp k_Bld_init 34 9 3 (.object "RuleBuilder$Shell") ∧ ((∃ n, (.object "RuleBuilder$Shell" : FieldType) = .object n) ∨ ∃ t, (.object "RuleBuilder$Shell" : FieldType) = .array t) := ⟨⟨fw_Bld_34, rfl, fun q h => by cases h; exact Or.inr ⟨rfl, rfl, rfl⟩⟩, Or.inl ⟨_, rfl⟩⟩
theorem iw_Bld_13 : rb_Iw "RuleBuilder$Builder" 13 k_Text_init 1 := ⟨mw_Text_init, rfl, rfl, rb_inG 116 (by decide +kernel) rfl, Or.inl (rb_inG 335 (by decide +kernel) rfl)⟩
theorem w_ml_Bld_3 : Cond.methodLink "RuleBuilder$Builder" 3 Lib.objectInit ∈ rb_G := rb_inG 333 (by decide +kernel) rfl
theorem ow_Bld_9 : rb_Ow "RuleBuilder$Builder" 9 2 := ⟨_, rfl, by decide, by decide, rb_inG 334 (by decide +kernel) rfl, rb_ins2, rb_ini2, rfl, by decide⟩
theorem d_Bld_init_0 : decode prog_2_method_1_code 0 = .ok (.aload_n 0, 1) := by decide +kernel
theorem d_Bld_init_1 : decode prog_2_method_1_code 1 = .ok (.invokespecial 3, 3) := by decide +kernel
theorem d_Bld_init_4 : decode prog_2_method_1_code 4 = .ok (.aload_n 0, 1) := by decide +kernel
theorem d_Bld_init_5 : decode prog_2_method_1_code 5 = .ok (.new 9, 3) := by decide +kernel
theorem d_Bld_init_8 : decode prog_2_method_1_code 8 = .ok (.dup, 1) := by decide +kernel
theorem d_Bld_init_9 : decode prog_2_method_1_code 9 = .ok (.bipush 16, 2) := by decide +kernel
theorem d_Bld_init_11 : decode prog_2_method_1_code 11 = .ok (.invokespecial 13, 3) := by decide +kernel
theorem d_Bld_init_14 : decode prog_2_method_1_code 14 = .ok (.putfield 16, 3) := by decide +kernel
theorem d_Bld_init_17 : decode prog_2_method_1_code 17 = .ok (.aload_n 0, 1) := by decide +kernel
theorem d_Bld_init_18 : decode prog_2_method_1_code 18 = .ok (.aload_n 1, 1) := by decide +kernel
theorem d_Bld_init_19 : decode prog_2_method_1_code 19 = .ok (.putfield 22, 3) := by decide +kernel
theorem d_Bld_init_22 : decode prog_2_method_1_code 22 = .ok (.aload_n 0, 1) := by decide +kernel
theorem d_Bld_init_23 : decode prog_2_method_1_code 23 = .ok (.aload_n 2, 1) := by decide +kernel
theorem d_Bld_init_24 : decode prog_2_method_1_code 24 = .ok (.putfield 26, 3) := by decide +kernel
theorem d_Bld_init_27 : decode prog_2_method_1_code 27 = .ok (.aload_n 0, 1) := by decide +kernel
theorem d_Bld_init_28 : decode prog_2_method_1_code 28 = .ok (.aload_n 3, 1) := by decide +kernel
theorem d_Bld_init_29 : decode prog_2_method_1_code 29 = .ok (.putfield 30, 3) := by decide +kernel
theorem d_Bld_init_32 : decode prog_2_method_1_code 32 = .ok (.aload_n 0, 1) := by decide +kernel
theorem d_Bld_init_33 : decode prog_2_method_1_code 33 = .ok (.aload 4, 2) := by decide +kernel
theorem d_Bld_init_35 : decode prog_2_method_1_code 35 = .ok (.putfield 34, 3) := by decide +kernel
theorem d_Bld_init_38 : decode prog_2_method_1_code 38 = .ok (.return_, 1) := by decide +kernel
noncomputable def f_Bld_init (a0 : Nat) (r1 : Option Nat) (r2 : Option Nat) (r3 : Option Nat) (r4 : Option Nat) (σ : rb_St) : Option rb_Rs :=
  rb_cV (f_Text_init ((rb_n σ)) ((16 : Int32)) (rb_nO σ 2)) fun σ_1 => (rb_pR σ_1 (some a0) 9 4 (some (rb_n σ))).bind fun σ_2 => (rb_pR σ_2 (some a0) 9 0 r1).bind fun σ_3 => (rb_pR σ_3 (some a0) 9 1 r2).bind fun σ_4 => (rb_pR σ_4 (some a0) 9 2 r3).bind fun σ_5 => (rb_pR σ_5 (some a0) 9 3 r4).bind fun σ_6 => some (none, σ_6)
theorem s_Bld_init {E : rb_EV} {d : Nat} (hdd : 2 ≤ d) (a0 : Nat) (r1 : Option Nat) (r2 : Option Nat) (r3 : Option Nat) (r4 : Option Nat) (σ : rb_St) : rb_Does E k_Bld_init d [va_rf (some a0), va_rf r1, va_rf r2, va_rf r3, va_rf r4] σ (f_Bld_init a0 r1 r2 r3 r4 σ) := by
  refine rb_start (lv := [some (va_rf (some a0)), some (va_rf r1), some (va_rf r2), some (va_rf r3), some (va_rf r4)]) (by decide) (by simp [lg_sl, rb_as, lv_args, rb_cat_r, rb_cat_i, rb_cat_l, rb_nL, k_Bld_init]) (fun res => ?_)
  unfold f_Bld_init
  refine rb_TC.mono (rk_aload_n 0 d_Bld_init_0 rfl rfl) ?_
  refine rb_TC.mono (rk_objInit w_ml_Bld_3 w_oi w_oc (Nat.le_trans (by decide) hdd) (by simp [rb_cat_r, rb_cat_i, rb_cat_l]) d_Bld_init_1 rfl) ?_
  refine rb_TC.mono (rk_aload_n 0 d_Bld_init_4 rfl rfl) ?_
  refine rb_TC.mono (rk_new ow_Bld_9 d_Bld_init_5) ?_
  refine rb_TC.mono (rk_dupr d_Bld_init_8) ?_
  refine rb_TC.mono (rk_bipush (16 : Int32) d_Bld_init_9 (by decide)) ?_
  refine rt_i (As := [.int (16 : Int32)]) (st := [va_rf (some (rb_n σ)), va_rf (some a0)]) iw_Bld_13 (s_Text_init (Nat.le_refl _) ((rb_n σ)) ((16 : Int32)) (rb_nO σ 2)) (Nat.le_trans (by decide) hdd) rfl (by simp [rb_cat_r, rb_cat_i, rb_cat_l]) d_Bld_init_11 (fun σ_1 => ?_)
  refine rt_pR (some a0) fp_Bld_init_16 d_Bld_init_14 (fun σ_2 => ?_)
  refine rb_TC.mono (rk_aload_n 0 d_Bld_init_17 rfl rfl) ?_
  refine rb_TC.mono (rk_aload_n 1 d_Bld_init_18 rfl rfl) ?_
  refine rt_pR (some a0) fp_Bld_init_22 d_Bld_init_19 (fun σ_3 => ?_)
  refine rb_TC.mono (rk_aload_n 0 d_Bld_init_22 rfl rfl) ?_
  refine rb_TC.mono (rk_aload_n 2 d_Bld_init_23 rfl rfl) ?_
  refine rt_pR (some a0) fp_Bld_init_26 d_Bld_init_24 (fun σ_4 => ?_)
  refine rb_TC.mono (rk_aload_n 0 d_Bld_init_27 rfl rfl) ?_
  refine rb_TC.mono (rk_aload_n 3 d_Bld_init_28 rfl rfl) ?_
  refine rt_pR (some a0) fp_Bld_init_30 d_Bld_init_29 (fun σ_5 => ?_)
  refine rb_TC.mono (rk_aload_n 0 d_Bld_init_32 rfl rfl) ?_
  refine rb_TC.mono (rk_aload d_Bld_init_33 rfl) ?_
  refine rt_pR (some a0) fp_Bld_init_34 d_Bld_init_35 (fun σ_6 => ?_)
  exact rt_vret rfl (fun h => h) d_Bld_init_38
-- ===== RuleBuilder$Builder.begin(I)V
def k_Bld_begin : rb_MK := (⟨"RuleBuilder$Builder", "begin", "(I)V"⟩, prog_2_method_2_code, 2, none)
theorem mw_Bld_begin : rb_Mw k_Bld_begin 1 := ⟨rb_inG 1021 (by decide +kernel) rfl, rb_inG 93 (by decide +kernel) rfl, ⟨by decide, by decide, by decide +kernel⟩, by decide⟩
theorem fw_Bld_38 : rb_Fw "RuleBuilder$Builder" 38 9 5 := ⟨_, rfl, by decide, by decide, by decide, rfl, rb_inG 341 (by decide +kernel) rfl⟩
theorem fp_Bld_begin_38 : rb_Fp k_Bld_begin 38 9 5 .int := ⟨fw_Bld_38, rfl, fun q h => by cases h; exact Or.inl rfl⟩
theorem fw_Bld_42 : rb_Fw "RuleBuilder$Builder" 42 9 6 := ⟨_, rfl, by decide, by decide, by decide, rfl, rb_inG 342 (by decide +kernel) rfl⟩
theorem fp_Bld_begin_42 : rb_Fp k_Bld_begin 42 9 6 .boolean := ⟨fw_Bld_42, rfl, fun q h => by cases h; exact Or.inl rfl⟩
theorem fw_Bld_46 : rb_Fw "RuleBuilder$Builder" 46 9 7 := ⟨_, rfl, by decide, by decide, by decide, rfl, rb_inG 343 (by decide +kernel) rfl⟩
theorem fp_Bld_begin_46 : rb_Fp k_Bld_begin 46 9 7 .int := ⟨fw_Bld_46, rfl, fun q h => by cases h; exact Or.inl rfl⟩
theorem fw_Bld_49 : rb_Fw "RuleBuilder$Builder" 49 7 0 := ⟨_, rfl, by decide, by decide, by decide, rfl, rb_inG 284 (by decide +kernel) rfl⟩
theorem vw_Bld_54 : rb_Vw "RuleBuilder$Builder" 54 k_Text_clear 2 0 := ⟨mw_Text_clear, rb_inG 1022 (by decide +kernel) rfl, rb_inG 400 (by decide +kernel) rfl, rb_inG 401 (by decide +kernel) rfl, by decide, by decide, _, rfl, rfl⟩
theorem vw_Bld_57 : rb_Vw "RuleBuilder$Builder" 57 k_Store_forgetFates 3 0 := ⟨mw_Store_forgetFates, rb_inG 1023 (by decide +kernel) rfl, rb_inG 1024 (by decide +kernel) rfl, rb_inG 1025 (by decide +kernel) rfl, by decide, by decide, _, rfl, rfl⟩
theorem d_Bld_begin_0 : decode prog_2_method_2_code 0 = .ok (.aload_n 0, 1) := by decide +kernel
theorem d_Bld_begin_1 : decode prog_2_method_2_code 1 = .ok (.iload_n 1, 1) := by decide +kernel
theorem d_Bld_begin_2 : decode prog_2_method_2_code 2 = .ok (.putfield 38, 3) := by decide +kernel
theorem d_Bld_begin_5 : decode prog_2_method_2_code 5 = .ok (.aload_n 0, 1) := by decide +kernel
theorem d_Bld_begin_6 : decode prog_2_method_2_code 6 = .ok (.iconst 0, 1) := by decide +kernel
theorem d_Bld_begin_7 : decode prog_2_method_2_code 7 = .ok (.putfield 42, 3) := by decide +kernel
theorem d_Bld_begin_10 : decode prog_2_method_2_code 10 = .ok (.aload_n 0, 1) := by decide +kernel
theorem d_Bld_begin_11 : decode prog_2_method_2_code 11 = .ok (.iconst 0, 1) := by decide +kernel
theorem d_Bld_begin_12 : decode prog_2_method_2_code 12 = .ok (.putfield 46, 3) := by decide +kernel
theorem d_Bld_begin_15 : decode prog_2_method_2_code 15 = .ok (.aload_n 0, 1) := by decide +kernel
theorem d_Bld_begin_16 : decode prog_2_method_2_code 16 = .ok (.getfield 34, 3) := by decide +kernel
theorem d_Bld_begin_19 : decode prog_2_method_2_code 19 = .ok (.getfield 49, 3) := by decide +kernel
theorem d_Bld_begin_22 : decode prog_2_method_2_code 22 = .ok (.invokevirtual 54, 3) := by decide +kernel
theorem d_Bld_begin_25 : decode prog_2_method_2_code 25 = .ok (.aload_n 0, 1) := by decide +kernel
theorem d_Bld_begin_26 : decode prog_2_method_2_code 26 = .ok (.getfield 22, 3) := by decide +kernel
theorem d_Bld_begin_29 : decode prog_2_method_2_code 29 = .ok (.invokevirtual 57, 3) := by decide +kernel
theorem d_Bld_begin_32 : decode prog_2_method_2_code 32 = .ok (.return_, 1) := by decide +kernel
noncomputable def f_Bld_begin (r0 : Option Nat) (x1 : Int32) (σ : rb_St) : Option rb_Rs :=
  (rb_pI σ r0 9 5 x1).bind fun σ_1 => (rb_pZ σ_1 r0 9 6 (0 : Int32)).bind fun σ_2 => (rb_pI σ_2 r0 9 7 (0 : Int32)).bind fun σ_3 => (rb_gR σ_3 r0 9 3).bind fun r_4 => (rb_gR σ_3 r_4 7 0).bind fun r_5 => (rb_fc σ_3 r_5 2).bind fun _ => rb_cV (f_Text_clear (r_5)  σ_3) fun σ_6 => (rb_gR σ_6 r0 9 0).bind fun r_7 => (rb_fc σ_6 r_7 3).bind fun _ => rb_cV (f_Store_forgetFates (r_7)  σ_6) fun σ_8 => some (none, σ_8)
theorem s_Bld_begin {E : rb_EV} {d : Nat} (hdd : 1 ≤ d) (r0 : Option Nat) (x1 : Int32) (σ : rb_St) : rb_Does E k_Bld_begin d [va_rf r0, .int x1] σ (f_Bld_begin r0 x1 σ) := by
  refine rb_start (lv := [some (va_rf r0), some (.int x1)]) (by decide) (by simp [lg_sl, rb_as, lv_args, rb_cat_r, rb_cat_i, rb_cat_l, rb_nL, k_Bld_begin]) (fun res => ?_)
  unfold f_Bld_begin
  refine rb_TC.mono (rk_aload_n 0 d_Bld_begin_0 rfl rfl) ?_
  refine rb_TC.mono (rk_iload_n 1 d_Bld_begin_1 rfl rfl) ?_
  refine rt_pI r0 fp_Bld_begin_38 d_Bld_begin_2 (fun σ_1 => ?_)
  refine rb_TC.mono (rk_aload_n 0 d_Bld_begin_5 rfl rfl) ?_
  refine rb_TC.mono (rk_iconst (0 : Int32) d_Bld_begin_6 (by decide)) ?_
  refine rt_pZ r0 fp_Bld_begin_42 d_Bld_begin_7 (fun σ_2 => ?_)
  refine rb_TC.mono (rk_aload_n 0 d_Bld_begin_10 rfl rfl) ?_
  refine rb_TC.mono (rk_iconst (0 : Int32) d_Bld_begin_11 (by decide)) ?_
  refine rt_pI r0 fp_Bld_begin_46 d_Bld_begin_12 (fun σ_3 => ?_)
  refine rb_TC.mono (rk_aload_n 0 d_Bld_begin_15 rfl rfl) ?_
  refine rt_gR r0 fw_Bld_34 d_Bld_begin_16 (fun r_4 => ?_)
  refine rt_gR r_4 fw_Bld_49 d_Bld_begin_19 (fun r_5 => ?_)
  refine rt_vV (As := []) (st := []) (r_5) vw_Bld_54 (s_Text_clear (Nat.le_refl _) (r_5)  σ_3) (Nat.le_trans (by decide) hdd) rfl (by simp [rb_cat_r, rb_cat_i, rb_cat_l]) d_Bld_begin_22 (fun σ_6 => ?_)
  refine rb_TC.mono (rk_aload_n 0 d_Bld_begin_25 rfl rfl) ?_
  refine rt_gR r0 fw_Bld_22 d_Bld_begin_26 (fun r_7 => ?_)
  refine rt_vV (As := []) (st := []) (r_7) vw_Bld_57 (s_Store_forgetFates (Nat.le_refl _) (r_7)  σ_6) (Nat.le_trans (by decide) hdd) rfl (by simp [rb_cat_r, rb_cat_i, rb_cat_l]) d_Bld_begin_29 (fun σ_8 => ?_)
  exact rt_vret rfl (fun h => h) d_Bld_begin_32
-- ===== RuleBuilder$Builder.findSource(LRuleBuilder$Name;ILjava/lang/String;)Z
def k_Bld_findSource : rb_MK := (⟨"RuleBuilder$Builder", "findSource", "(LRuleBuilder$Name;ILjava/lang/String;)Z"⟩, prog_2_method_10_code, 8, some (.boolean))
theorem mw_Bld_findSource : rb_Mw k_Bld_findSource 3 := ⟨rb_inG 1053 (by decide +kernel) rfl, rb_inG 93 (by decide +kernel) rfl, ⟨by decide, by decide, by decide +kernel⟩, by decide⟩
theorem fw_Bld_108 : rb_Fw "RuleBuilder$Builder" 108 12 14 := ⟨_, rfl, by decide, by decide, by decide, rfl, rb_inG 920 (by decide +kernel) rfl⟩
theorem fp_Bld_findSource_108 : rb_Fp k_Bld_findSource 108 12 14 (.object "RuleBuilder$Name") ∧ ((∃ n, (.object "RuleBuilder$Name" : FieldType) = .object n) ∨ ∃ t, (.object "RuleBuilder$Name" : FieldType) = .array t) := ⟨⟨fw_Bld_108, rfl, fun q h => by cases h; exact Or.inl rfl⟩, Or.inl ⟨_, rfl⟩⟩
theorem fw_Bld_188 : rb_Fw "RuleBuilder$Builder" 188 12 15 := ⟨_, rfl, by decide, by decide, by decide, rfl, rb_inG 922 (by decide +kernel) rfl⟩
theorem fp_Bld_findSource_188 : rb_Fp k_Bld_findSource 188 12 15 .int := ⟨fw_Bld_188, rfl, fun q h => by cases h; exact Or.inl rfl⟩
theorem fw_Bld_97 : rb_Fw "RuleBuilder$Builder" 97 12 12 := ⟨_, rfl, by decide, by decide, by decide, rfl, rb_inG 917 (by decide +kernel) rfl⟩
theorem fp_Bld_findSource_97 : rb_Fp k_Bld_findSource 97 12 12 .int := ⟨fw_Bld_97, rfl, fun q h => by cases h; exact Or.inl rfl⟩
theorem fw_Bld_134 : rb_Fw "RuleBuilder$Builder" 134 12 4 := ⟨_, rfl, by decide, by decide, by decide, rfl, rb_inG 895 (by decide +kernel) rfl⟩
theorem fw_Bld_144 : rb_Fw "RuleBuilder$Builder" 144 12 1 := ⟨_, rfl, by decide, by decide, by decide, rfl, rb_inG 882 (by decide +kernel) rfl⟩
theorem fw_Bld_153 : rb_Fw "RuleBuilder$Builder" 153 4 1 := ⟨_, rfl, by decide, by decide, by decide, rfl, rb_inG 159 (by decide +kernel) rfl⟩
theorem fw_Bld_156 : rb_Fw "RuleBuilder$Builder" 156 4 0 := ⟨_, rfl, by decide, by decide, by decide, rfl, rb_inG 157 (by decide +kernel) rfl⟩
theorem fw_Bld_160 : rb_Fw "RuleBuilder$Builder" 160 10 0 := ⟨_, rfl, by decide, by decide, by decide, rfl, rb_inG 518 (by decide +kernel) rfl⟩
theorem vw_Bld_137 : rb_Vw "RuleBuilder$Builder" 137 k_Name_isFile 12 0 := ⟨mw_Name_isFile, rb_inG 1061 (by decide +kernel) rfl, rb_inG 1007 (by decide +kernel) rfl, rb_inG 1008 (by decide +kernel) rfl, by decide, by decide, _, rfl, rfl⟩
theorem vw_Bld_148 : rb_Vw "RuleBuilder$Builder" 148 k_Str_length 14 0 := ⟨mw_Str_length, rb_inG 1043 (by decide +kernel) rfl, rb_inG 590 (by decide +kernel) rfl, rb_inG 591 (by decide +kernel) rfl, by decide, by decide, _, rfl, rfl⟩
theorem vw_Bld_175 : rb_Vw "RuleBuilder$Builder" 175 k_Rules_commandsOfEnding 4 2 := ⟨mw_Rules_commandsOfEnding, rb_inG 1054 (by decide +kernel) rfl, rb_inG 1055 (by decide +kernel) rfl, rb_inG 1056 (by decide +kernel) rfl, by decide, by decide, _, rfl, rfl⟩
theorem vw_Bld_179 : rb_Vw "RuleBuilder$Builder" 179 k_Text_addPart 2 3 := ⟨mw_Text_addPart, rb_inG 1058 (by decide +kernel) rfl, rb_inG 777 (by decide +kernel) rfl, rb_inG 778 (by decide +kernel) rfl, by decide, by decide, _, rfl, rfl⟩
theorem vw_Bld_183 : rb_Vw "RuleBuilder$Builder" 183 k_Text_length 2 0 := ⟨mw_Text_length, rb_inG 1059 (by decide +kernel) rfl, rb_inG 408 (by decide +kernel) rfl, rb_inG 409 (by decide +kernel) rfl, by decide, by decide, _, rfl, rfl⟩
theorem vw_Bld_184 : rb_Vw "RuleBuilder$Builder" 184 k_Store_find 3 3 := ⟨mw_Store_find, rb_inG 1060 (by decide +kernel) rfl, rb_inG 866 (by decide +kernel) rfl, rb_inG 867 (by decide +kernel) rfl, by decide, by decide, _, rfl, rfl⟩
theorem d_Bld_findSource_0 : decode prog_2_method_10_code 0 = .ok (.iconst 0, 1) := by decide +kernel
theorem d_Bld_findSource_1 : decode prog_2_method_10_code 1 = .ok (.istore 4, 2) := by decide +kernel
theorem d_Bld_findSource_3 : decode prog_2_method_10_code 3 = .ok (.iload 4, 2) := by decide +kernel
theorem d_Bld_findSource_5 : decode prog_2_method_10_code 5 = .ok (.aload_n 0, 1) := by decide +kernel
theorem d_Bld_findSource_6 : decode prog_2_method_10_code 6 = .ok (.getfield 26, 3) := by decide +kernel
theorem d_Bld_findSource_9 : decode prog_2_method_10_code 9 = .ok (.getfield 153, 3) := by decide +kernel
theorem d_Bld_findSource_12 : decode prog_2_method_10_code 12 = .ok (.if_icmp .ge 143, 3) := by decide +kernel
theorem d_Bld_findSource_15 : decode prog_2_method_10_code 15 = .ok (.aload_n 0, 1) := by decide +kernel
theorem d_Bld_findSource_16 : decode prog_2_method_10_code 16 = .ok (.getfield 26, 3) := by decide +kernel
theorem d_Bld_findSource_19 : decode prog_2_method_10_code 19 = .ok (.getfield 156, 3) := by decide +kernel
theorem d_Bld_findSource_22 : decode prog_2_method_10_code 22 = .ok (.iload 4, 2) := by decide +kernel
theorem d_Bld_findSource_24 : decode prog_2_method_10_code 24 = .ok (.aaload, 1) := by decide +kernel
theorem d_Bld_findSource_25 : decode prog_2_method_10_code 25 = .ok (.getfield 160, 3) := by decide +kernel
theorem d_Bld_findSource_28 : decode prog_2_method_10_code 28 = .ok (.astore 5, 2) := by decide +kernel
theorem d_Bld_findSource_30 : decode prog_2_method_10_code 30 = .ok (.aload_n 0, 1) := by decide +kernel
theorem d_Bld_findSource_31 : decode prog_2_method_10_code 31 = .ok (.getfield 26, 3) := by decide +kernel
theorem d_Bld_findSource_34 : decode prog_2_method_10_code 34 = .ok (.aload 5, 2) := by decide +kernel
theorem d_Bld_findSource_36 : decode prog_2_method_10_code 36 = .ok (.aload_n 3, 1) := by decide +kernel
theorem d_Bld_findSource_37 : decode prog_2_method_10_code 37 = .ok (.invokevirtual 175, 3) := by decide +kernel
theorem d_Bld_findSource_40 : decode prog_2_method_10_code 40 = .ok (.istore 6, 2) := by decide +kernel
theorem d_Bld_findSource_42 : decode prog_2_method_10_code 42 = .ok (.iload 6, 2) := by decide +kernel
theorem d_Bld_findSource_44 : decode prog_2_method_10_code 44 = .ok (.iconst (-1), 1) := by decide +kernel
theorem d_Bld_findSource_45 : decode prog_2_method_10_code 45 = .ok (.if_icmp .ne 6, 3) := by decide +kernel
theorem d_Bld_findSource_48 : decode prog_2_method_10_code 48 = .ok (.goto 101, 3) := by decide +kernel
theorem d_Bld_findSource_51 : decode prog_2_method_10_code 51 = .ok (.aload_n 0, 1) := by decide +kernel
theorem d_Bld_findSource_52 : decode prog_2_method_10_code 52 = .ok (.getfield 16, 3) := by decide +kernel
theorem d_Bld_findSource_55 : decode prog_2_method_10_code 55 = .ok (.invokevirtual 54, 3) := by decide +kernel
theorem d_Bld_findSource_58 : decode prog_2_method_10_code 58 = .ok (.aload_n 0, 1) := by decide +kernel
theorem d_Bld_findSource_59 : decode prog_2_method_10_code 59 = .ok (.getfield 16, 3) := by decide +kernel
theorem d_Bld_findSource_62 : decode prog_2_method_10_code 62 = .ok (.aload_n 1, 1) := by decide +kernel
theorem d_Bld_findSource_63 : decode prog_2_method_10_code 63 = .ok (.getfield 144, 3) := by decide +kernel
theorem d_Bld_findSource_66 : decode prog_2_method_10_code 66 = .ok (.iconst 0, 1) := by decide +kernel
theorem d_Bld_findSource_67 : decode prog_2_method_10_code 67 = .ok (.iload_n 2, 1) := by decide +kernel
theorem d_Bld_findSource_68 : decode prog_2_method_10_code 68 = .ok (.invokevirtual 179, 3) := by decide +kernel
theorem d_Bld_findSource_71 : decode prog_2_method_10_code 71 = .ok (.pop, 1) := by decide +kernel
theorem d_Bld_findSource_72 : decode prog_2_method_10_code 72 = .ok (.aload_n 0, 1) := by decide +kernel
theorem d_Bld_findSource_73 : decode prog_2_method_10_code 73 = .ok (.getfield 16, 3) := by decide +kernel
theorem d_Bld_findSource_76 : decode prog_2_method_10_code 76 = .ok (.aload 5, 2) := by decide +kernel
theorem d_Bld_findSource_78 : decode prog_2_method_10_code 78 = .ok (.iconst 0, 1) := by decide +kernel
theorem d_Bld_findSource_79 : decode prog_2_method_10_code 79 = .ok (.aload 5, 2) := by decide +kernel
theorem d_Bld_findSource_81 : decode prog_2_method_10_code 81 = .ok (.invokevirtual 148, 3) := by decide +kernel
theorem d_Bld_findSource_84 : decode prog_2_method_10_code 84 = .ok (.invokevirtual 179, 3) := by decide +kernel
theorem d_Bld_findSource_87 : decode prog_2_method_10_code 87 = .ok (.pop, 1) := by decide +kernel
theorem d_Bld_findSource_88 : decode prog_2_method_10_code 88 = .ok (.aload_n 0, 1) := by decide +kernel
theorem d_Bld_findSource_89 : decode prog_2_method_10_code 89 = .ok (.getfield 22, 3) := by decide +kernel
theorem d_Bld_findSource_92 : decode prog_2_method_10_code 92 = .ok (.aload_n 0, 1) := by decide +kernel
theorem d_Bld_findSource_93 : decode prog_2_method_10_code 93 = .ok (.getfield 16, 3) := by decide +kernel
theorem d_Bld_findSource_96 : decode prog_2_method_10_code 96 = .ok (.iconst 0, 1) := by decide +kernel
theorem d_Bld_findSource_97 : decode prog_2_method_10_code 97 = .ok (.aload_n 0, 1) := by decide +kernel
theorem d_Bld_findSource_98 : decode prog_2_method_10_code 98 = .ok (.getfield 16, 3) := by decide +kernel
theorem d_Bld_findSource_101 : decode prog_2_method_10_code 101 = .ok (.invokevirtual 183, 3) := by decide +kernel
theorem d_Bld_findSource_104 : decode prog_2_method_10_code 104 = .ok (.invokevirtual 184, 3) := by decide +kernel
theorem d_Bld_findSource_107 : decode prog_2_method_10_code 107 = .ok (.astore 7, 2) := by decide +kernel
theorem d_Bld_findSource_109 : decode prog_2_method_10_code 109 = .ok (.aload 7, 2) := by decide +kernel
theorem d_Bld_findSource_111 : decode prog_2_method_10_code 111 = .ok (.ifnull 38, 3) := by decide +kernel
theorem d_Bld_findSource_114 : decode prog_2_method_10_code 114 = .ok (.aload 7, 2) := by decide +kernel
theorem d_Bld_findSource_116 : decode prog_2_method_10_code 116 = .ok (.getfield 134, 3) := by decide +kernel
theorem d_Bld_findSource_119 : decode prog_2_method_10_code 119 = .ok (.ifCond .ne 11, 3) := by decide +kernel
theorem d_Bld_findSource_122 : decode prog_2_method_10_code 122 = .ok (.aload 7, 2) := by decide +kernel
theorem d_Bld_findSource_124 : decode prog_2_method_10_code 124 = .ok (.invokevirtual 137, 3) := by decide +kernel
theorem d_Bld_findSource_127 : decode prog_2_method_10_code 127 = .ok (.ifCond .eq 22, 3) := by decide +kernel
theorem d_Bld_findSource_130 : decode prog_2_method_10_code 130 = .ok (.aload_n 1, 1) := by decide +kernel
theorem d_Bld_findSource_131 : decode prog_2_method_10_code 131 = .ok (.iload 6, 2) := by decide +kernel
theorem d_Bld_findSource_133 : decode prog_2_method_10_code 133 = .ok (.putfield 97, 3) := by decide +kernel
theorem d_Bld_findSource_136 : decode prog_2_method_10_code 136 = .ok (.aload_n 1, 1) := by decide +kernel
theorem d_Bld_findSource_137 : decode prog_2_method_10_code 137 = .ok (.aload 7, 2) := by decide +kernel
theorem d_Bld_findSource_139 : decode prog_2_method_10_code 139 = .ok (.putfield 108, 3) := by decide +kernel
theorem d_Bld_findSource_142 : decode prog_2_method_10_code 142 = .ok (.aload_n 1, 1) := by decide +kernel
theorem d_Bld_findSource_143 : decode prog_2_method_10_code 143 = .ok (.iload_n 2, 1) := by decide +kernel
theorem d_Bld_findSource_144 : decode prog_2_method_10_code 144 = .ok (.putfield 188, 3) := by decide +kernel
theorem d_Bld_findSource_147 : decode prog_2_method_10_code 147 = .ok (.iconst 1, 1) := by decide +kernel
theorem d_Bld_findSource_148 : decode prog_2_method_10_code 148 = .ok (.ireturn, 1) := by decide +kernel
theorem d_Bld_findSource_149 : decode prog_2_method_10_code 149 = .ok (.iinc 4 1, 3) := by decide +kernel
theorem d_Bld_findSource_152 : decode prog_2_method_10_code 152 = .ok (.goto (-149), 3) := by decide +kernel
theorem d_Bld_findSource_155 : decode prog_2_method_10_code 155 = .ok (.iconst 0, 1) := by decide +kernel
theorem d_Bld_findSource_156 : decode prog_2_method_10_code 156 = .ok (.ireturn, 1) := by decide +kernel
noncomputable def f_Bld_findSource_j130 (r1 : Option Nat) (x2 : Int32) (x6 : Int32) (r7 : Option Nat) (σ : rb_St) : Option rb_Rs :=
  (rb_pI σ r1 12 12 x6).bind fun σ_31 => (rb_pR σ_31 r1 12 14 r7).bind fun σ_32 => (rb_pI σ_32 r1 12 15 x2).bind fun σ_33 => some (some (.int (1 : Int32)), σ_33)
theorem t_Bld_findSource_j130 {E : rb_EV} {d : Nat} {σ0 : rb_St} {res : rb_Rs} (hdd : 6 ≤ d)  (r1 : Option Nat) (x2 : Int32) (x6 : Int32) (r7 : Option Nat) (σ : rb_St) : rb_TC (f_Bld_findSource_j130 r1 x2 x6 r7 σ) (fun r => r = res) (rb_WK E k_Bld_findSource d σ0 res 130 [none, some (va_rf r1), some (.int x2), none, none, none, some (.int x6), some (va_rf r7)] [] σ) := by
  unfold f_Bld_findSource_j130
  refine rb_TC.mono (rk_aload_n 1 d_Bld_findSource_130 rfl rfl) ?_
  refine rb_TC.mono (rk_iload d_Bld_findSource_131 rfl) ?_
  refine rt_pI r1 fp_Bld_findSource_97 d_Bld_findSource_133 (fun σ_31 => ?_)
  refine rb_TC.mono (rk_aload_n 1 d_Bld_findSource_136 rfl rfl) ?_
  refine rb_TC.mono (rk_aload d_Bld_findSource_137 rfl) ?_
  refine rt_pR r1 fp_Bld_findSource_108 d_Bld_findSource_139 (fun σ_32 => ?_)
  refine rb_TC.mono (rk_aload_n 1 d_Bld_findSource_142 rfl rfl) ?_
  refine rb_TC.mono (rk_iload_n 2 d_Bld_findSource_143 rfl rfl) ?_
  refine rt_pI r1 fp_Bld_findSource_188 d_Bld_findSource_144 (fun σ_33 => ?_)
  refine rb_TC.mono (rk_iconst (1 : Int32) d_Bld_findSource_147 (by decide)) ?_
  exact rt_iret (ty := .boolean) rfl (by decide) (fun h => h) d_Bld_findSource_148
noncomputable def f_Bld_findSource_b3 (r0 : Option Nat) (r1 : Option Nat) (x2 : Int32) (r3 : Option Nat) (x4 : Int32) (σ : rb_St) : Option ((Int32 × rb_St) ⊕ rb_Rs) :=
  (rb_gR σ r0 9 1).bind fun r_1 => (rb_gI σ r_1 4 1).bind fun x_2 => if x_2 ≤ x4 then ((some (some (.int (0 : Int32)), σ)).map Sum.inr) else ((rb_gR σ r0 9 1).bind fun r_3 => (rb_gR σ r_3 4 0).bind fun r_4 => (rb_aR σ r_4 111 x4).bind fun r_5 => (rb_gR σ r_5 10 0).bind fun r_6 => (rb_gR σ r0 9 1).bind fun r_7 => (rb_fc σ r_7 4).bind fun _ => rb_cI (f_Rules_commandsOfEnding (r_7) (r_6) (r3) σ) fun x_8 σ_9 => if x_8 = (-1 : Int32) then (some (.inl ((x4 + 1), σ_9))) else ((rb_gR σ_9 r0 9 4).bind fun r_10 => (rb_fc σ_9 r_10 2).bind fun _ => rb_cV (f_Text_clear (r_10)  σ_9) fun σ_11 => (rb_gR σ_11 r0 9 4).bind fun r_12 => (rb_gR σ_11 r1 12 1).bind fun r_13 => (rb_fc σ_11 r_12 2).bind fun _ => rb_cI (f_Text_addPart (r_12) (r_13) ((0 : Int32)) (x2) σ_11) fun x_14 σ_15 => (rb_gR σ_15 r0 9 4).bind fun r_16 => (rb_fc σ_15 r_6 14).bind fun _ => rb_cI (f_Str_length (r_6)  σ_15) fun x_17 σ_18 => (rb_fc σ_18 r_16 2).bind fun _ => rb_cI (f_Text_addPart (r_16) (r_6) ((0 : Int32)) (x_17) σ_18) fun x_19 σ_20 => (rb_gR σ_20 r0 9 0).bind fun r_21 => (rb_gR σ_20 r0 9 4).bind fun r_22 => (rb_gR σ_20 r0 9 4).bind fun r_23 => (rb_fc σ_20 r_23 2).bind fun _ => rb_cI (f_Text_length (r_23)  σ_20) fun x_24 σ_25 => (rb_fc σ_25 r_21 3).bind fun _ => rb_cR (f_Store_find (r_21) (r_22) ((0 : Int32)) (x_24) σ_25) fun r_26 σ_27 => if r_26 = none then (some (.inl ((x4 + 1), σ_27))) else ((rb_gI σ_27 r_26 12 4).bind fun x_28 => if x_28 = 0 then ((rb_fc σ_27 r_26 12).bind fun _ => rb_cI (f_Name_isFile (r_26)  σ_27) fun x_29 σ_30 => if x_29 = 0 then (some (.inl ((x4 + 1), σ_30))) else ((f_Bld_findSource_j130 (r1) (x2) (x_8) (r_26) σ_30).map Sum.inr)) else ((f_Bld_findSource_j130 (r1) (x2) (x_8) (r_26) σ_27).map Sum.inr))))
theorem t_Bld_findSource_b3 {E : rb_EV} {d : Nat} {σ0 : rb_St} {res : rb_Rs} (hdd : 6 ≤ d)  (r0 : Option Nat) (r1 : Option Nat) (x2 : Int32) (r3 : Option Nat) (x4 : Int32) (σ : rb_St) : rb_TC (f_Bld_findSource_b3 r0 r1 x2 r3 x4 σ) (Sum.elim (fun z : (Int32 × rb_St) => rb_WK E k_Bld_findSource d σ0 res 3 [some (va_rf r0), some (va_rf r1), some (.int x2), some (va_rf r3), some (.int z.1), none, none, none] [] z.2) (fun r => r = res)) (rb_WK E k_Bld_findSource d σ0 res 3 [some (va_rf r0), some (va_rf r1), some (.int x2), some (va_rf r3), some (.int x4), none, none, none] [] σ) := by
  unfold f_Bld_findSource_b3
  refine rb_TC.mono (rk_iload d_Bld_findSource_3 rfl) ?_
  refine rb_TC.mono (rk_aload_n 0 d_Bld_findSource_5 rfl rfl) ?_
  refine rt_gR r0 fw_Bld_26 d_Bld_findSource_6 (fun r_1 => ?_)
  refine rt_gI r_1 fw_Bld_153 d_Bld_findSource_9 (fun x_2 => ?_)
  refine rt_icmp_ge 155 d_Bld_findSource_12 (by decide) (fun _ => ?_) (fun _ => ?_)
  · refine rb_TC.out ?_
    refine rb_TC.mono (rk_iconst (0 : Int32) d_Bld_findSource_155 (by decide)) ?_
    exact rt_iret (ty := .boolean) rfl (by decide) (fun h => h) d_Bld_findSource_156
  · refine rb_TC.mono (rk_aload_n 0 d_Bld_findSource_15 rfl rfl) ?_
    refine rt_gR r0 fw_Bld_26 d_Bld_findSource_16 (fun r_3 => ?_)
    refine rt_gR r_3 fw_Bld_156 d_Bld_findSource_19 (fun r_4 => ?_)
    refine rb_TC.mono (rk_iload d_Bld_findSource_22 rfl) ?_
    refine rt_aald (t := 111) r_4 (by decide) d_Bld_findSource_24 (fun r_5 => ?_)
    refine rt_gR r_5 fw_Bld_160 d_Bld_findSource_25 (fun r_6 => ?_)
    refine rb_TC.mono (rk_astore (lv2 := [some (va_rf r0), some (va_rf r1), some (.int x2), some (va_rf r3), some (.int x4), some (va_rf r_6), none, none]) d_Bld_findSource_28 (by decide) (fun _ => rb_one_i) rfl) ?_
    refine rb_TC.mono (rk_aload_n 0 d_Bld_findSource_30 rfl rfl) ?_
    refine rt_gR r0 fw_Bld_26 d_Bld_findSource_31 (fun r_7 => ?_)
    refine rb_TC.mono (rk_aload d_Bld_findSource_34 rfl) ?_
    refine rb_TC.mono (rk_aload_n 3 d_Bld_findSource_36 rfl rfl) ?_
    refine rt_vI (As := [va_rf r_6, va_rf r3]) (st := []) (r_7) vw_Bld_175 (s_Rules_commandsOfEnding (Nat.le_refl _) (r_7) (r_6) (r3) σ) (Nat.le_trans (by decide) hdd) rfl (by simp [rb_cat_r, rb_cat_i, rb_cat_l]) d_Bld_findSource_37 (fun x_8 σ_9 => ?_)
    refine rb_TC.mono (rk_istore (lv2 := [some (va_rf r0), some (va_rf r1), some (.int x2), some (va_rf r3), some (.int x4), some (va_rf r_6), some (.int x_8), none]) d_Bld_findSource_40 (by decide) (fun _ => rb_one_r) rfl) ?_
    refine rb_TC.mono (rk_iload d_Bld_findSource_42 rfl) ?_
    refine rb_TC.mono (rk_iconst (-1 : Int32) d_Bld_findSource_44 (by decide)) ?_
    refine rt_icmp_ne 51 d_Bld_findSource_45 (by decide) (fun _ => ?_) (fun _ => ?_)
    · refine rb_TC.mono (rk_goto 149 d_Bld_findSource_48 (by decide)) ?_
      refine rb_TC.mono (rk_iinc (lv2 := [some (va_rf r0), some (va_rf r1), some (.int x2), some (va_rf r3), some (.int (x4 + 1)), some (va_rf r_6), some (.int x_8), none]) (x4 + 1) d_Bld_findSource_149 rfl rfl (by decide) (fun _ => rb_one_r) rfl) ?_
      refine rb_TC.mono (rk_goto 3 d_Bld_findSource_152 (by decide)) ?_
      refine rb_TC.mono (rk_less (lv2 := [some (va_rf r0), some (va_rf r1), some (.int x2), some (va_rf r3), some (.int (x4 + 1)), none, none, none]) (rb_le_ok (rb_leS (rb_leS (rb_leS (rb_leS (rb_leS (rb_leN (rb_leN (rb_leN rb_le0)))))))))) ?_
      exact rb_back
    · refine rb_TC.mono (rk_aload_n 0 d_Bld_findSource_51 rfl rfl) ?_
      refine rt_gR r0 fw_Bld_16 d_Bld_findSource_52 (fun r_10 => ?_)
      refine rt_vV (As := []) (st := []) (r_10) vw_Bld_54 (s_Text_clear (Nat.le_refl _) (r_10)  σ_9) (Nat.le_trans (by decide) hdd) rfl (by simp [rb_cat_r, rb_cat_i, rb_cat_l]) d_Bld_findSource_55 (fun σ_11 => ?_)
      refine rb_TC.mono (rk_aload_n 0 d_Bld_findSource_58 rfl rfl) ?_
      refine rt_gR r0 fw_Bld_16 d_Bld_findSource_59 (fun r_12 => ?_)
      refine rb_TC.mono (rk_aload_n 1 d_Bld_findSource_62 rfl rfl) ?_
      refine rt_gR r1 fw_Bld_144 d_Bld_findSource_63 (fun r_13 => ?_)
      refine rb_TC.mono (rk_iconst (0 : Int32) d_Bld_findSource_66 (by decide)) ?_
      refine rb_TC.mono (rk_iload_n 2 d_Bld_findSource_67 rfl rfl) ?_
      refine rt_vI (As := [va_rf r_13, .int (0 : Int32), .int x2]) (st := []) (r_12) vw_Bld_179 (s_Text_addPart (Nat.le_refl _) (r_12) (r_13) ((0 : Int32)) (x2) σ_11) (Nat.le_trans (by decide) hdd) rfl (by simp [rb_cat_r, rb_cat_i, rb_cat_l]) d_Bld_findSource_68 (fun x_14 σ_15 => ?_)
      refine rb_TC.mono (rk_popi d_Bld_findSource_71) ?_
      refine rb_TC.mono (rk_aload_n 0 d_Bld_findSource_72 rfl rfl) ?_
      refine rt_gR r0 fw_Bld_16 d_Bld_findSource_73 (fun r_16 => ?_)
      refine rb_TC.mono (rk_aload d_Bld_findSource_76 rfl) ?_
      refine rb_TC.mono (rk_iconst (0 : Int32) d_Bld_findSource_78 (by decide)) ?_
      refine rb_TC.mono (rk_aload d_Bld_findSource_79 rfl) ?_
      refine rt_vI (As := []) (st := [.int (0 : Int32), va_rf r_6, va_rf r_16]) (r_6) vw_Bld_148 (s_Str_length (Nat.le_refl _) (r_6)  σ_15) (Nat.le_trans (by decide) hdd) rfl (by simp [rb_cat_r, rb_cat_i, rb_cat_l]) d_Bld_findSource_81 (fun x_17 σ_18 => ?_)
      refine rt_vI (As := [va_rf r_6, .int (0 : Int32), .int x_17]) (st := []) (r_16) vw_Bld_179 (s_Text_addPart (Nat.le_refl _) (r_16) (r_6) ((0 : Int32)) (x_17) σ_18) (Nat.le_trans (by decide) hdd) rfl (by simp [rb_cat_r, rb_cat_i, rb_cat_l]) d_Bld_findSource_84 (fun x_19 σ_20 => ?_)
      refine rb_TC.mono (rk_popi d_Bld_findSource_87) ?_
      refine rb_TC.mono (rk_aload_n 0 d_Bld_findSource_88 rfl rfl) ?_
      refine rt_gR r0 fw_Bld_22 d_Bld_findSource_89 (fun r_21 => ?_)
      refine rb_TC.mono (rk_aload_n 0 d_Bld_findSource_92 rfl rfl) ?_
      refine rt_gR r0 fw_Bld_16 d_Bld_findSource_93 (fun r_22 => ?_)
      refine rb_TC.mono (rk_iconst (0 : Int32) d_Bld_findSource_96 (by decide)) ?_
      refine rb_TC.mono (rk_aload_n 0 d_Bld_findSource_97 rfl rfl) ?_
      refine rt_gR r0 fw_Bld_16 d_Bld_findSource_98 (fun r_23 => ?_)
      refine rt_vI (As := []) (st := [.int (0 : Int32), va_rf r_22, va_rf r_21]) (r_23) vw_Bld_183 (s_Text_length (Nat.le_refl _) (r_23)  σ_20) (Nat.le_trans (by decide) hdd) rfl (by simp [rb_cat_r, rb_cat_i, rb_cat_l]) d_Bld_findSource_101 (fun x_24 σ_25 => ?_)
      refine rt_vR (As := [va_rf r_22, .int (0 : Int32), .int x_24]) (st := []) (r_21) vw_Bld_184 (s_Store_find (Nat.le_refl _) (r_21) (r_22) ((0 : Int32)) (x_24) σ_25) (Nat.le_trans (by decide) hdd) rfl (by simp [rb_cat_r, rb_cat_i, rb_cat_l]) d_Bld_findSource_104 (fun r_26 σ_27 => ?_)
      refine rb_TC.mono (rk_astore (lv2 := [some (va_rf r0), some (va_rf r1), some (.int x2), some (va_rf r3), some (.int x4), some (va_rf r_6), some (.int x_8), some (va_rf r_26)]) d_Bld_findSource_107 (by decide) (fun _ => rb_one_i) rfl) ?_
      refine rb_TC.mono (rk_aload d_Bld_findSource_109 rfl) ?_
      refine rt_ifnull 149 d_Bld_findSource_111 (by decide) (fun _ => ?_) (fun _ => ?_)
      · refine rb_TC.mono (rk_iinc (lv2 := [some (va_rf r0), some (va_rf r1), some (.int x2), some (va_rf r3), some (.int (x4 + 1)), some (va_rf r_6), some (.int x_8), some (va_rf r_26)]) (x4 + 1) d_Bld_findSource_149 rfl rfl (by decide) (fun _ => rb_one_r) rfl) ?_
        refine rb_TC.mono (rk_goto 3 d_Bld_findSource_152 (by decide)) ?_
        refine rb_TC.mono (rk_less (lv2 := [some (va_rf r0), some (va_rf r1), some (.int x2), some (va_rf r3), some (.int (x4 + 1)), none, none, none]) (rb_le_ok (rb_leS (rb_leS (rb_leS (rb_leS (rb_leS (rb_leN (rb_leN (rb_leN rb_le0)))))))))) ?_
        exact rb_back
      · refine rb_TC.mono (rk_aload d_Bld_findSource_114 rfl) ?_
        refine rt_gI r_26 fw_Bld_134 d_Bld_findSource_116 (fun x_28 => ?_)
        refine rt_if_ne 130 d_Bld_findSource_119 (by decide) (fun _ => ?_) (fun _ => ?_)
        · refine rb_TC.mono (rk_aload d_Bld_findSource_122 rfl) ?_
          refine rt_vI (As := []) (st := []) (r_26) vw_Bld_137 (s_Name_isFile (Nat.le_refl _) (r_26)  σ_27) (Nat.le_trans (by decide) hdd) rfl (by simp [rb_cat_r, rb_cat_i, rb_cat_l]) d_Bld_findSource_124 (fun x_29 σ_30 => ?_)
          refine rt_if_eq 149 d_Bld_findSource_127 (by decide) (fun _ => ?_) (fun _ => ?_)
          · refine rb_TC.mono (rk_iinc (lv2 := [some (va_rf r0), some (va_rf r1), some (.int x2), some (va_rf r3), some (.int (x4 + 1)), some (va_rf r_6), some (.int x_8), some (va_rf r_26)]) (x4 + 1) d_Bld_findSource_149 rfl rfl (by decide) (fun _ => rb_one_r) rfl) ?_
            refine rb_TC.mono (rk_goto 3 d_Bld_findSource_152 (by decide)) ?_
            refine rb_TC.mono (rk_less (lv2 := [some (va_rf r0), some (va_rf r1), some (.int x2), some (va_rf r3), some (.int (x4 + 1)), none, none, none]) (rb_le_ok (rb_leS (rb_leS (rb_leS (rb_leS (rb_leS (rb_leN (rb_leN (rb_leN rb_le0)))))))))) ?_
            exact rb_back
          · refine rb_TC.out ?_
            refine rb_TC.mono (rk_less (lv2 := [none, some (va_rf r1), some (.int x2), none, none, none, some (.int x_8), some (va_rf r_26)]) (rb_le_ok (rb_leN (rb_leS (rb_leS (rb_leN (rb_leN (rb_leN (rb_leS (rb_leS rb_le0)))))))))) ?_
            exact t_Bld_findSource_j130 hdd  (r1) (x2) (x_8) (r_26) σ_30
        · refine rb_TC.out ?_
          refine rb_TC.mono (rk_less (lv2 := [none, some (va_rf r1), some (.int x2), none, none, none, some (.int x_8), some (va_rf r_26)]) (rb_le_ok (rb_leN (rb_leS (rb_leS (rb_leN (rb_leN (rb_leN (rb_leS (rb_leS rb_le0)))))))))) ?_
          exact t_Bld_findSource_j130 hdd  (r1) (x2) (x_8) (r_26) σ_27
noncomputable def f_Bld_findSource (r0 : Option Nat) (r1 : Option Nat) (x2 : Int32) (r3 : Option Nat) (σ : rb_St) : Option rb_Rs :=
  rb_it (fun z : (Int32 × rb_St) => f_Bld_findSource_b3 (r0) (r1) (x2) (r3) (z.1) z.2) ((0 : Int32), σ)
theorem s_Bld_findSource {E : rb_EV} {d : Nat} (hdd : 6 ≤ d) (r0 : Option Nat) (r1 : Option Nat) (x2 : Int32) (r3 : Option Nat) (σ : rb_St) : rb_Does E k_Bld_findSource d [va_rf r0, va_rf r1, .int x2, va_rf r3] σ (f_Bld_findSource r0 r1 x2 r3 σ) := by
  refine rb_start (lv := [some (va_rf r0), some (va_rf r1), some (.int x2), some (va_rf r3), none, none, none, none]) (by decide) (by simp [lg_sl, rb_as, lv_args, rb_cat_r, rb_cat_i, rb_cat_l, rb_nL, k_Bld_findSource]) (fun res => ?_)
  unfold f_Bld_findSource
  refine rb_TC.mono (rk_iconst (0 : Int32) d_Bld_findSource_0 (by decide)) ?_
  refine rb_TC.mono (rk_istore (lv2 := [some (va_rf r0), some (va_rf r1), some (.int x2), some (va_rf r3), some (.int (0 : Int32)), none, none, none]) d_Bld_findSource_1 (by decide) (fun _ => rb_one_r) rfl) ?_
  exact rb_TC.loop2 (A := (fun z : (Int32 × rb_St) => rb_WK E k_Bld_findSource d σ res 3 [some (va_rf r0), some (va_rf r1), some (.int x2), some (va_rf r3), some (.int z.1), none, none, none] [] z.2)) ((0 : Int32), σ) (fun z => t_Bld_findSource_b3 hdd  (r0) (r1) (x2) (r3) (z.1) z.2)
-- ===== RuleBuilder$Builder.findEndingRule(LRuleBuilder$Name;)Z
def k_Bld_findEndingRule : rb_MK := (⟨"RuleBuilder$Builder", "findEndingRule", "(LRuleBuilder$Name;)Z"⟩, prog_2_method_9_code, 5, some (.boolean))
theorem mw_Bld_findEndingRule : rb_Mw k_Bld_findEndingRule 1 := ⟨rb_inG 1042 (by decide +kernel) rfl, rb_inG 93 (by decide +kernel) rfl, ⟨by decide, by decide, by decide +kernel⟩, by decide⟩
theorem vw_Bld_165 : rb_Vw "RuleBuilder$Builder" 165 k_Name_endsWith 12 1 := ⟨mw_Name_endsWith, rb_inG 1044 (by decide +kernel) rfl, rb_inG 1045 (by decide +kernel) rfl, rb_inG 1046 (by decide +kernel) rfl, by decide, by decide, _, rfl, rfl⟩
theorem vw_Bld_169 : rb_Vw "RuleBuilder$Builder" 169 k_Bld_findSource 9 3 := ⟨mw_Bld_findSource, rb_inG 1050 (by decide +kernel) rfl, rb_inG 1052 (by decide +kernel) rfl, rb_inG 21 (by decide +kernel) rfl, by decide, by decide, _, rfl, rfl⟩
theorem d_Bld_findEndingRule_0 : decode prog_2_method_9_code 0 = .ok (.aload_n 1, 1) := by decide +kernel
theorem d_Bld_findEndingRule_1 : decode prog_2_method_9_code 1 = .ok (.getfield 144, 3) := by decide +kernel
theorem d_Bld_findEndingRule_4 : decode prog_2_method_9_code 4 = .ok (.invokevirtual 148, 3) := by decide +kernel
theorem d_Bld_findEndingRule_7 : decode prog_2_method_9_code 7 = .ok (.istore_n 2, 1) := by decide +kernel
theorem d_Bld_findEndingRule_8 : decode prog_2_method_9_code 8 = .ok (.iconst 0, 1) := by decide +kernel
theorem d_Bld_findEndingRule_9 : decode prog_2_method_9_code 9 = .ok (.istore_n 3, 1) := by decide +kernel
theorem d_Bld_findEndingRule_10 : decode prog_2_method_9_code 10 = .ok (.iload_n 3, 1) := by decide +kernel
theorem d_Bld_findEndingRule_11 : decode prog_2_method_9_code 11 = .ok (.aload_n 0, 1) := by decide +kernel
theorem d_Bld_findEndingRule_12 : decode prog_2_method_9_code 12 = .ok (.getfield 26, 3) := by decide +kernel
theorem d_Bld_findEndingRule_15 : decode prog_2_method_9_code 15 = .ok (.getfield 153, 3) := by decide +kernel
theorem d_Bld_findEndingRule_18 : decode prog_2_method_9_code 18 = .ok (.if_icmp .ge 60, 3) := by decide +kernel
theorem d_Bld_findEndingRule_21 : decode prog_2_method_9_code 21 = .ok (.aload_n 0, 1) := by decide +kernel
theorem d_Bld_findEndingRule_22 : decode prog_2_method_9_code 22 = .ok (.getfield 26, 3) := by decide +kernel
theorem d_Bld_findEndingRule_25 : decode prog_2_method_9_code 25 = .ok (.getfield 156, 3) := by decide +kernel
theorem d_Bld_findEndingRule_28 : decode prog_2_method_9_code 28 = .ok (.iload_n 3, 1) := by decide +kernel
theorem d_Bld_findEndingRule_29 : decode prog_2_method_9_code 29 = .ok (.aaload, 1) := by decide +kernel
theorem d_Bld_findEndingRule_30 : decode prog_2_method_9_code 30 = .ok (.getfield 160, 3) := by decide +kernel
theorem d_Bld_findEndingRule_33 : decode prog_2_method_9_code 33 = .ok (.astore 4, 2) := by decide +kernel
theorem d_Bld_findEndingRule_35 : decode prog_2_method_9_code 35 = .ok (.aload 4, 2) := by decide +kernel
theorem d_Bld_findEndingRule_37 : decode prog_2_method_9_code 37 = .ok (.invokevirtual 148, 3) := by decide +kernel
theorem d_Bld_findEndingRule_40 : decode prog_2_method_9_code 40 = .ok (.iload_n 2, 1) := by decide +kernel
theorem d_Bld_findEndingRule_41 : decode prog_2_method_9_code 41 = .ok (.if_icmp .ge 31, 3) := by decide +kernel
theorem d_Bld_findEndingRule_44 : decode prog_2_method_9_code 44 = .ok (.aload_n 1, 1) := by decide +kernel
theorem d_Bld_findEndingRule_45 : decode prog_2_method_9_code 45 = .ok (.aload 4, 2) := by decide +kernel
theorem d_Bld_findEndingRule_47 : decode prog_2_method_9_code 47 = .ok (.invokevirtual 165, 3) := by decide +kernel
theorem d_Bld_findEndingRule_50 : decode prog_2_method_9_code 50 = .ok (.ifCond .eq 22, 3) := by decide +kernel
theorem d_Bld_findEndingRule_53 : decode prog_2_method_9_code 53 = .ok (.aload_n 0, 1) := by decide +kernel
theorem d_Bld_findEndingRule_54 : decode prog_2_method_9_code 54 = .ok (.aload_n 1, 1) := by decide +kernel
theorem d_Bld_findEndingRule_55 : decode prog_2_method_9_code 55 = .ok (.iload_n 2, 1) := by decide +kernel
theorem d_Bld_findEndingRule_56 : decode prog_2_method_9_code 56 = .ok (.aload 4, 2) := by decide +kernel
theorem d_Bld_findEndingRule_58 : decode prog_2_method_9_code 58 = .ok (.invokevirtual 148, 3) := by decide +kernel
theorem d_Bld_findEndingRule_61 : decode prog_2_method_9_code 61 = .ok (.isub, 1) := by decide +kernel
theorem d_Bld_findEndingRule_62 : decode prog_2_method_9_code 62 = .ok (.aload 4, 2) := by decide +kernel
theorem d_Bld_findEndingRule_64 : decode prog_2_method_9_code 64 = .ok (.invokevirtual 169, 3) := by decide +kernel
theorem d_Bld_findEndingRule_67 : decode prog_2_method_9_code 67 = .ok (.ifCond .eq 5, 3) := by decide +kernel
theorem d_Bld_findEndingRule_70 : decode prog_2_method_9_code 70 = .ok (.iconst 1, 1) := by decide +kernel
theorem d_Bld_findEndingRule_71 : decode prog_2_method_9_code 71 = .ok (.ireturn, 1) := by decide +kernel
theorem d_Bld_findEndingRule_72 : decode prog_2_method_9_code 72 = .ok (.iinc 3 1, 3) := by decide +kernel
theorem d_Bld_findEndingRule_75 : decode prog_2_method_9_code 75 = .ok (.goto (-65), 3) := by decide +kernel
theorem d_Bld_findEndingRule_78 : decode prog_2_method_9_code 78 = .ok (.aload_n 0, 1) := by decide +kernel
theorem d_Bld_findEndingRule_79 : decode prog_2_method_9_code 79 = .ok (.aload_n 1, 1) := by decide +kernel
theorem d_Bld_findEndingRule_80 : decode prog_2_method_9_code 80 = .ok (.iload_n 2, 1) := by decide +kernel
theorem d_Bld_findEndingRule_81 : decode prog_2_method_9_code 81 = .ok (.ldc 173, 2) := by decide +kernel
theorem d_Bld_findEndingRule_83 : decode prog_2_method_9_code 83 = .ok (.invokevirtual 169, 3) := by decide +kernel
theorem d_Bld_findEndingRule_86 : decode prog_2_method_9_code 86 = .ok (.ireturn, 1) := by decide +kernel
noncomputable def f_Bld_findEndingRule_b10 (r0 : Option Nat) (r1 : Option Nat) (x2 : Int32) (x3 : Int32) (σ : rb_St) : Option ((Int32 × rb_St) ⊕ rb_Rs) :=
  (rb_gR σ r0 9 1).bind fun r_4 => (rb_gI σ r_4 4 1).bind fun x_5 => if x_5 ≤ x3 then (((rb_fc σ r0 9).bind fun _ => rb_cI (f_Bld_findSource (r0) (r1) (x2) ((some (rb_k σ 0))) σ) fun x_6 σ_7 => if rb_isZ x_6 then some (some (.int x_6), σ_7) else none).map Sum.inr) else ((rb_gR σ r0 9 1).bind fun r_8 => (rb_gR σ r_8 4 0).bind fun r_9 => (rb_aR σ r_9 111 x3).bind fun r_10 => (rb_gR σ r_10 10 0).bind fun r_11 => (rb_fc σ r_11 14).bind fun _ => rb_cI (f_Str_length (r_11)  σ) fun x_12 σ_13 => if x2 ≤ x_12 then (some (.inl ((x3 + 1), σ_13))) else ((rb_fc σ_13 r1 12).bind fun _ => rb_cI (f_Name_endsWith (r1) (r_11) σ_13) fun x_14 σ_15 => if x_14 = 0 then (some (.inl ((x3 + 1), σ_15))) else ((rb_fc σ_15 r_11 14).bind fun _ => rb_cI (f_Str_length (r_11)  σ_15) fun x_16 σ_17 => (rb_fc σ_17 r0 9).bind fun _ => rb_cI (f_Bld_findSource (r0) (r1) ((x2 - x_16)) (r_11) σ_17) fun x_18 σ_19 => if x_18 = 0 then (some (.inl ((x3 + 1), σ_19))) else ((some (some (.int (1 : Int32)), σ_19)).map Sum.inr))))
theorem t_Bld_findEndingRule_b10 {E : rb_EV} {d : Nat} {σ0 : rb_St} {res : rb_Rs} (hdd : 7 ≤ d)  (r0 : Option Nat) (r1 : Option Nat) (x2 : Int32) (x3 : Int32) (σ : rb_St) : rb_TC (f_Bld_findEndingRule_b10 r0 r1 x2 x3 σ) (Sum.elim (fun z : (Int32 × rb_St) => rb_WK E k_Bld_findEndingRule d σ0 res 10 [some (va_rf r0), some (va_rf r1), some (.int x2), some (.int z.1), none] [] z.2) (fun r => r = res)) (rb_WK E k_Bld_findEndingRule d σ0 res 10 [some (va_rf r0), some (va_rf r1), some (.int x2), some (.int x3), none] [] σ) := by
  unfold f_Bld_findEndingRule_b10
  refine rb_TC.mono (rk_iload_n 3 d_Bld_findEndingRule_10 rfl rfl) ?_
  refine rb_TC.mono (rk_aload_n 0 d_Bld_findEndingRule_11 rfl rfl) ?_
  refine rt_gR r0 fw_Bld_26 d_Bld_findEndingRule_12 (fun r_4 => ?_)
  refine rt_gI r_4 fw_Bld_153 d_Bld_findEndingRule_15 (fun x_5 => ?_)
  refine rt_icmp_ge 78 d_Bld_findEndingRule_18 (by decide) (fun _ => ?_) (fun _ => ?_)
  · refine rb_TC.out ?_
    refine rb_TC.mono (rk_aload_n 0 d_Bld_findEndingRule_78 rfl rfl) ?_
    refine rb_TC.mono (rk_aload_n 1 d_Bld_findEndingRule_79 rfl rfl) ?_
    refine rb_TC.mono (rk_iload_n 2 d_Bld_findEndingRule_80 rfl rfl) ?_
    refine rb_TC.mono (rk_ldcs (no := 0) (by decide) d_Bld_findEndingRule_81) ?_
    refine rt_vI (As := [va_rf r1, .int x2, va_rf (some (rb_k σ 0))]) (st := []) (r0) vw_Bld_169 (s_Bld_findSource (Nat.le_refl _) (r0) (r1) (x2) ((some (rb_k σ 0))) σ) (Nat.le_trans (by decide) hdd) rfl (by simp [rb_cat_r, rb_cat_i, rb_cat_l]) d_Bld_findEndingRule_83 (fun x_6 σ_7 => ?_)
    refine rb_TC.ite (fun hn => ?_) (fun _ => rb_TC.none)
    exact rt_iret (ty := .boolean) rfl (rb_nar_Z hn) (fun h => h) d_Bld_findEndingRule_86
  · refine rb_TC.mono (rk_aload_n 0 d_Bld_findEndingRule_21 rfl rfl) ?_
    refine rt_gR r0 fw_Bld_26 d_Bld_findEndingRule_22 (fun r_8 => ?_)
    refine rt_gR r_8 fw_Bld_156 d_Bld_findEndingRule_25 (fun r_9 => ?_)
    refine rb_TC.mono (rk_iload_n 3 d_Bld_findEndingRule_28 rfl rfl) ?_
    refine rt_aald (t := 111) r_9 (by decide) d_Bld_findEndingRule_29 (fun r_10 => ?_)
    refine rt_gR r_10 fw_Bld_160 d_Bld_findEndingRule_30 (fun r_11 => ?_)
    refine rb_TC.mono (rk_astore (lv2 := [some (va_rf r0), some (va_rf r1), some (.int x2), some (.int x3), some (va_rf r_11)]) d_Bld_findEndingRule_33 (by decide) (fun _ => rb_one_i) rfl) ?_
    refine rb_TC.mono (rk_aload d_Bld_findEndingRule_35 rfl) ?_
    refine rt_vI (As := []) (st := []) (r_11) vw_Bld_148 (s_Str_length (Nat.le_refl _) (r_11)  σ) (Nat.le_trans (by decide) hdd) rfl (by simp [rb_cat_r, rb_cat_i, rb_cat_l]) d_Bld_findEndingRule_37 (fun x_12 σ_13 => ?_)
    refine rb_TC.mono (rk_iload_n 2 d_Bld_findEndingRule_40 rfl rfl) ?_
    refine rt_icmp_ge 72 d_Bld_findEndingRule_41 (by decide) (fun _ => ?_) (fun _ => ?_)
    · refine rb_TC.mono (rk_iinc (lv2 := [some (va_rf r0), some (va_rf r1), some (.int x2), some (.int (x3 + 1)), some (va_rf r_11)]) (x3 + 1) d_Bld_findEndingRule_72 rfl rfl (by decide) (fun _ => rb_one_i) rfl) ?_
      refine rb_TC.mono (rk_goto 10 d_Bld_findEndingRule_75 (by decide)) ?_
      refine rb_TC.mono (rk_less (lv2 := [some (va_rf r0), some (va_rf r1), some (.int x2), some (.int (x3 + 1)), none]) (rb_le_ok (rb_leS (rb_leS (rb_leS (rb_leS (rb_leN rb_le0))))))) ?_
      exact rb_back
    · refine rb_TC.mono (rk_aload_n 1 d_Bld_findEndingRule_44 rfl rfl) ?_
      refine rb_TC.mono (rk_aload d_Bld_findEndingRule_45 rfl) ?_
      refine rt_vI (As := [va_rf r_11]) (st := []) (r1) vw_Bld_165 (s_Name_endsWith (Nat.le_refl _) (r1) (r_11) σ_13) (Nat.le_trans (by decide) hdd) rfl (by simp [rb_cat_r, rb_cat_i, rb_cat_l]) d_Bld_findEndingRule_47 (fun x_14 σ_15 => ?_)
      refine rt_if_eq 72 d_Bld_findEndingRule_50 (by decide) (fun _ => ?_) (fun _ => ?_)
      · refine rb_TC.mono (rk_iinc (lv2 := [some (va_rf r0), some (va_rf r1), some (.int x2), some (.int (x3 + 1)), some (va_rf r_11)]) (x3 + 1) d_Bld_findEndingRule_72 rfl rfl (by decide) (fun _ => rb_one_i) rfl) ?_
        refine rb_TC.mono (rk_goto 10 d_Bld_findEndingRule_75 (by decide)) ?_
        refine rb_TC.mono (rk_less (lv2 := [some (va_rf r0), some (va_rf r1), some (.int x2), some (.int (x3 + 1)), none]) (rb_le_ok (rb_leS (rb_leS (rb_leS (rb_leS (rb_leN rb_le0))))))) ?_
        exact rb_back
      · refine rb_TC.mono (rk_aload_n 0 d_Bld_findEndingRule_53 rfl rfl) ?_
        refine rb_TC.mono (rk_aload_n 1 d_Bld_findEndingRule_54 rfl rfl) ?_
        refine rb_TC.mono (rk_iload_n 2 d_Bld_findEndingRule_55 rfl rfl) ?_
        refine rb_TC.mono (rk_aload d_Bld_findEndingRule_56 rfl) ?_
        refine rt_vI (As := []) (st := [.int x2, va_rf r1, va_rf r0]) (r_11) vw_Bld_148 (s_Str_length (Nat.le_refl _) (r_11)  σ_15) (Nat.le_trans (by decide) hdd) rfl (by simp [rb_cat_r, rb_cat_i, rb_cat_l]) d_Bld_findEndingRule_58 (fun x_16 σ_17 => ?_)
        refine rb_TC.mono (rk_isub d_Bld_findEndingRule_61) ?_
        refine rb_TC.mono (rk_aload d_Bld_findEndingRule_62 rfl) ?_
        refine rt_vI (As := [va_rf r1, .int (x2 - x_16), va_rf r_11]) (st := []) (r0) vw_Bld_169 (s_Bld_findSource (Nat.le_refl _) (r0) (r1) ((x2 - x_16)) (r_11) σ_17) (Nat.le_trans (by decide) hdd) rfl (by simp [rb_cat_r, rb_cat_i, rb_cat_l]) d_Bld_findEndingRule_64 (fun x_18 σ_19 => ?_)
        refine rt_if_eq 72 d_Bld_findEndingRule_67 (by decide) (fun _ => ?_) (fun _ => ?_)
        · refine rb_TC.mono (rk_iinc (lv2 := [some (va_rf r0), some (va_rf r1), some (.int x2), some (.int (x3 + 1)), some (va_rf r_11)]) (x3 + 1) d_Bld_findEndingRule_72 rfl rfl (by decide) (fun _ => rb_one_i) rfl) ?_
          refine rb_TC.mono (rk_goto 10 d_Bld_findEndingRule_75 (by decide)) ?_
          refine rb_TC.mono (rk_less (lv2 := [some (va_rf r0), some (va_rf r1), some (.int x2), some (.int (x3 + 1)), none]) (rb_le_ok (rb_leS (rb_leS (rb_leS (rb_leS (rb_leN rb_le0))))))) ?_
          exact rb_back
        · refine rb_TC.out ?_
          refine rb_TC.mono (rk_iconst (1 : Int32) d_Bld_findEndingRule_70 (by decide)) ?_
          exact rt_iret (ty := .boolean) rfl (by decide) (fun h => h) d_Bld_findEndingRule_71
noncomputable def f_Bld_findEndingRule (r0 : Option Nat) (r1 : Option Nat) (σ : rb_St) : Option rb_Rs :=
  (rb_gR σ r1 12 1).bind fun r_1 => (rb_fc σ r_1 14).bind fun _ => rb_cI (f_Str_length (r_1)  σ) fun x_2 σ_3 => rb_it (fun z : (Int32 × rb_St) => f_Bld_findEndingRule_b10 (r0) (r1) (x_2) (z.1) z.2) ((0 : Int32), σ_3)
theorem s_Bld_findEndingRule {E : rb_EV} {d : Nat} (hdd : 7 ≤ d) (r0 : Option Nat) (r1 : Option Nat) (σ : rb_St) : rb_Does E k_Bld_findEndingRule d [va_rf r0, va_rf r1] σ (f_Bld_findEndingRule r0 r1 σ) := by
  refine rb_start (lv := [some (va_rf r0), some (va_rf r1), none, none, none]) (by decide) (by simp [lg_sl, rb_as, lv_args, rb_cat_r, rb_cat_i, rb_cat_l, rb_nL, k_Bld_findEndingRule]) (fun res => ?_)
  unfold f_Bld_findEndingRule
  refine rb_TC.mono (rk_aload_n 1 d_Bld_findEndingRule_0 rfl rfl) ?_
  refine rt_gR r1 fw_Bld_144 d_Bld_findEndingRule_1 (fun r_1 => ?_)
  refine rt_vI (As := []) (st := []) (r_1) vw_Bld_148 (s_Str_length (Nat.le_refl _) (r_1)  σ) (Nat.le_trans (by decide) hdd) rfl (by simp [rb_cat_r, rb_cat_i, rb_cat_l]) d_Bld_findEndingRule_4 (fun x_2 σ_3 => ?_)
  refine rb_TC.mono (rk_istore_n (lv2 := [some (va_rf r0), some (va_rf r1), some (.int x_2), none, none]) 2 d_Bld_findEndingRule_7 rfl (by decide) (fun _ => rb_one_r) rfl) ?_
  refine rb_TC.mono (rk_iconst (0 : Int32) d_Bld_findEndingRule_8 (by decide)) ?_
  refine rb_TC.mono (rk_istore_n (lv2 := [some (va_rf r0), some (va_rf r1), some (.int x_2), some (.int (0 : Int32)), none]) 3 d_Bld_findEndingRule_9 rfl (by decide) (fun _ => rb_one_i) rfl) ?_
  exact rb_TC.loop2 (A := (fun z : (Int32 × rb_St) => rb_WK E k_Bld_findEndingRule d σ res 10 [some (va_rf r0), some (va_rf r1), some (.int x_2), some (.int z.1), none] [] z.2)) ((0 : Int32), σ_3) (fun z => t_Bld_findEndingRule_b10 hdd  (r0) (r1) (x_2) (z.1) z.2)
-- ===== RuleBuilder$Builder.chooseCommands(LRuleBuilder$Name;)Z
def k_Bld_chooseCommands : rb_MK := (⟨"RuleBuilder$Builder", "chooseCommands", "(LRuleBuilder$Name;)Z"⟩, prog_2_method_8_code, 2, some (.boolean))
theorem mw_Bld_chooseCommands : rb_Mw k_Bld_chooseCommands 1 := ⟨rb_inG 1038 (by decide +kernel) rfl, rb_inG 93 (by decide +kernel) rfl, ⟨by decide, by decide, by decide +kernel⟩, by decide⟩
theorem fp_Bld_chooseCommands_108 : rb_Fp k_Bld_chooseCommands 108 12 14 (.object "RuleBuilder$Name") ∧ ((∃ n, (.object "RuleBuilder$Name" : FieldType) = .object n) ∨ ∃ t, (.object "RuleBuilder$Name" : FieldType) = .array t) := ⟨⟨fw_Bld_108, rfl, fun q h => by cases h; exact Or.inl rfl⟩, Or.inl ⟨_, rfl⟩⟩
theorem fw_Bld_128 : rb_Fw "RuleBuilder$Builder" 128 12 13 := ⟨_, rfl, by decide, by decide, by decide, rfl, rb_inG 918 (by decide +kernel) rfl⟩
theorem fp_Bld_chooseCommands_128 : rb_Fp k_Bld_chooseCommands 128 12 13 .boolean := ⟨fw_Bld_128, rfl, fun q h => by cases h; exact Or.inl rfl⟩
theorem fp_Bld_chooseCommands_97 : rb_Fp k_Bld_chooseCommands 97 12 12 .int := ⟨fw_Bld_97, rfl, fun q h => by cases h; exact Or.inl rfl⟩
theorem fw_Bld_125 : rb_Fw "RuleBuilder$Builder" 125 12 9 := ⟨_, rfl, by decide, by decide, by decide, rfl, rb_inG 909 (by decide +kernel) rfl⟩
theorem fw_Bld_141 : rb_Fw "RuleBuilder$Builder" 141 4 11 := ⟨_, rfl, by decide, by decide, by decide, rfl, rb_inG 175 (by decide +kernel) rfl⟩
theorem vw_Bld_131 : rb_Vw "RuleBuilder$Builder" 131 k_Bld_findEndingRule 9 1 := ⟨mw_Bld_findEndingRule, rb_inG 1039 (by decide +kernel) rfl, rb_inG 1041 (by decide +kernel) rfl, rb_inG 20 (by decide +kernel) rfl, by decide, by decide, _, rfl, rfl⟩
theorem d_Bld_chooseCommands_0 : decode prog_2_method_8_code 0 = .ok (.aload_n 1, 1) := by decide +kernel
theorem d_Bld_chooseCommands_1 : decode prog_2_method_8_code 1 = .ok (.aload_n 1, 1) := by decide +kernel
theorem d_Bld_chooseCommands_2 : decode prog_2_method_8_code 2 = .ok (.getfield 125, 3) := by decide +kernel
theorem d_Bld_chooseCommands_5 : decode prog_2_method_8_code 5 = .ok (.putfield 97, 3) := by decide +kernel
theorem d_Bld_chooseCommands_8 : decode prog_2_method_8_code 8 = .ok (.aload_n 1, 1) := by decide +kernel
theorem d_Bld_chooseCommands_9 : decode prog_2_method_8_code 9 = .ok (.aconst_null, 1) := by decide +kernel
theorem d_Bld_chooseCommands_10 : decode prog_2_method_8_code 10 = .ok (.putfield 108, 3) := by decide +kernel
theorem d_Bld_chooseCommands_13 : decode prog_2_method_8_code 13 = .ok (.aload_n 1, 1) := by decide +kernel
theorem d_Bld_chooseCommands_14 : decode prog_2_method_8_code 14 = .ok (.iconst 0, 1) := by decide +kernel
theorem d_Bld_chooseCommands_15 : decode prog_2_method_8_code 15 = .ok (.putfield 128, 3) := by decide +kernel
theorem d_Bld_chooseCommands_18 : decode prog_2_method_8_code 18 = .ok (.aload_n 1, 1) := by decide +kernel
theorem d_Bld_chooseCommands_19 : decode prog_2_method_8_code 19 = .ok (.getfield 97, 3) := by decide +kernel
theorem d_Bld_chooseCommands_22 : decode prog_2_method_8_code 22 = .ok (.iconst (-1), 1) := by decide +kernel
theorem d_Bld_chooseCommands_23 : decode prog_2_method_8_code 23 = .ok (.if_icmp .ne 11, 3) := by decide +kernel
theorem d_Bld_chooseCommands_26 : decode prog_2_method_8_code 26 = .ok (.aload_n 0, 1) := by decide +kernel
theorem d_Bld_chooseCommands_27 : decode prog_2_method_8_code 27 = .ok (.aload_n 1, 1) := by decide +kernel
theorem d_Bld_chooseCommands_28 : decode prog_2_method_8_code 28 = .ok (.invokevirtual 131, 3) := by decide +kernel
theorem d_Bld_chooseCommands_31 : decode prog_2_method_8_code 31 = .ok (.ifCond .eq 5, 3) := by decide +kernel
theorem d_Bld_chooseCommands_34 : decode prog_2_method_8_code 34 = .ok (.iconst 1, 1) := by decide +kernel
theorem d_Bld_chooseCommands_35 : decode prog_2_method_8_code 35 = .ok (.ireturn, 1) := by decide +kernel
theorem d_Bld_chooseCommands_36 : decode prog_2_method_8_code 36 = .ok (.aload_n 1, 1) := by decide +kernel
theorem d_Bld_chooseCommands_37 : decode prog_2_method_8_code 37 = .ok (.getfield 134, 3) := by decide +kernel
theorem d_Bld_chooseCommands_40 : decode prog_2_method_8_code 40 = .ok (.ifCond .ne 10, 3) := by decide +kernel
theorem d_Bld_chooseCommands_43 : decode prog_2_method_8_code 43 = .ok (.aload_n 1, 1) := by decide +kernel
theorem d_Bld_chooseCommands_44 : decode prog_2_method_8_code 44 = .ok (.invokevirtual 137, 3) := by decide +kernel
theorem d_Bld_chooseCommands_47 : decode prog_2_method_8_code 47 = .ok (.ifCond .eq 5, 3) := by decide +kernel
theorem d_Bld_chooseCommands_50 : decode prog_2_method_8_code 50 = .ok (.iconst 1, 1) := by decide +kernel
theorem d_Bld_chooseCommands_51 : decode prog_2_method_8_code 51 = .ok (.ireturn, 1) := by decide +kernel
theorem d_Bld_chooseCommands_52 : decode prog_2_method_8_code 52 = .ok (.aload_n 1, 1) := by decide +kernel
theorem d_Bld_chooseCommands_53 : decode prog_2_method_8_code 53 = .ok (.aload_n 0, 1) := by decide +kernel
theorem d_Bld_chooseCommands_54 : decode prog_2_method_8_code 54 = .ok (.getfield 26, 3) := by decide +kernel
theorem d_Bld_chooseCommands_57 : decode prog_2_method_8_code 57 = .ok (.getfield 141, 3) := by decide +kernel
theorem d_Bld_chooseCommands_60 : decode prog_2_method_8_code 60 = .ok (.putfield 97, 3) := by decide +kernel
theorem d_Bld_chooseCommands_63 : decode prog_2_method_8_code 63 = .ok (.aload_n 1, 1) := by decide +kernel
theorem d_Bld_chooseCommands_64 : decode prog_2_method_8_code 64 = .ok (.iconst 1, 1) := by decide +kernel
theorem d_Bld_chooseCommands_65 : decode prog_2_method_8_code 65 = .ok (.putfield 128, 3) := by decide +kernel
theorem d_Bld_chooseCommands_68 : decode prog_2_method_8_code 68 = .ok (.aload_n 1, 1) := by decide +kernel
theorem d_Bld_chooseCommands_69 : decode prog_2_method_8_code 69 = .ok (.getfield 97, 3) := by decide +kernel
theorem d_Bld_chooseCommands_72 : decode prog_2_method_8_code 72 = .ok (.iconst (-1), 1) := by decide +kernel
theorem d_Bld_chooseCommands_73 : decode prog_2_method_8_code 73 = .ok (.if_icmp .eq 7, 3) := by decide +kernel
theorem d_Bld_chooseCommands_76 : decode prog_2_method_8_code 76 = .ok (.iconst 1, 1) := by decide +kernel
theorem d_Bld_chooseCommands_77 : decode prog_2_method_8_code 77 = .ok (.goto 4, 3) := by decide +kernel
theorem d_Bld_chooseCommands_80 : decode prog_2_method_8_code 80 = .ok (.iconst 0, 1) := by decide +kernel
theorem d_Bld_chooseCommands_81 : decode prog_2_method_8_code 81 = .ok (.ireturn, 1) := by decide +kernel
noncomputable def f_Bld_chooseCommands (r0 : Option Nat) (r1 : Option Nat) (σ : rb_St) : Option rb_Rs :=
  (rb_gI σ r1 12 9).bind fun x_1 => (rb_pI σ r1 12 12 x_1).bind fun σ_2 => (rb_pR σ_2 r1 12 14 none).bind fun σ_3 => (rb_pZ σ_3 r1 12 13 (0 : Int32)).bind fun σ_4 => (rb_gI σ_4 r1 12 12).bind fun x_5 => if x_5 = (-1 : Int32) then ((rb_fc σ_4 r0 9).bind fun _ => rb_cI (f_Bld_findEndingRule (r0) (r1) σ_4) fun x_6 σ_7 => if x_6 = 0 then ((rb_gI σ_7 r1 12 4).bind fun x_8 => if x_8 = 0 then ((rb_fc σ_7 r1 12).bind fun _ => rb_cI (f_Name_isFile (r1)  σ_7) fun x_9 σ_10 => if x_9 = 0 then ((rb_gR σ_10 r0 9 1).bind fun r_11 => (rb_gI σ_10 r_11 4 11).bind fun x_12 => (rb_pI σ_10 r1 12 12 x_12).bind fun σ_13 => (rb_pZ σ_13 r1 12 13 (1 : Int32)).bind fun σ_14 => (rb_gI σ_14 r1 12 12).bind fun x_15 => if x_15 = (-1 : Int32) then (some (some (.int (0 : Int32)), σ_14)) else (some (some (.int (1 : Int32)), σ_14))) else (some (some (.int (1 : Int32)), σ_10))) else (some (some (.int (1 : Int32)), σ_7))) else (some (some (.int (1 : Int32)), σ_7))) else (some (some (.int (1 : Int32)), σ_4))
theorem s_Bld_chooseCommands {E : rb_EV} {d : Nat} (hdd : 8 ≤ d) (r0 : Option Nat) (r1 : Option Nat) (σ : rb_St) : rb_Does E k_Bld_chooseCommands d [va_rf r0, va_rf r1] σ (f_Bld_chooseCommands r0 r1 σ) := by
  refine rb_start (lv := [some (va_rf r0), some (va_rf r1)]) (by decide) (by simp [lg_sl, rb_as, lv_args, rb_cat_r, rb_cat_i, rb_cat_l, rb_nL, k_Bld_chooseCommands]) (fun res => ?_)
  unfold f_Bld_chooseCommands
  refine rb_TC.mono (rk_aload_n 1 d_Bld_chooseCommands_0 rfl rfl) ?_
  refine rb_TC.mono (rk_aload_n 1 d_Bld_chooseCommands_1 rfl rfl) ?_
  refine rt_gI r1 fw_Bld_125 d_Bld_chooseCommands_2 (fun x_1 => ?_)
  refine rt_pI r1 fp_Bld_chooseCommands_97 d_Bld_chooseCommands_5 (fun σ_2 => ?_)
  refine rb_TC.mono (rk_aload_n 1 d_Bld_chooseCommands_8 rfl rfl) ?_
  refine rb_TC.mono (rk_null d_Bld_chooseCommands_9) ?_
  refine rt_pR r1 fp_Bld_chooseCommands_108 d_Bld_chooseCommands_10 (fun σ_3 => ?_)
  refine rb_TC.mono (rk_aload_n 1 d_Bld_chooseCommands_13 rfl rfl) ?_
  refine rb_TC.mono (rk_iconst (0 : Int32) d_Bld_chooseCommands_14 (by decide)) ?_
  refine rt_pZ r1 fp_Bld_chooseCommands_128 d_Bld_chooseCommands_15 (fun σ_4 => ?_)
  refine rb_TC.mono (rk_aload_n 1 d_Bld_chooseCommands_18 rfl rfl) ?_
  refine rt_gI r1 fw_Bld_97 d_Bld_chooseCommands_19 (fun x_5 => ?_)
  refine rb_TC.mono (rk_iconst (-1 : Int32) d_Bld_chooseCommands_22 (by decide)) ?_
  refine rt_icmp_ne 34 d_Bld_chooseCommands_23 (by decide) (fun _ => ?_) (fun _ => ?_)
  · refine rb_TC.mono (rk_aload_n 0 d_Bld_chooseCommands_26 rfl rfl) ?_
    refine rb_TC.mono (rk_aload_n 1 d_Bld_chooseCommands_27 rfl rfl) ?_
    refine rt_vI (As := [va_rf r1]) (st := []) (r0) vw_Bld_131 (s_Bld_findEndingRule (Nat.le_refl _) (r0) (r1) σ_4) (Nat.le_trans (by decide) hdd) rfl (by simp [rb_cat_r, rb_cat_i, rb_cat_l]) d_Bld_chooseCommands_28 (fun x_6 σ_7 => ?_)
    refine rt_if_eq 36 d_Bld_chooseCommands_31 (by decide) (fun _ => ?_) (fun _ => ?_)
    · refine rb_TC.mono (rk_aload_n 1 d_Bld_chooseCommands_36 rfl rfl) ?_
      refine rt_gI r1 fw_Bld_134 d_Bld_chooseCommands_37 (fun x_8 => ?_)
      refine rt_if_ne 50 d_Bld_chooseCommands_40 (by decide) (fun _ => ?_) (fun _ => ?_)
      · refine rb_TC.mono (rk_aload_n 1 d_Bld_chooseCommands_43 rfl rfl) ?_
        refine rt_vI (As := []) (st := []) (r1) vw_Bld_137 (s_Name_isFile (Nat.le_refl _) (r1)  σ_7) (Nat.le_trans (by decide) hdd) rfl (by simp [rb_cat_r, rb_cat_i, rb_cat_l]) d_Bld_chooseCommands_44 (fun x_9 σ_10 => ?_)
        refine rt_if_eq 52 d_Bld_chooseCommands_47 (by decide) (fun _ => ?_) (fun _ => ?_)
        · refine rb_TC.mono (rk_aload_n 1 d_Bld_chooseCommands_52 rfl rfl) ?_
          refine rb_TC.mono (rk_aload_n 0 d_Bld_chooseCommands_53 rfl rfl) ?_
          refine rt_gR r0 fw_Bld_26 d_Bld_chooseCommands_54 (fun r_11 => ?_)
          refine rt_gI r_11 fw_Bld_141 d_Bld_chooseCommands_57 (fun x_12 => ?_)
          refine rt_pI r1 fp_Bld_chooseCommands_97 d_Bld_chooseCommands_60 (fun σ_13 => ?_)
          refine rb_TC.mono (rk_aload_n 1 d_Bld_chooseCommands_63 rfl rfl) ?_
          refine rb_TC.mono (rk_iconst (1 : Int32) d_Bld_chooseCommands_64 (by decide)) ?_
          refine rt_pZ r1 fp_Bld_chooseCommands_128 d_Bld_chooseCommands_65 (fun σ_14 => ?_)
          refine rb_TC.mono (rk_aload_n 1 d_Bld_chooseCommands_68 rfl rfl) ?_
          refine rt_gI r1 fw_Bld_97 d_Bld_chooseCommands_69 (fun x_15 => ?_)
          refine rb_TC.mono (rk_iconst (-1 : Int32) d_Bld_chooseCommands_72 (by decide)) ?_
          refine rt_icmp_eq 80 d_Bld_chooseCommands_73 (by decide) (fun _ => ?_) (fun _ => ?_)
          · refine rb_TC.mono (rk_iconst (0 : Int32) d_Bld_chooseCommands_80 (by decide)) ?_
            exact rt_iret (ty := .boolean) rfl (by decide) (fun h => h) d_Bld_chooseCommands_81
          · refine rb_TC.mono (rk_iconst (1 : Int32) d_Bld_chooseCommands_76 (by decide)) ?_
            refine rb_TC.mono (rk_goto 81 d_Bld_chooseCommands_77 (by decide)) ?_
            exact rt_iret (ty := .boolean) rfl (by decide) (fun h => h) d_Bld_chooseCommands_81
        · refine rb_TC.mono (rk_iconst (1 : Int32) d_Bld_chooseCommands_50 (by decide)) ?_
          exact rt_iret (ty := .boolean) rfl (by decide) (fun h => h) d_Bld_chooseCommands_51
      · refine rb_TC.mono (rk_iconst (1 : Int32) d_Bld_chooseCommands_50 (by decide)) ?_
        exact rt_iret (ty := .boolean) rfl (by decide) (fun h => h) d_Bld_chooseCommands_51
    · refine rb_TC.mono (rk_iconst (1 : Int32) d_Bld_chooseCommands_34 (by decide)) ?_
      exact rt_iret (ty := .boolean) rfl (by decide) (fun h => h) d_Bld_chooseCommands_35
  · refine rb_TC.mono (rk_iconst (1 : Int32) d_Bld_chooseCommands_34 (by decide)) ?_
    exact rt_iret (ty := .boolean) rfl (by decide) (fun h => h) d_Bld_chooseCommands_35
-- ===== RuleBuilder$Builder.has(I)Z
def k_Bld_has : rb_MK := (⟨"RuleBuilder$Builder", "has", "(I)Z"⟩, prog_2_method_4_code, 2, some (.boolean))
theorem mw_Bld_has : rb_Mw k_Bld_has 1 := ⟨rb_inG 1071 (by decide +kernel) rfl, rb_inG 93 (by decide +kernel) rfl, ⟨by decide, by decide, by decide +kernel⟩, by decide⟩
theorem d_Bld_has_0 : decode prog_2_method_4_code 0 = .ok (.aload_n 0, 1) := by decide +kernel
theorem d_Bld_has_1 : decode prog_2_method_4_code 1 = .ok (.getfield 38, 3) := by decide +kernel
theorem d_Bld_has_4 : decode prog_2_method_4_code 4 = .ok (.iload_n 1, 1) := by decide +kernel
theorem d_Bld_has_5 : decode prog_2_method_4_code 5 = .ok (.iand, 1) := by decide +kernel
theorem d_Bld_has_6 : decode prog_2_method_4_code 6 = .ok (.ifCond .eq 7, 3) := by decide +kernel
theorem d_Bld_has_9 : decode prog_2_method_4_code 9 = .ok (.iconst 1, 1) := by decide +kernel
theorem d_Bld_has_10 : decode prog_2_method_4_code 10 = .ok (.goto 4, 3) := by decide +kernel
theorem d_Bld_has_13 : decode prog_2_method_4_code 13 = .ok (.iconst 0, 1) := by decide +kernel
theorem d_Bld_has_14 : decode prog_2_method_4_code 14 = .ok (.ireturn, 1) := by decide +kernel
noncomputable def f_Bld_has (r0 : Option Nat) (x1 : Int32) (σ : rb_St) : Option rb_Rs :=
  (rb_gI σ r0 9 5).bind fun x_1 => if (x_1 &&& x1) = 0 then (some (some (.int (0 : Int32)), σ)) else (some (some (.int (1 : Int32)), σ))
theorem s_Bld_has {E : rb_EV} {d : Nat} (hdd : 0 ≤ d) (r0 : Option Nat) (x1 : Int32) (σ : rb_St) : rb_Does E k_Bld_has d [va_rf r0, .int x1] σ (f_Bld_has r0 x1 σ) := by
  refine rb_start (lv := [some (va_rf r0), some (.int x1)]) (by decide) (by simp [lg_sl, rb_as, lv_args, rb_cat_r, rb_cat_i, rb_cat_l, rb_nL, k_Bld_has]) (fun res => ?_)
  unfold f_Bld_has
  refine rb_TC.mono (rk_aload_n 0 d_Bld_has_0 rfl rfl) ?_
  refine rt_gI r0 fw_Bld_38 d_Bld_has_1 (fun x_1 => ?_)
  refine rb_TC.mono (rk_iload_n 1 d_Bld_has_4 rfl rfl) ?_
  refine rb_TC.mono (rk_iand d_Bld_has_5) ?_
  refine rt_if_eq 13 d_Bld_has_6 (by decide) (fun _ => ?_) (fun _ => ?_)
  · refine rb_TC.mono (rk_iconst (0 : Int32) d_Bld_has_13 (by decide)) ?_
    exact rt_iret (ty := .boolean) rfl (by decide) (fun h => h) d_Bld_has_14
  · refine rb_TC.mono (rk_iconst (1 : Int32) d_Bld_has_9 (by decide)) ?_
    refine rb_TC.mono (rk_goto 14 d_Bld_has_10 (by decide)) ?_
    exact rt_iret (ty := .boolean) rfl (by decide) (fun h => h) d_Bld_has_14
-- ===== RuleBuilder$Builder.noteIfNewer(LRuleBuilder$Name;LRuleBuilder$Name;)Z
def k_Bld_noteIfNewer : rb_MK := (⟨"RuleBuilder$Builder", "noteIfNewer", "(LRuleBuilder$Name;LRuleBuilder$Name;)Z"⟩, prog_2_method_12_code, 3, some (.boolean))
theorem mw_Bld_noteIfNewer : rb_Mw k_Bld_noteIfNewer 2 := ⟨rb_inG 1079 (by decide +kernel) rfl, rb_inG 93 (by decide +kernel) rfl, ⟨by decide, by decide, by decide +kernel⟩, by decide⟩
theorem fw_Bld_191 : rb_Fw "RuleBuilder$Builder" 191 5 1 := ⟨_, rfl, by decide, by decide, by decide, rfl, rb_inG 231 (by decide +kernel) rfl⟩
theorem fw_Bld_203 : rb_Fw "RuleBuilder$Builder" 203 12 2 := ⟨_, rfl, by decide, by decide, by decide, rfl, rb_inG 888 (by decide +kernel) rfl⟩
theorem fw_Bld_69 : rb_Fw "RuleBuilder$Builder" 69 12 10 := ⟨_, rfl, by decide, by decide, by decide, rfl, rb_inG 912 (by decide +kernel) rfl⟩
theorem vw_Bld_206 : rb_Vw "RuleBuilder$Builder" 206 k_Text_add 2 1 := ⟨mw_Text_add, rb_inG 1080 (by decide +kernel) rfl, rb_inG 392 (by decide +kernel) rfl, rb_inG 393 (by decide +kernel) rfl, by decide, by decide, _, rfl, rfl⟩
theorem d_Bld_noteIfNewer_0 : decode prog_2_method_12_code 0 = .ok (.aload_n 1, 1) := by decide +kernel
theorem d_Bld_noteIfNewer_1 : decode prog_2_method_12_code 1 = .ok (.ifnull 22, 3) := by decide +kernel
theorem d_Bld_noteIfNewer_4 : decode prog_2_method_12_code 4 = .ok (.aload_n 1, 1) := by decide +kernel
theorem d_Bld_noteIfNewer_5 : decode prog_2_method_12_code 5 = .ok (.getfield 69, 3) := by decide +kernel
theorem d_Bld_noteIfNewer_8 : decode prog_2_method_12_code 8 = .ok (.iconst 2, 1) := by decide +kernel
theorem d_Bld_noteIfNewer_9 : decode prog_2_method_12_code 9 = .ok (.if_icmp .eq 16, 3) := by decide +kernel
theorem d_Bld_noteIfNewer_12 : decode prog_2_method_12_code 12 = .ok (.aload_n 1, 1) := by decide +kernel
theorem d_Bld_noteIfNewer_13 : decode prog_2_method_12_code 13 = .ok (.getfield 203, 3) := by decide +kernel
theorem d_Bld_noteIfNewer_16 : decode prog_2_method_12_code 16 = .ok (.aload_n 2, 1) := by decide +kernel
theorem d_Bld_noteIfNewer_17 : decode prog_2_method_12_code 17 = .ok (.getfield 203, 3) := by decide +kernel
theorem d_Bld_noteIfNewer_20 : decode prog_2_method_12_code 20 = .ok (.if_icmp .gt 5, 3) := by decide +kernel
theorem d_Bld_noteIfNewer_23 : decode prog_2_method_12_code 23 = .ok (.iconst 0, 1) := by decide +kernel
theorem d_Bld_noteIfNewer_24 : decode prog_2_method_12_code 24 = .ok (.ireturn, 1) := by decide +kernel
theorem d_Bld_noteIfNewer_25 : decode prog_2_method_12_code 25 = .ok (.aload_n 0, 1) := by decide +kernel
theorem d_Bld_noteIfNewer_26 : decode prog_2_method_12_code 26 = .ok (.getfield 30, 3) := by decide +kernel
theorem d_Bld_noteIfNewer_29 : decode prog_2_method_12_code 29 = .ok (.getfield 191, 3) := by decide +kernel
theorem d_Bld_noteIfNewer_32 : decode prog_2_method_12_code 32 = .ok (.invokevirtual 183, 3) := by decide +kernel
theorem d_Bld_noteIfNewer_35 : decode prog_2_method_12_code 35 = .ok (.ifCond .le 16, 3) := by decide +kernel
theorem d_Bld_noteIfNewer_38 : decode prog_2_method_12_code 38 = .ok (.aload_n 0, 1) := by decide +kernel
theorem d_Bld_noteIfNewer_39 : decode prog_2_method_12_code 39 = .ok (.getfield 30, 3) := by decide +kernel
theorem d_Bld_noteIfNewer_42 : decode prog_2_method_12_code 42 = .ok (.getfield 191, 3) := by decide +kernel
theorem d_Bld_noteIfNewer_45 : decode prog_2_method_12_code 45 = .ok (.bipush 32, 2) := by decide +kernel
theorem d_Bld_noteIfNewer_47 : decode prog_2_method_12_code 47 = .ok (.invokevirtual 206, 3) := by decide +kernel
theorem d_Bld_noteIfNewer_50 : decode prog_2_method_12_code 50 = .ok (.pop, 1) := by decide +kernel
theorem d_Bld_noteIfNewer_51 : decode prog_2_method_12_code 51 = .ok (.aload_n 0, 1) := by decide +kernel
theorem d_Bld_noteIfNewer_52 : decode prog_2_method_12_code 52 = .ok (.getfield 30, 3) := by decide +kernel
theorem d_Bld_noteIfNewer_55 : decode prog_2_method_12_code 55 = .ok (.getfield 191, 3) := by decide +kernel
theorem d_Bld_noteIfNewer_58 : decode prog_2_method_12_code 58 = .ok (.aload_n 1, 1) := by decide +kernel
theorem d_Bld_noteIfNewer_59 : decode prog_2_method_12_code 59 = .ok (.getfield 144, 3) := by decide +kernel
theorem d_Bld_noteIfNewer_62 : decode prog_2_method_12_code 62 = .ok (.iconst 0, 1) := by decide +kernel
theorem d_Bld_noteIfNewer_63 : decode prog_2_method_12_code 63 = .ok (.aload_n 1, 1) := by decide +kernel
theorem d_Bld_noteIfNewer_64 : decode prog_2_method_12_code 64 = .ok (.getfield 144, 3) := by decide +kernel
theorem d_Bld_noteIfNewer_67 : decode prog_2_method_12_code 67 = .ok (.invokevirtual 148, 3) := by decide +kernel
theorem d_Bld_noteIfNewer_70 : decode prog_2_method_12_code 70 = .ok (.invokevirtual 179, 3) := by decide +kernel
theorem d_Bld_noteIfNewer_73 : decode prog_2_method_12_code 73 = .ok (.pop, 1) := by decide +kernel
theorem d_Bld_noteIfNewer_74 : decode prog_2_method_12_code 74 = .ok (.iconst 1, 1) := by decide +kernel
theorem d_Bld_noteIfNewer_75 : decode prog_2_method_12_code 75 = .ok (.ireturn, 1) := by decide +kernel
noncomputable def f_Bld_noteIfNewer_j51 (r0 : Option Nat) (r1 : Option Nat) (σ : rb_St) : Option rb_Rs :=
  (rb_gR σ r0 9 2).bind fun r_6 => (rb_gR σ r_6 5 1).bind fun r_7 => (rb_gR σ r1 12 1).bind fun r_8 => (rb_gR σ r1 12 1).bind fun r_9 => (rb_fc σ r_9 14).bind fun _ => rb_cI (f_Str_length (r_9)  σ) fun x_10 σ_11 => (rb_fc σ_11 r_7 2).bind fun _ => rb_cI (f_Text_addPart (r_7) (r_8) ((0 : Int32)) (x_10) σ_11) fun x_12 σ_13 => some (some (.int (1 : Int32)), σ_13)
theorem t_Bld_noteIfNewer_j51 {E : rb_EV} {d : Nat} {σ0 : rb_St} {res : rb_Rs} (hdd : 5 ≤ d)  (r0 : Option Nat) (r1 : Option Nat) (σ : rb_St) : rb_TC (f_Bld_noteIfNewer_j51 r0 r1 σ) (fun r => r = res) (rb_WK E k_Bld_noteIfNewer d σ0 res 51 [some (va_rf r0), some (va_rf r1), none] [] σ) := by
  unfold f_Bld_noteIfNewer_j51
  refine rb_TC.mono (rk_aload_n 0 d_Bld_noteIfNewer_51 rfl rfl) ?_
  refine rt_gR r0 fw_Bld_30 d_Bld_noteIfNewer_52 (fun r_6 => ?_)
  refine rt_gR r_6 fw_Bld_191 d_Bld_noteIfNewer_55 (fun r_7 => ?_)
  refine rb_TC.mono (rk_aload_n 1 d_Bld_noteIfNewer_58 rfl rfl) ?_
  refine rt_gR r1 fw_Bld_144 d_Bld_noteIfNewer_59 (fun r_8 => ?_)
  refine rb_TC.mono (rk_iconst (0 : Int32) d_Bld_noteIfNewer_62 (by decide)) ?_
  refine rb_TC.mono (rk_aload_n 1 d_Bld_noteIfNewer_63 rfl rfl) ?_
  refine rt_gR r1 fw_Bld_144 d_Bld_noteIfNewer_64 (fun r_9 => ?_)
  refine rt_vI (As := []) (st := [.int (0 : Int32), va_rf r_8, va_rf r_7]) (r_9) vw_Bld_148 (s_Str_length (Nat.le_refl _) (r_9)  σ) (Nat.le_trans (by decide) hdd) rfl (by simp [rb_cat_r, rb_cat_i, rb_cat_l]) d_Bld_noteIfNewer_67 (fun x_10 σ_11 => ?_)
  refine rt_vI (As := [va_rf r_8, .int (0 : Int32), .int x_10]) (st := []) (r_7) vw_Bld_179 (s_Text_addPart (Nat.le_refl _) (r_7) (r_8) ((0 : Int32)) (x_10) σ_11) (Nat.le_trans (by decide) hdd) rfl (by simp [rb_cat_r, rb_cat_i, rb_cat_l]) d_Bld_noteIfNewer_70 (fun x_12 σ_13 => ?_)
  refine rb_TC.mono (rk_popi d_Bld_noteIfNewer_73) ?_
  refine rb_TC.mono (rk_iconst (1 : Int32) d_Bld_noteIfNewer_74 (by decide)) ?_
  exact rt_iret (ty := .boolean) rfl (by decide) (fun h => h) d_Bld_noteIfNewer_75
noncomputable def f_Bld_noteIfNewer_j25 (r0 : Option Nat) (r1 : Option Nat) (σ : rb_St) : Option rb_Rs :=
  (rb_gR σ r0 9 2).bind fun r_2 => (rb_gR σ r_2 5 1).bind fun r_3 => (rb_fc σ r_3 2).bind fun _ => rb_cI (f_Text_length (r_3)  σ) fun x_4 σ_5 => if x_4 ≤ 0 then (f_Bld_noteIfNewer_j51 (r0) (r1) σ_5) else ((rb_gR σ_5 r0 9 2).bind fun r_14 => (rb_gR σ_5 r_14 5 1).bind fun r_15 => (rb_fc σ_5 r_15 2).bind fun _ => rb_cI (f_Text_add (r_15) ((32 : Int32)) σ_5) fun x_16 σ_17 => f_Bld_noteIfNewer_j51 (r0) (r1) σ_17)
theorem t_Bld_noteIfNewer_j25 {E : rb_EV} {d : Nat} {σ0 : rb_St} {res : rb_Rs} (hdd : 5 ≤ d)  (r0 : Option Nat) (r1 : Option Nat) (σ : rb_St) : rb_TC (f_Bld_noteIfNewer_j25 r0 r1 σ) (fun r => r = res) (rb_WK E k_Bld_noteIfNewer d σ0 res 25 [some (va_rf r0), some (va_rf r1), none] [] σ) := by
  unfold f_Bld_noteIfNewer_j25
  refine rb_TC.mono (rk_aload_n 0 d_Bld_noteIfNewer_25 rfl rfl) ?_
  refine rt_gR r0 fw_Bld_30 d_Bld_noteIfNewer_26 (fun r_2 => ?_)
  refine rt_gR r_2 fw_Bld_191 d_Bld_noteIfNewer_29 (fun r_3 => ?_)
  refine rt_vI (As := []) (st := []) (r_3) vw_Bld_183 (s_Text_length (Nat.le_refl _) (r_3)  σ) (Nat.le_trans (by decide) hdd) rfl (by simp [rb_cat_r, rb_cat_i, rb_cat_l]) d_Bld_noteIfNewer_32 (fun x_4 σ_5 => ?_)
  refine rt_if_le 51 d_Bld_noteIfNewer_35 (by decide) (fun _ => ?_) (fun _ => ?_)
  · exact t_Bld_noteIfNewer_j51 hdd  (r0) (r1) σ_5
  · refine rb_TC.mono (rk_aload_n 0 d_Bld_noteIfNewer_38 rfl rfl) ?_
    refine rt_gR r0 fw_Bld_30 d_Bld_noteIfNewer_39 (fun r_14 => ?_)
    refine rt_gR r_14 fw_Bld_191 d_Bld_noteIfNewer_42 (fun r_15 => ?_)
    refine rb_TC.mono (rk_bipush (32 : Int32) d_Bld_noteIfNewer_45 (by decide)) ?_
    refine rt_vI (As := [.int (32 : Int32)]) (st := []) (r_15) vw_Bld_206 (s_Text_add (Nat.le_refl _) (r_15) ((32 : Int32)) σ_5) (Nat.le_trans (by decide) hdd) rfl (by simp [rb_cat_r, rb_cat_i, rb_cat_l]) d_Bld_noteIfNewer_47 (fun x_16 σ_17 => ?_)
    refine rb_TC.mono (rk_popi d_Bld_noteIfNewer_50) ?_
    exact t_Bld_noteIfNewer_j51 hdd  (r0) (r1) σ_17
noncomputable def f_Bld_noteIfNewer (r0 : Option Nat) (r1 : Option Nat) (r2 : Option Nat) (σ : rb_St) : Option rb_Rs :=
  if r1 = none then (some (some (.int (0 : Int32)), σ)) else ((rb_gI σ r1 12 10).bind fun x_1 => if x_1 = (2 : Int32) then (f_Bld_noteIfNewer_j25 (r0) (r1) σ) else ((rb_gI σ r1 12 2).bind fun x_18 => (rb_gI σ r2 12 2).bind fun x_19 => if x_19 < x_18 then (f_Bld_noteIfNewer_j25 (r0) (r1) σ) else (some (some (.int (0 : Int32)), σ))))
theorem s_Bld_noteIfNewer {E : rb_EV} {d : Nat} (hdd : 5 ≤ d) (r0 : Option Nat) (r1 : Option Nat) (r2 : Option Nat) (σ : rb_St) : rb_Does E k_Bld_noteIfNewer d [va_rf r0, va_rf r1, va_rf r2] σ (f_Bld_noteIfNewer r0 r1 r2 σ) := by
  refine rb_start (lv := [some (va_rf r0), some (va_rf r1), some (va_rf r2)]) (by decide) (by simp [lg_sl, rb_as, lv_args, rb_cat_r, rb_cat_i, rb_cat_l, rb_nL, k_Bld_noteIfNewer]) (fun res => ?_)
  unfold f_Bld_noteIfNewer
  refine rb_TC.mono (rk_aload_n 1 d_Bld_noteIfNewer_0 rfl rfl) ?_
  refine rt_ifnull 23 d_Bld_noteIfNewer_1 (by decide) (fun _ => ?_) (fun _ => ?_)
  · refine rb_TC.mono (rk_iconst (0 : Int32) d_Bld_noteIfNewer_23 (by decide)) ?_
    exact rt_iret (ty := .boolean) rfl (by decide) (fun h => h) d_Bld_noteIfNewer_24
  · refine rb_TC.mono (rk_aload_n 1 d_Bld_noteIfNewer_4 rfl rfl) ?_
    refine rt_gI r1 fw_Bld_69 d_Bld_noteIfNewer_5 (fun x_1 => ?_)
    refine rb_TC.mono (rk_iconst (2 : Int32) d_Bld_noteIfNewer_8 (by decide)) ?_
    refine rt_icmp_eq 25 d_Bld_noteIfNewer_9 (by decide) (fun _ => ?_) (fun _ => ?_)
    · refine rb_TC.mono (rk_less (lv2 := [some (va_rf r0), some (va_rf r1), none]) (rb_le_ok (rb_leS (rb_leS (rb_leN rb_le0))))) ?_
      exact t_Bld_noteIfNewer_j25 hdd  (r0) (r1) σ
    · refine rb_TC.mono (rk_aload_n 1 d_Bld_noteIfNewer_12 rfl rfl) ?_
      refine rt_gI r1 fw_Bld_203 d_Bld_noteIfNewer_13 (fun x_18 => ?_)
      refine rb_TC.mono (rk_aload_n 2 d_Bld_noteIfNewer_16 rfl rfl) ?_
      refine rt_gI r2 fw_Bld_203 d_Bld_noteIfNewer_17 (fun x_19 => ?_)
      refine rt_icmp_gt 25 d_Bld_noteIfNewer_20 (by decide) (fun _ => ?_) (fun _ => ?_)
      · refine rb_TC.mono (rk_less (lv2 := [some (va_rf r0), some (va_rf r1), none]) (rb_le_ok (rb_leS (rb_leS (rb_leN rb_le0))))) ?_
        exact t_Bld_noteIfNewer_j25 hdd  (r0) (r1) σ
      · refine rb_TC.mono (rk_iconst (0 : Int32) d_Bld_noteIfNewer_23 (by decide)) ?_
        exact rt_iret (ty := .boolean) rfl (by decide) (fun h => h) d_Bld_noteIfNewer_24
-- ===== RuleBuilder$Builder.isOutOfDate(LRuleBuilder$Name;)Z
def k_Bld_isOutOfDate : rb_MK := (⟨"RuleBuilder$Builder", "isOutOfDate", "(LRuleBuilder$Name;)Z"⟩, prog_2_method_11_code, 4, some (.boolean))
theorem mw_Bld_isOutOfDate : rb_Mw k_Bld_isOutOfDate 1 := ⟨rb_inG 1075 (by decide +kernel) rfl, rb_inG 93 (by decide +kernel) rfl, ⟨by decide, by decide, by decide +kernel⟩, by decide⟩
theorem fw_Bld_115 : rb_Fw "RuleBuilder$Builder" 115 4 10 := ⟨_, rfl, by decide, by decide, by decide, rfl, rb_inG 172 (by decide +kernel) rfl⟩
theorem fw_Bld_118 : rb_Fw "RuleBuilder$Builder" 118 4 8 := ⟨_, rfl, by decide, by decide, by decide, rfl, rb_inG 168 (by decide +kernel) rfl⟩
theorem fw_Bld_122 : rb_Fw "RuleBuilder$Builder" 122 4 9 := ⟨_, rfl, by decide, by decide, by decide, rfl, rb_inG 170 (by decide +kernel) rfl⟩
theorem fw_Bld_200 : rb_Fw "RuleBuilder$Builder" 200 12 5 := ⟨_, rfl, by decide, by decide, by decide, rfl, rb_inG 898 (by decide +kernel) rfl⟩
theorem vw_Bld_196 : rb_Vw "RuleBuilder$Builder" 196 k_Bld_noteIfNewer 9 2 := ⟨mw_Bld_noteIfNewer, rb_inG 1076 (by decide +kernel) rfl, rb_inG 1078 (by decide +kernel) rfl, rb_inG 25 (by decide +kernel) rfl, by decide, by decide, _, rfl, rfl⟩
theorem d_Bld_isOutOfDate_0 : decode prog_2_method_11_code 0 = .ok (.aload_n 0, 1) := by decide +kernel
theorem d_Bld_isOutOfDate_1 : decode prog_2_method_11_code 1 = .ok (.getfield 30, 3) := by decide +kernel
theorem d_Bld_isOutOfDate_4 : decode prog_2_method_11_code 4 = .ok (.getfield 191, 3) := by decide +kernel
theorem d_Bld_isOutOfDate_7 : decode prog_2_method_11_code 7 = .ok (.invokevirtual 54, 3) := by decide +kernel
theorem d_Bld_isOutOfDate_10 : decode prog_2_method_11_code 10 = .ok (.aload_n 0, 1) := by decide +kernel
theorem d_Bld_isOutOfDate_11 : decode prog_2_method_11_code 11 = .ok (.aload_n 1, 1) := by decide +kernel
theorem d_Bld_isOutOfDate_12 : decode prog_2_method_11_code 12 = .ok (.getfield 108, 3) := by decide +kernel
theorem d_Bld_isOutOfDate_15 : decode prog_2_method_11_code 15 = .ok (.aload_n 1, 1) := by decide +kernel
theorem d_Bld_isOutOfDate_16 : decode prog_2_method_11_code 16 = .ok (.invokevirtual 196, 3) := by decide +kernel
theorem d_Bld_isOutOfDate_19 : decode prog_2_method_11_code 19 = .ok (.istore_n 2, 1) := by decide +kernel
theorem d_Bld_isOutOfDate_20 : decode prog_2_method_11_code 20 = .ok (.iconst 0, 1) := by decide +kernel
theorem d_Bld_isOutOfDate_21 : decode prog_2_method_11_code 21 = .ok (.istore_n 3, 1) := by decide +kernel
theorem d_Bld_isOutOfDate_22 : decode prog_2_method_11_code 22 = .ok (.iload_n 3, 1) := by decide +kernel
theorem d_Bld_isOutOfDate_23 : decode prog_2_method_11_code 23 = .ok (.aload_n 0, 1) := by decide +kernel
theorem d_Bld_isOutOfDate_24 : decode prog_2_method_11_code 24 = .ok (.getfield 26, 3) := by decide +kernel
theorem d_Bld_isOutOfDate_27 : decode prog_2_method_11_code 27 = .ok (.getfield 115, 3) := by decide +kernel
theorem d_Bld_isOutOfDate_30 : decode prog_2_method_11_code 30 = .ok (.if_icmp .ge 49, 3) := by decide +kernel
theorem d_Bld_isOutOfDate_33 : decode prog_2_method_11_code 33 = .ok (.aload_n 0, 1) := by decide +kernel
theorem d_Bld_isOutOfDate_34 : decode prog_2_method_11_code 34 = .ok (.getfield 26, 3) := by decide +kernel
theorem d_Bld_isOutOfDate_37 : decode prog_2_method_11_code 37 = .ok (.getfield 118, 3) := by decide +kernel
theorem d_Bld_isOutOfDate_40 : decode prog_2_method_11_code 40 = .ok (.iload_n 3, 1) := by decide +kernel
theorem d_Bld_isOutOfDate_41 : decode prog_2_method_11_code 41 = .ok (.aaload, 1) := by decide +kernel
theorem d_Bld_isOutOfDate_42 : decode prog_2_method_11_code 42 = .ok (.aload_n 1, 1) := by decide +kernel
theorem d_Bld_isOutOfDate_43 : decode prog_2_method_11_code 43 = .ok (.if_acmp .ne 30, 3) := by decide +kernel
theorem d_Bld_isOutOfDate_46 : decode prog_2_method_11_code 46 = .ok (.aload_n 0, 1) := by decide +kernel
theorem d_Bld_isOutOfDate_47 : decode prog_2_method_11_code 47 = .ok (.aload_n 0, 1) := by decide +kernel
theorem d_Bld_isOutOfDate_48 : decode prog_2_method_11_code 48 = .ok (.getfield 26, 3) := by decide +kernel
theorem d_Bld_isOutOfDate_51 : decode prog_2_method_11_code 51 = .ok (.getfield 122, 3) := by decide +kernel
theorem d_Bld_isOutOfDate_54 : decode prog_2_method_11_code 54 = .ok (.iload_n 3, 1) := by decide +kernel
theorem d_Bld_isOutOfDate_55 : decode prog_2_method_11_code 55 = .ok (.aaload, 1) := by decide +kernel
theorem d_Bld_isOutOfDate_56 : decode prog_2_method_11_code 56 = .ok (.aload_n 1, 1) := by decide +kernel
theorem d_Bld_isOutOfDate_57 : decode prog_2_method_11_code 57 = .ok (.invokevirtual 196, 3) := by decide +kernel
theorem d_Bld_isOutOfDate_60 : decode prog_2_method_11_code 60 = .ok (.ifCond .ne 7, 3) := by decide +kernel
theorem d_Bld_isOutOfDate_63 : decode prog_2_method_11_code 63 = .ok (.iload_n 2, 1) := by decide +kernel
theorem d_Bld_isOutOfDate_64 : decode prog_2_method_11_code 64 = .ok (.ifCond .eq 7, 3) := by decide +kernel
theorem d_Bld_isOutOfDate_67 : decode prog_2_method_11_code 67 = .ok (.iconst 1, 1) := by decide +kernel
theorem d_Bld_isOutOfDate_68 : decode prog_2_method_11_code 68 = .ok (.goto 4, 3) := by decide +kernel
theorem d_Bld_isOutOfDate_71 : decode prog_2_method_11_code 71 = .ok (.iconst 0, 1) := by decide +kernel
theorem d_Bld_isOutOfDate_72 : decode prog_2_method_11_code 72 = .ok (.istore_n 2, 1) := by decide +kernel
theorem d_Bld_isOutOfDate_73 : decode prog_2_method_11_code 73 = .ok (.iinc 3 1, 3) := by decide +kernel
theorem d_Bld_isOutOfDate_76 : decode prog_2_method_11_code 76 = .ok (.goto (-54), 3) := by decide +kernel
theorem d_Bld_isOutOfDate_79 : decode prog_2_method_11_code 79 = .ok (.iload_n 2, 1) := by decide +kernel
theorem d_Bld_isOutOfDate_80 : decode prog_2_method_11_code 80 = .ok (.ifCond .ne 17, 3) := by decide +kernel
theorem d_Bld_isOutOfDate_83 : decode prog_2_method_11_code 83 = .ok (.aload_n 1, 1) := by decide +kernel
theorem d_Bld_isOutOfDate_84 : decode prog_2_method_11_code 84 = .ok (.getfield 200, 3) := by decide +kernel
theorem d_Bld_isOutOfDate_87 : decode prog_2_method_11_code 87 = .ok (.ifCond .ne 10, 3) := by decide +kernel
theorem d_Bld_isOutOfDate_90 : decode prog_2_method_11_code 90 = .ok (.aload_n 1, 1) := by decide +kernel
theorem d_Bld_isOutOfDate_91 : decode prog_2_method_11_code 91 = .ok (.invokevirtual 137, 3) := by decide +kernel
theorem d_Bld_isOutOfDate_94 : decode prog_2_method_11_code 94 = .ok (.ifCond .ne 7, 3) := by decide +kernel
theorem d_Bld_isOutOfDate_97 : decode prog_2_method_11_code 97 = .ok (.iconst 1, 1) := by decide +kernel
theorem d_Bld_isOutOfDate_98 : decode prog_2_method_11_code 98 = .ok (.goto 4, 3) := by decide +kernel
theorem d_Bld_isOutOfDate_101 : decode prog_2_method_11_code 101 = .ok (.iconst 0, 1) := by decide +kernel
theorem d_Bld_isOutOfDate_102 : decode prog_2_method_11_code 102 = .ok (.ireturn, 1) := by decide +kernel
noncomputable def f_Bld_isOutOfDate_b22 (r0 : Option Nat) (r1 : Option Nat) (x2 : Int32) (x3 : Int32) (σ : rb_St) : Option ((Int32 × Int32 × rb_St) ⊕ rb_Rs) :=
  (rb_gR σ r0 9 1).bind fun r_7 => (rb_gI σ r_7 4 10).bind fun x_8 => if x_8 ≤ x3 then ((if x2 = 0 then ((rb_gI σ r1 12 5).bind fun x_9 => if x_9 = 0 then ((rb_fc σ r1 12).bind fun _ => rb_cI (f_Name_isFile (r1)  σ) fun x_10 σ_11 => if x_10 = 0 then (some (some (.int (1 : Int32)), σ_11)) else (some (some (.int (0 : Int32)), σ_11))) else (some (some (.int (1 : Int32)), σ))) else (some (some (.int (1 : Int32)), σ))).map Sum.inr) else ((rb_gR σ r0 9 1).bind fun r_12 => (rb_gR σ r_12 4 8).bind fun r_13 => (rb_aR σ r_13 112 x3).bind fun r_14 => if r_14 = r1 then ((rb_gR σ r0 9 1).bind fun r_15 => (rb_gR σ r_15 4 9).bind fun r_16 => (rb_aR σ r_16 112 x3).bind fun r_17 => (rb_fc σ r0 9).bind fun _ => rb_cI (f_Bld_noteIfNewer (r0) (r_17) (r1) σ) fun x_18 σ_19 => if x_18 = 0 then (if x2 = 0 then (some (.inl ((0 : Int32), (x3 + 1), σ_19))) else (some (.inl ((1 : Int32), (x3 + 1), σ_19)))) else (some (.inl ((1 : Int32), (x3 + 1), σ_19)))) else (some (.inl (x2, (x3 + 1), σ))))
theorem t_Bld_isOutOfDate_b22 {E : rb_EV} {d : Nat} {σ0 : rb_St} {res : rb_Rs} (hdd : 6 ≤ d)  (r0 : Option Nat) (r1 : Option Nat) (x2 : Int32) (x3 : Int32) (σ : rb_St) : rb_TC (f_Bld_isOutOfDate_b22 r0 r1 x2 x3 σ) (Sum.elim (fun z : (Int32 × Int32 × rb_St) => rb_WK E k_Bld_isOutOfDate d σ0 res 22 [some (va_rf r0), some (va_rf r1), some (.int z.1), some (.int z.2.1)] [] z.2.2) (fun r => r = res)) (rb_WK E k_Bld_isOutOfDate d σ0 res 22 [some (va_rf r0), some (va_rf r1), some (.int x2), some (.int x3)] [] σ) := by
  unfold f_Bld_isOutOfDate_b22
  refine rb_TC.mono (rk_iload_n 3 d_Bld_isOutOfDate_22 rfl rfl) ?_
  refine rb_TC.mono (rk_aload_n 0 d_Bld_isOutOfDate_23 rfl rfl) ?_
  refine rt_gR r0 fw_Bld_26 d_Bld_isOutOfDate_24 (fun r_7 => ?_)
  refine rt_gI r_7 fw_Bld_115 d_Bld_isOutOfDate_27 (fun x_8 => ?_)
  refine rt_icmp_ge 79 d_Bld_isOutOfDate_30 (by decide) (fun _ => ?_) (fun _ => ?_)
  · refine rb_TC.out ?_
    refine rb_TC.mono (rk_iload_n 2 d_Bld_isOutOfDate_79 rfl rfl) ?_
    refine rt_if_ne 97 d_Bld_isOutOfDate_80 (by decide) (fun _ => ?_) (fun _ => ?_)
    · refine rb_TC.mono (rk_aload_n 1 d_Bld_isOutOfDate_83 rfl rfl) ?_
      refine rt_gI r1 fw_Bld_200 d_Bld_isOutOfDate_84 (fun x_9 => ?_)
      refine rt_if_ne 97 d_Bld_isOutOfDate_87 (by decide) (fun _ => ?_) (fun _ => ?_)
      · refine rb_TC.mono (rk_aload_n 1 d_Bld_isOutOfDate_90 rfl rfl) ?_
        refine rt_vI (As := []) (st := []) (r1) vw_Bld_137 (s_Name_isFile (Nat.le_refl _) (r1)  σ) (Nat.le_trans (by decide) hdd) rfl (by simp [rb_cat_r, rb_cat_i, rb_cat_l]) d_Bld_isOutOfDate_91 (fun x_10 σ_11 => ?_)
        refine rt_if_ne 101 d_Bld_isOutOfDate_94 (by decide) (fun _ => ?_) (fun _ => ?_)
        · refine rb_TC.mono (rk_iconst (1 : Int32) d_Bld_isOutOfDate_97 (by decide)) ?_
          refine rb_TC.mono (rk_goto 102 d_Bld_isOutOfDate_98 (by decide)) ?_
          exact rt_iret (ty := .boolean) rfl (by decide) (fun h => h) d_Bld_isOutOfDate_102
        · refine rb_TC.mono (rk_iconst (0 : Int32) d_Bld_isOutOfDate_101 (by decide)) ?_
          exact rt_iret (ty := .boolean) rfl (by decide) (fun h => h) d_Bld_isOutOfDate_102
      · refine rb_TC.mono (rk_iconst (1 : Int32) d_Bld_isOutOfDate_97 (by decide)) ?_
        refine rb_TC.mono (rk_goto 102 d_Bld_isOutOfDate_98 (by decide)) ?_
        exact rt_iret (ty := .boolean) rfl (by decide) (fun h => h) d_Bld_isOutOfDate_102
    · refine rb_TC.mono (rk_iconst (1 : Int32) d_Bld_isOutOfDate_97 (by decide)) ?_
      refine rb_TC.mono (rk_goto 102 d_Bld_isOutOfDate_98 (by decide)) ?_
      exact rt_iret (ty := .boolean) rfl (by decide) (fun h => h) d_Bld_isOutOfDate_102
  · refine rb_TC.mono (rk_aload_n 0 d_Bld_isOutOfDate_33 rfl rfl) ?_
    refine rt_gR r0 fw_Bld_26 d_Bld_isOutOfDate_34 (fun r_12 => ?_)
    refine rt_gR r_12 fw_Bld_118 d_Bld_isOutOfDate_37 (fun r_13 => ?_)
    refine rb_TC.mono (rk_iload_n 3 d_Bld_isOutOfDate_40 rfl rfl) ?_
    refine rt_aald (t := 112) r_13 (by decide) d_Bld_isOutOfDate_41 (fun r_14 => ?_)
    refine rb_TC.mono (rk_aload_n 1 d_Bld_isOutOfDate_42 rfl rfl) ?_
    refine rt_acmp_ne 73 d_Bld_isOutOfDate_43 (by decide) (fun _ => ?_) (fun _ => ?_)
    · refine rb_TC.mono (rk_aload_n 0 d_Bld_isOutOfDate_46 rfl rfl) ?_
      refine rb_TC.mono (rk_aload_n 0 d_Bld_isOutOfDate_47 rfl rfl) ?_
      refine rt_gR r0 fw_Bld_26 d_Bld_isOutOfDate_48 (fun r_15 => ?_)
      refine rt_gR r_15 fw_Bld_122 d_Bld_isOutOfDate_51 (fun r_16 => ?_)
      refine rb_TC.mono (rk_iload_n 3 d_Bld_isOutOfDate_54 rfl rfl) ?_
      refine rt_aald (t := 112) r_16 (by decide) d_Bld_isOutOfDate_55 (fun r_17 => ?_)
      refine rb_TC.mono (rk_aload_n 1 d_Bld_isOutOfDate_56 rfl rfl) ?_
      refine rt_vI (As := [va_rf r_17, va_rf r1]) (st := []) (r0) vw_Bld_196 (s_Bld_noteIfNewer (Nat.le_refl _) (r0) (r_17) (r1) σ) (Nat.le_trans (by decide) hdd) rfl (by simp [rb_cat_r, rb_cat_i, rb_cat_l]) d_Bld_isOutOfDate_57 (fun x_18 σ_19 => ?_)
      refine rt_if_ne 67 d_Bld_isOutOfDate_60 (by decide) (fun _ => ?_) (fun _ => ?_)
      · refine rb_TC.mono (rk_iload_n 2 d_Bld_isOutOfDate_63 rfl rfl) ?_
        refine rt_if_eq 71 d_Bld_isOutOfDate_64 (by decide) (fun _ => ?_) (fun _ => ?_)
        · refine rb_TC.mono (rk_iconst (0 : Int32) d_Bld_isOutOfDate_71 (by decide)) ?_
          refine rb_TC.mono (rk_istore_n (lv2 := [some (va_rf r0), some (va_rf r1), some (.int (0 : Int32)), some (.int x3)]) 2 d_Bld_isOutOfDate_72 rfl (by decide) (fun _ => rb_one_r) rfl) ?_
          refine rb_TC.mono (rk_iinc (lv2 := [some (va_rf r0), some (va_rf r1), some (.int (0 : Int32)), some (.int (x3 + 1))]) (x3 + 1) d_Bld_isOutOfDate_73 rfl rfl (by decide) (fun _ => rb_one_i) rfl) ?_
          refine rb_TC.mono (rk_goto 22 d_Bld_isOutOfDate_76 (by decide)) ?_
          exact rb_back
        · refine rb_TC.mono (rk_iconst (1 : Int32) d_Bld_isOutOfDate_67 (by decide)) ?_
          refine rb_TC.mono (rk_goto 72 d_Bld_isOutOfDate_68 (by decide)) ?_
          refine rb_TC.mono (rk_istore_n (lv2 := [some (va_rf r0), some (va_rf r1), some (.int (1 : Int32)), some (.int x3)]) 2 d_Bld_isOutOfDate_72 rfl (by decide) (fun _ => rb_one_r) rfl) ?_
          refine rb_TC.mono (rk_iinc (lv2 := [some (va_rf r0), some (va_rf r1), some (.int (1 : Int32)), some (.int (x3 + 1))]) (x3 + 1) d_Bld_isOutOfDate_73 rfl rfl (by decide) (fun _ => rb_one_i) rfl) ?_
          refine rb_TC.mono (rk_goto 22 d_Bld_isOutOfDate_76 (by decide)) ?_
          exact rb_back
      · refine rb_TC.mono (rk_iconst (1 : Int32) d_Bld_isOutOfDate_67 (by decide)) ?_
        refine rb_TC.mono (rk_goto 72 d_Bld_isOutOfDate_68 (by decide)) ?_
        refine rb_TC.mono (rk_istore_n (lv2 := [some (va_rf r0), some (va_rf r1), some (.int (1 : Int32)), some (.int x3)]) 2 d_Bld_isOutOfDate_72 rfl (by decide) (fun _ => rb_one_r) rfl) ?_
        refine rb_TC.mono (rk_iinc (lv2 := [some (va_rf r0), some (va_rf r1), some (.int (1 : Int32)), some (.int (x3 + 1))]) (x3 + 1) d_Bld_isOutOfDate_73 rfl rfl (by decide) (fun _ => rb_one_i) rfl) ?_
        refine rb_TC.mono (rk_goto 22 d_Bld_isOutOfDate_76 (by decide)) ?_
        exact rb_back
    · refine rb_TC.mono (rk_iinc (lv2 := [some (va_rf r0), some (va_rf r1), some (.int x2), some (.int (x3 + 1))]) (x3 + 1) d_Bld_isOutOfDate_73 rfl rfl (by decide) (fun _ => rb_one_i) rfl) ?_
      refine rb_TC.mono (rk_goto 22 d_Bld_isOutOfDate_76 (by decide)) ?_
      exact rb_back
noncomputable def f_Bld_isOutOfDate (r0 : Option Nat) (r1 : Option Nat) (σ : rb_St) : Option rb_Rs :=
  (rb_gR σ r0 9 2).bind fun r_1 => (rb_gR σ r_1 5 1).bind fun r_2 => (rb_fc σ r_2 2).bind fun _ => rb_cV (f_Text_clear (r_2)  σ) fun σ_3 => (rb_gR σ_3 r1 12 14).bind fun r_4 => (rb_fc σ_3 r0 9).bind fun _ => rb_cI (f_Bld_noteIfNewer (r0) (r_4) (r1) σ_3) fun x_5 σ_6 => rb_it (fun z : (Int32 × Int32 × rb_St) => f_Bld_isOutOfDate_b22 (r0) (r1) (z.1) (z.2.1) z.2.2) (x_5, (0 : Int32), σ_6)
theorem s_Bld_isOutOfDate {E : rb_EV} {d : Nat} (hdd : 6 ≤ d) (r0 : Option Nat) (r1 : Option Nat) (σ : rb_St) : rb_Does E k_Bld_isOutOfDate d [va_rf r0, va_rf r1] σ (f_Bld_isOutOfDate r0 r1 σ) := by
  refine rb_start (lv := [some (va_rf r0), some (va_rf r1), none, none]) (by decide) (by simp [lg_sl, rb_as, lv_args, rb_cat_r, rb_cat_i, rb_cat_l, rb_nL, k_Bld_isOutOfDate]) (fun res => ?_)
  unfold f_Bld_isOutOfDate
  refine rb_TC.mono (rk_aload_n 0 d_Bld_isOutOfDate_0 rfl rfl) ?_
  refine rt_gR r0 fw_Bld_30 d_Bld_isOutOfDate_1 (fun r_1 => ?_)
  refine rt_gR r_1 fw_Bld_191 d_Bld_isOutOfDate_4 (fun r_2 => ?_)
  refine rt_vV (As := []) (st := []) (r_2) vw_Bld_54 (s_Text_clear (Nat.le_refl _) (r_2)  σ) (Nat.le_trans (by decide) hdd) rfl (by simp [rb_cat_r, rb_cat_i, rb_cat_l]) d_Bld_isOutOfDate_7 (fun σ_3 => ?_)
  refine rb_TC.mono (rk_aload_n 0 d_Bld_isOutOfDate_10 rfl rfl) ?_
  refine rb_TC.mono (rk_aload_n 1 d_Bld_isOutOfDate_11 rfl rfl) ?_
  refine rt_gR r1 fw_Bld_108 d_Bld_isOutOfDate_12 (fun r_4 => ?_)
  refine rb_TC.mono (rk_aload_n 1 d_Bld_isOutOfDate_15 rfl rfl) ?_
  refine rt_vI (As := [va_rf r_4, va_rf r1]) (st := []) (r0) vw_Bld_196 (s_Bld_noteIfNewer (Nat.le_refl _) (r0) (r_4) (r1) σ_3) (Nat.le_trans (by decide) hdd) rfl (by simp [rb_cat_r, rb_cat_i, rb_cat_l]) d_Bld_isOutOfDate_16 (fun x_5 σ_6 => ?_)
  refine rb_TC.mono (rk_istore_n (lv2 := [some (va_rf r0), some (va_rf r1), some (.int x_5), none]) 2 d_Bld_isOutOfDate_19 rfl (by decide) (fun _ => rb_one_r) rfl) ?_
  refine rb_TC.mono (rk_iconst (0 : Int32) d_Bld_isOutOfDate_20 (by decide)) ?_
  refine rb_TC.mono (rk_istore_n (lv2 := [some (va_rf r0), some (va_rf r1), some (.int x_5), some (.int (0 : Int32))]) 3 d_Bld_isOutOfDate_21 rfl (by decide) (fun _ => rb_one_i) rfl) ?_
  exact rb_TC.loop2 (A := (fun z : (Int32 × Int32 × rb_St) => rb_WK E k_Bld_isOutOfDate d σ res 22 [some (va_rf r0), some (va_rf r1), some (.int z.1), some (.int z.2.1)] [] z.2.2)) (x_5, (0 : Int32), σ_6) (fun z => t_Bld_isOutOfDate_b22 hdd  (r0) (r1) (z.1) (z.2.1) z.2.2)
-- ===== RuleBuilder$Builder.isSilent(LRuleBuilder$Name;)Z
def k_Bld_isSilent : rb_MK := (⟨"RuleBuilder$Builder", "isSilent", "(LRuleBuilder$Name;)Z"⟩, prog_2_method_14_code, 2, some (.boolean))
theorem mw_Bld_isSilent : rb_Mw k_Bld_isSilent 1 := ⟨rb_inG 1088 (by decide +kernel) rfl, rb_inG 93 (by decide +kernel) rfl, ⟨by decide, by decide, by decide +kernel⟩, by decide⟩
theorem fw_Bld_224 : rb_Fw "RuleBuilder$Builder" 224 12 7 := ⟨_, rfl, by decide, by decide, by decide, rfl, rb_inG 905 (by decide +kernel) rfl⟩
theorem fw_Bld_227 : rb_Fw "RuleBuilder$Builder" 227 4 14 := ⟨_, rfl, by decide, by decide, by decide, rfl, rb_inG 184 (by decide +kernel) rfl⟩
theorem vw_Bld_62 : rb_Vw "RuleBuilder$Builder" 62 k_Bld_has 9 1 := ⟨mw_Bld_has, rb_inG 1068 (by decide +kernel) rfl, rb_inG 1070 (by decide +kernel) rfl, rb_inG 23 (by decide +kernel) rfl, by decide, by decide, _, rfl, rfl⟩
theorem d_Bld_isSilent_0 : decode prog_2_method_14_code 0 = .ok (.aload_n 1, 1) := by decide +kernel
theorem d_Bld_isSilent_1 : decode prog_2_method_14_code 1 = .ok (.getfield 224, 3) := by decide +kernel
theorem d_Bld_isSilent_4 : decode prog_2_method_14_code 4 = .ok (.ifCond .ne 22, 3) := by decide +kernel
theorem d_Bld_isSilent_7 : decode prog_2_method_14_code 7 = .ok (.aload_n 0, 1) := by decide +kernel
theorem d_Bld_isSilent_8 : decode prog_2_method_14_code 8 = .ok (.getfield 26, 3) := by decide +kernel
theorem d_Bld_isSilent_11 : decode prog_2_method_14_code 11 = .ok (.getfield 227, 3) := by decide +kernel
theorem d_Bld_isSilent_14 : decode prog_2_method_14_code 14 = .ok (.ifCond .ne 12, 3) := by decide +kernel
theorem d_Bld_isSilent_17 : decode prog_2_method_14_code 17 = .ok (.aload_n 0, 1) := by decide +kernel
theorem d_Bld_isSilent_18 : decode prog_2_method_14_code 18 = .ok (.bipush 32, 2) := by decide +kernel
theorem d_Bld_isSilent_20 : decode prog_2_method_14_code 20 = .ok (.invokevirtual 62, 3) := by decide +kernel
theorem d_Bld_isSilent_23 : decode prog_2_method_14_code 23 = .ok (.ifCond .eq 7, 3) := by decide +kernel
theorem d_Bld_isSilent_26 : decode prog_2_method_14_code 26 = .ok (.iconst 1, 1) := by decide +kernel
theorem d_Bld_isSilent_27 : decode prog_2_method_14_code 27 = .ok (.goto 4, 3) := by decide +kernel
theorem d_Bld_isSilent_30 : decode prog_2_method_14_code 30 = .ok (.iconst 0, 1) := by decide +kernel
theorem d_Bld_isSilent_31 : decode prog_2_method_14_code 31 = .ok (.ireturn, 1) := by decide +kernel
noncomputable def f_Bld_isSilent (r0 : Option Nat) (r1 : Option Nat) (σ : rb_St) : Option rb_Rs :=
  (rb_gI σ r1 12 7).bind fun x_1 => if x_1 = 0 then ((rb_gR σ r0 9 1).bind fun r_2 => (rb_gI σ r_2 4 14).bind fun x_3 => if x_3 = 0 then ((rb_fc σ r0 9).bind fun _ => rb_cI (f_Bld_has (r0) ((32 : Int32)) σ) fun x_4 σ_5 => if x_4 = 0 then (some (some (.int (0 : Int32)), σ_5)) else (some (some (.int (1 : Int32)), σ_5))) else (some (some (.int (1 : Int32)), σ))) else (some (some (.int (1 : Int32)), σ))
theorem s_Bld_isSilent {E : rb_EV} {d : Nat} (hdd : 1 ≤ d) (r0 : Option Nat) (r1 : Option Nat) (σ : rb_St) : rb_Does E k_Bld_isSilent d [va_rf r0, va_rf r1] σ (f_Bld_isSilent r0 r1 σ) := by
  refine rb_start (lv := [some (va_rf r0), some (va_rf r1)]) (by decide) (by simp [lg_sl, rb_as, lv_args, rb_cat_r, rb_cat_i, rb_cat_l, rb_nL, k_Bld_isSilent]) (fun res => ?_)
  unfold f_Bld_isSilent
  refine rb_TC.mono (rk_aload_n 1 d_Bld_isSilent_0 rfl rfl) ?_
  refine rt_gI r1 fw_Bld_224 d_Bld_isSilent_1 (fun x_1 => ?_)
  refine rt_if_ne 26 d_Bld_isSilent_4 (by decide) (fun _ => ?_) (fun _ => ?_)
  · refine rb_TC.mono (rk_aload_n 0 d_Bld_isSilent_7 rfl rfl) ?_
    refine rt_gR r0 fw_Bld_26 d_Bld_isSilent_8 (fun r_2 => ?_)
    refine rt_gI r_2 fw_Bld_227 d_Bld_isSilent_11 (fun x_3 => ?_)
    refine rt_if_ne 26 d_Bld_isSilent_14 (by decide) (fun _ => ?_) (fun _ => ?_)
    · refine rb_TC.mono (rk_aload_n 0 d_Bld_isSilent_17 rfl rfl) ?_
      refine rb_TC.mono (rk_bipush (32 : Int32) d_Bld_isSilent_18 (by decide)) ?_
      refine rt_vI (As := [.int (32 : Int32)]) (st := []) (r0) vw_Bld_62 (s_Bld_has (Nat.le_refl _) (r0) ((32 : Int32)) σ) (Nat.le_trans (by decide) hdd) rfl (by simp [rb_cat_r, rb_cat_i, rb_cat_l]) d_Bld_isSilent_20 (fun x_4 σ_5 => ?_)
      refine rt_if_eq 30 d_Bld_isSilent_23 (by decide) (fun _ => ?_) (fun _ => ?_)
      · refine rb_TC.mono (rk_iconst (0 : Int32) d_Bld_isSilent_30 (by decide)) ?_
        exact rt_iret (ty := .boolean) rfl (by decide) (fun h => h) d_Bld_isSilent_31
      · refine rb_TC.mono (rk_iconst (1 : Int32) d_Bld_isSilent_26 (by decide)) ?_
        refine rb_TC.mono (rk_goto 31 d_Bld_isSilent_27 (by decide)) ?_
        exact rt_iret (ty := .boolean) rfl (by decide) (fun h => h) d_Bld_isSilent_31
    · refine rb_TC.mono (rk_iconst (1 : Int32) d_Bld_isSilent_26 (by decide)) ?_
      refine rb_TC.mono (rk_goto 31 d_Bld_isSilent_27 (by decide)) ?_
      exact rt_iret (ty := .boolean) rfl (by decide) (fun h => h) d_Bld_isSilent_31
  · refine rb_TC.mono (rk_iconst (1 : Int32) d_Bld_isSilent_26 (by decide)) ?_
    refine rb_TC.mono (rk_goto 31 d_Bld_isSilent_27 (by decide)) ?_
    exact rt_iret (ty := .boolean) rfl (by decide) (fun h => h) d_Bld_isSilent_31
-- ===== RuleBuilder$Builder.touchIfAsked(LRuleBuilder$Name;)V
def k_Bld_touchIfAsked : rb_MK := (⟨"RuleBuilder$Builder", "touchIfAsked", "(LRuleBuilder$Name;)V"⟩, prog_2_method_13_code, 3, none)
theorem mw_Bld_touchIfAsked : rb_Mw k_Bld_touchIfAsked 1 := ⟨rb_inG 1084 (by decide +kernel) rfl, rb_inG 93 (by decide +kernel) rfl, ⟨by decide, by decide, by decide +kernel⟩, by decide⟩
theorem fw_Bld_217 : rb_Fw "RuleBuilder$Builder" 217 12 3 := ⟨_, rfl, by decide, by decide, by decide, rfl, rb_inG 893 (by decide +kernel) rfl⟩
theorem vw_Bld_210 : rb_Vw "RuleBuilder$Builder" 210 k_Bld_isSilent 9 1 := ⟨mw_Bld_isSilent, rb_inG 1085 (by decide +kernel) rfl, rb_inG 1087 (by decide +kernel) rfl, rb_inG 27 (by decide +kernel) rfl, by decide, by decide, _, rfl, rfl⟩
theorem vw_Bld_213 : rb_Vw "RuleBuilder$Builder" 213 k_Shell_printTouch 7 1 := ⟨mw_Shell_printTouch, rb_inG 1089 (by decide +kernel) rfl, rb_inG 1090 (by decide +kernel) rfl, rb_inG 1091 (by decide +kernel) rfl, by decide, by decide, _, rfl, rfl⟩
theorem vw_Bld_220 : rb_Vw "RuleBuilder$Builder" 220 k_Store_write 3 2 := ⟨mw_Store_write, rb_inG 1097 (by decide +kernel) rfl, rb_inG 998 (by decide +kernel) rfl, rb_inG 999 (by decide +kernel) rfl, by decide, by decide, _, rfl, rfl⟩
theorem d_Bld_touchIfAsked_0 : decode prog_2_method_13_code 0 = .ok (.aload_n 0, 1) := by decide +kernel
theorem d_Bld_touchIfAsked_1 : decode prog_2_method_13_code 1 = .ok (.iconst 4, 1) := by decide +kernel
theorem d_Bld_touchIfAsked_2 : decode prog_2_method_13_code 2 = .ok (.invokevirtual 62, 3) := by decide +kernel
theorem d_Bld_touchIfAsked_5 : decode prog_2_method_13_code 5 = .ok (.ifCond .eq 24, 3) := by decide +kernel
theorem d_Bld_touchIfAsked_8 : decode prog_2_method_13_code 8 = .ok (.aload_n 0, 1) := by decide +kernel
theorem d_Bld_touchIfAsked_9 : decode prog_2_method_13_code 9 = .ok (.iconst 2, 1) := by decide +kernel
theorem d_Bld_touchIfAsked_10 : decode prog_2_method_13_code 10 = .ok (.invokevirtual 62, 3) := by decide +kernel
theorem d_Bld_touchIfAsked_13 : decode prog_2_method_13_code 13 = .ok (.ifCond .ne 16, 3) := by decide +kernel
theorem d_Bld_touchIfAsked_16 : decode prog_2_method_13_code 16 = .ok (.aload_n 0, 1) := by decide +kernel
theorem d_Bld_touchIfAsked_17 : decode prog_2_method_13_code 17 = .ok (.bipush 8, 2) := by decide +kernel
theorem d_Bld_touchIfAsked_19 : decode prog_2_method_13_code 19 = .ok (.invokevirtual 62, 3) := by decide +kernel
theorem d_Bld_touchIfAsked_22 : decode prog_2_method_13_code 22 = .ok (.ifCond .ne 7, 3) := by decide +kernel
theorem d_Bld_touchIfAsked_25 : decode prog_2_method_13_code 25 = .ok (.iconst 1, 1) := by decide +kernel
theorem d_Bld_touchIfAsked_26 : decode prog_2_method_13_code 26 = .ok (.goto 4, 3) := by decide +kernel
theorem d_Bld_touchIfAsked_29 : decode prog_2_method_13_code 29 = .ok (.iconst 0, 1) := by decide +kernel
theorem d_Bld_touchIfAsked_30 : decode prog_2_method_13_code 30 = .ok (.istore_n 2, 1) := by decide +kernel
theorem d_Bld_touchIfAsked_31 : decode prog_2_method_13_code 31 = .ok (.iload_n 2, 1) := by decide +kernel
theorem d_Bld_touchIfAsked_32 : decode prog_2_method_13_code 32 = .ok (.ifCond .eq 18, 3) := by decide +kernel
theorem d_Bld_touchIfAsked_35 : decode prog_2_method_13_code 35 = .ok (.aload_n 1, 1) := by decide +kernel
theorem d_Bld_touchIfAsked_36 : decode prog_2_method_13_code 36 = .ok (.getfield 200, 3) := by decide +kernel
theorem d_Bld_touchIfAsked_39 : decode prog_2_method_13_code 39 = .ok (.ifCond .ne 11, 3) := by decide +kernel
theorem d_Bld_touchIfAsked_42 : decode prog_2_method_13_code 42 = .ok (.aload_n 1, 1) := by decide +kernel
theorem d_Bld_touchIfAsked_43 : decode prog_2_method_13_code 43 = .ok (.getfield 97, 3) := by decide +kernel
theorem d_Bld_touchIfAsked_46 : decode prog_2_method_13_code 46 = .ok (.iconst (-1), 1) := by decide +kernel
theorem d_Bld_touchIfAsked_47 : decode prog_2_method_13_code 47 = .ok (.if_icmp .ne 4, 3) := by decide +kernel
theorem d_Bld_touchIfAsked_50 : decode prog_2_method_13_code 50 = .ok (.return_, 1) := by decide +kernel
theorem d_Bld_touchIfAsked_51 : decode prog_2_method_13_code 51 = .ok (.aload_n 0, 1) := by decide +kernel
theorem d_Bld_touchIfAsked_52 : decode prog_2_method_13_code 52 = .ok (.aload_n 1, 1) := by decide +kernel
theorem d_Bld_touchIfAsked_53 : decode prog_2_method_13_code 53 = .ok (.invokevirtual 210, 3) := by decide +kernel
theorem d_Bld_touchIfAsked_56 : decode prog_2_method_13_code 56 = .ok (.ifCond .ne 14, 3) := by decide +kernel
theorem d_Bld_touchIfAsked_59 : decode prog_2_method_13_code 59 = .ok (.aload_n 0, 1) := by decide +kernel
theorem d_Bld_touchIfAsked_60 : decode prog_2_method_13_code 60 = .ok (.getfield 34, 3) := by decide +kernel
theorem d_Bld_touchIfAsked_63 : decode prog_2_method_13_code 63 = .ok (.aload_n 1, 1) := by decide +kernel
theorem d_Bld_touchIfAsked_64 : decode prog_2_method_13_code 64 = .ok (.getfield 144, 3) := by decide +kernel
theorem d_Bld_touchIfAsked_67 : decode prog_2_method_13_code 67 = .ok (.invokevirtual 213, 3) := by decide +kernel
theorem d_Bld_touchIfAsked_70 : decode prog_2_method_13_code 70 = .ok (.aload_n 0, 1) := by decide +kernel
theorem d_Bld_touchIfAsked_71 : decode prog_2_method_13_code 71 = .ok (.getfield 22, 3) := by decide +kernel
theorem d_Bld_touchIfAsked_74 : decode prog_2_method_13_code 74 = .ok (.aload_n 1, 1) := by decide +kernel
theorem d_Bld_touchIfAsked_75 : decode prog_2_method_13_code 75 = .ok (.aload_n 1, 1) := by decide +kernel
theorem d_Bld_touchIfAsked_76 : decode prog_2_method_13_code 76 = .ok (.getfield 217, 3) := by decide +kernel
theorem d_Bld_touchIfAsked_79 : decode prog_2_method_13_code 79 = .ok (.invokevirtual 220, 3) := by decide +kernel
theorem d_Bld_touchIfAsked_82 : decode prog_2_method_13_code 82 = .ok (.return_, 1) := by decide +kernel
noncomputable def f_Bld_touchIfAsked_j70 (r0 : Option Nat) (r1 : Option Nat) (σ : rb_St) : Option rb_Rs :=
  (rb_gR σ r0 9 0).bind fun r_10 => (rb_gI σ r1 12 3).bind fun x_11 => (rb_fc σ r_10 3).bind fun _ => rb_cV (f_Store_write (r_10) (r1) (x_11) σ) fun σ_12 => some (none, σ_12)
theorem t_Bld_touchIfAsked_j70 {E : rb_EV} {d : Nat} {σ0 : rb_St} {res : rb_Rs} (hdd : 6 ≤ d)  (r0 : Option Nat) (r1 : Option Nat) (σ : rb_St) : rb_TC (f_Bld_touchIfAsked_j70 r0 r1 σ) (fun r => r = res) (rb_WK E k_Bld_touchIfAsked d σ0 res 70 [some (va_rf r0), some (va_rf r1), none] [] σ) := by
  unfold f_Bld_touchIfAsked_j70
  refine rb_TC.mono (rk_aload_n 0 d_Bld_touchIfAsked_70 rfl rfl) ?_
  refine rt_gR r0 fw_Bld_22 d_Bld_touchIfAsked_71 (fun r_10 => ?_)
  refine rb_TC.mono (rk_aload_n 1 d_Bld_touchIfAsked_74 rfl rfl) ?_
  refine rb_TC.mono (rk_aload_n 1 d_Bld_touchIfAsked_75 rfl rfl) ?_
  refine rt_gI r1 fw_Bld_217 d_Bld_touchIfAsked_76 (fun x_11 => ?_)
  refine rt_vV (As := [va_rf r1, .int x_11]) (st := []) (r_10) vw_Bld_220 (s_Store_write (Nat.le_refl _) (r_10) (r1) (x_11) σ) (Nat.le_trans (by decide) hdd) rfl (by simp [rb_cat_r, rb_cat_i, rb_cat_l]) d_Bld_touchIfAsked_79 (fun σ_12 => ?_)
  exact rt_vret rfl (fun h => h) d_Bld_touchIfAsked_82
noncomputable def f_Bld_touchIfAsked_j30 (r0 : Option Nat) (r1 : Option Nat) (sx0 : Int32) (σ : rb_St) : Option rb_Rs :=
  if sx0 = 0 then (some (none, σ)) else ((rb_gI σ r1 12 5).bind fun x_3 => if x_3 = 0 then ((rb_gI σ r1 12 12).bind fun x_4 => if x_4 = (-1 : Int32) then (some (none, σ)) else ((rb_fc σ r0 9).bind fun _ => rb_cI (f_Bld_isSilent (r0) (r1) σ) fun x_5 σ_6 => if x_5 = 0 then ((rb_gR σ_6 r0 9 3).bind fun r_7 => (rb_gR σ_6 r1 12 1).bind fun r_8 => (rb_fc σ_6 r_7 7).bind fun _ => rb_cV (f_Shell_printTouch (r_7) (r_8) σ_6) fun σ_9 => f_Bld_touchIfAsked_j70 (r0) (r1) σ_9) else (f_Bld_touchIfAsked_j70 (r0) (r1) σ_6))) else (some (none, σ)))
theorem t_Bld_touchIfAsked_j30 {E : rb_EV} {d : Nat} {σ0 : rb_St} {res : rb_Rs} (hdd : 6 ≤ d)  (r0 : Option Nat) (r1 : Option Nat) (sx0 : Int32) (σ : rb_St) : rb_TC (f_Bld_touchIfAsked_j30 r0 r1 sx0 σ) (fun r => r = res) (rb_WK E k_Bld_touchIfAsked d σ0 res 30 [some (va_rf r0), some (va_rf r1), none] [.int sx0] σ) := by
  unfold f_Bld_touchIfAsked_j30
  refine rb_TC.mono (rk_istore_n (lv2 := [some (va_rf r0), some (va_rf r1), some (.int sx0)]) 2 d_Bld_touchIfAsked_30 rfl (by decide) (fun _ => rb_one_r) rfl) ?_
  refine rb_TC.mono (rk_iload_n 2 d_Bld_touchIfAsked_31 rfl rfl) ?_
  refine rt_if_eq 50 d_Bld_touchIfAsked_32 (by decide) (fun _ => ?_) (fun _ => ?_)
  · exact rt_vret rfl (fun h => h) d_Bld_touchIfAsked_50
  · refine rb_TC.mono (rk_aload_n 1 d_Bld_touchIfAsked_35 rfl rfl) ?_
    refine rt_gI r1 fw_Bld_200 d_Bld_touchIfAsked_36 (fun x_3 => ?_)
    refine rt_if_ne 50 d_Bld_touchIfAsked_39 (by decide) (fun _ => ?_) (fun _ => ?_)
    · refine rb_TC.mono (rk_aload_n 1 d_Bld_touchIfAsked_42 rfl rfl) ?_
      refine rt_gI r1 fw_Bld_97 d_Bld_touchIfAsked_43 (fun x_4 => ?_)
      refine rb_TC.mono (rk_iconst (-1 : Int32) d_Bld_touchIfAsked_46 (by decide)) ?_
      refine rt_icmp_ne 51 d_Bld_touchIfAsked_47 (by decide) (fun _ => ?_) (fun _ => ?_)
      · exact rt_vret rfl (fun h => h) d_Bld_touchIfAsked_50
      · refine rb_TC.mono (rk_aload_n 0 d_Bld_touchIfAsked_51 rfl rfl) ?_
        refine rb_TC.mono (rk_aload_n 1 d_Bld_touchIfAsked_52 rfl rfl) ?_
        refine rt_vI (As := [va_rf r1]) (st := []) (r0) vw_Bld_210 (s_Bld_isSilent (Nat.le_refl _) (r0) (r1) σ) (Nat.le_trans (by decide) hdd) rfl (by simp [rb_cat_r, rb_cat_i, rb_cat_l]) d_Bld_touchIfAsked_53 (fun x_5 σ_6 => ?_)
        refine rt_if_ne 70 d_Bld_touchIfAsked_56 (by decide) (fun _ => ?_) (fun _ => ?_)
        · refine rb_TC.mono (rk_aload_n 0 d_Bld_touchIfAsked_59 rfl rfl) ?_
          refine rt_gR r0 fw_Bld_34 d_Bld_touchIfAsked_60 (fun r_7 => ?_)
          refine rb_TC.mono (rk_aload_n 1 d_Bld_touchIfAsked_63 rfl rfl) ?_
          refine rt_gR r1 fw_Bld_144 d_Bld_touchIfAsked_64 (fun r_8 => ?_)
          refine rt_vV (As := [va_rf r_8]) (st := []) (r_7) vw_Bld_213 (s_Shell_printTouch (Nat.le_refl _) (r_7) (r_8) σ_6) (Nat.le_trans (by decide) hdd) rfl (by simp [rb_cat_r, rb_cat_i, rb_cat_l]) d_Bld_touchIfAsked_67 (fun σ_9 => ?_)
          refine rb_TC.mono (rk_less (lv2 := [some (va_rf r0), some (va_rf r1), none]) (rb_le_ok (rb_leS (rb_leS (rb_leN rb_le0))))) ?_
          exact t_Bld_touchIfAsked_j70 hdd  (r0) (r1) σ_9
        · refine rb_TC.mono (rk_less (lv2 := [some (va_rf r0), some (va_rf r1), none]) (rb_le_ok (rb_leS (rb_leS (rb_leN rb_le0))))) ?_
          exact t_Bld_touchIfAsked_j70 hdd  (r0) (r1) σ_6
    · exact rt_vret rfl (fun h => h) d_Bld_touchIfAsked_50
noncomputable def f_Bld_touchIfAsked_j29 (r0 : Option Nat) (r1 : Option Nat) (σ : rb_St) : Option rb_Rs :=
  f_Bld_touchIfAsked_j30 (r0) (r1) ((0 : Int32)) σ
theorem t_Bld_touchIfAsked_j29 {E : rb_EV} {d : Nat} {σ0 : rb_St} {res : rb_Rs} (hdd : 6 ≤ d)  (r0 : Option Nat) (r1 : Option Nat) (σ : rb_St) : rb_TC (f_Bld_touchIfAsked_j29 r0 r1 σ) (fun r => r = res) (rb_WK E k_Bld_touchIfAsked d σ0 res 29 [some (va_rf r0), some (va_rf r1), none] [] σ) := by
  unfold f_Bld_touchIfAsked_j29
  refine rb_TC.mono (rk_iconst (0 : Int32) d_Bld_touchIfAsked_29 (by decide)) ?_
  exact t_Bld_touchIfAsked_j30 hdd  (r0) (r1) ((0 : Int32)) σ
noncomputable def f_Bld_touchIfAsked (r0 : Option Nat) (r1 : Option Nat) (σ : rb_St) : Option rb_Rs :=
  (rb_fc σ r0 9).bind fun _ => rb_cI (f_Bld_has (r0) ((4 : Int32)) σ) fun x_1 σ_2 => if x_1 = 0 then (f_Bld_touchIfAsked_j29 (r0) (r1) σ_2) else ((rb_fc σ_2 r0 9).bind fun _ => rb_cI (f_Bld_has (r0) ((2 : Int32)) σ_2) fun x_13 σ_14 => if x_13 = 0 then ((rb_fc σ_14 r0 9).bind fun _ => rb_cI (f_Bld_has (r0) ((8 : Int32)) σ_14) fun x_15 σ_16 => if x_15 = 0 then (f_Bld_touchIfAsked_j30 (r0) (r1) ((1 : Int32)) σ_16) else (f_Bld_touchIfAsked_j29 (r0) (r1) σ_16)) else (f_Bld_touchIfAsked_j29 (r0) (r1) σ_14))
theorem s_Bld_touchIfAsked {E : rb_EV} {d : Nat} (hdd : 6 ≤ d) (r0 : Option Nat) (r1 : Option Nat) (σ : rb_St) : rb_Does E k_Bld_touchIfAsked d [va_rf r0, va_rf r1] σ (f_Bld_touchIfAsked r0 r1 σ) := by
  refine rb_start (lv := [some (va_rf r0), some (va_rf r1), none]) (by decide) (by simp [lg_sl, rb_as, lv_args, rb_cat_r, rb_cat_i, rb_cat_l, rb_nL, k_Bld_touchIfAsked]) (fun res => ?_)
  unfold f_Bld_touchIfAsked
  refine rb_TC.mono (rk_aload_n 0 d_Bld_touchIfAsked_0 rfl rfl) ?_
  refine rb_TC.mono (rk_iconst (4 : Int32) d_Bld_touchIfAsked_1 (by decide)) ?_
  refine rt_vI (As := [.int (4 : Int32)]) (st := []) (r0) vw_Bld_62 (s_Bld_has (Nat.le_refl _) (r0) ((4 : Int32)) σ) (Nat.le_trans (by decide) hdd) rfl (by simp [rb_cat_r, rb_cat_i, rb_cat_l]) d_Bld_touchIfAsked_2 (fun x_1 σ_2 => ?_)
  refine rt_if_eq 29 d_Bld_touchIfAsked_5 (by decide) (fun _ => ?_) (fun _ => ?_)
  · exact t_Bld_touchIfAsked_j29 hdd  (r0) (r1) σ_2
  · refine rb_TC.mono (rk_aload_n 0 d_Bld_touchIfAsked_8 rfl rfl) ?_
    refine rb_TC.mono (rk_iconst (2 : Int32) d_Bld_touchIfAsked_9 (by decide)) ?_
    refine rt_vI (As := [.int (2 : Int32)]) (st := []) (r0) vw_Bld_62 (s_Bld_has (Nat.le_refl _) (r0) ((2 : Int32)) σ_2) (Nat.le_trans (by decide) hdd) rfl (by simp [rb_cat_r, rb_cat_i, rb_cat_l]) d_Bld_touchIfAsked_10 (fun x_13 σ_14 => ?_)
    refine rt_if_ne 29 d_Bld_touchIfAsked_13 (by decide) (fun _ => ?_) (fun _ => ?_)
    · refine rb_TC.mono (rk_aload_n 0 d_Bld_touchIfAsked_16 rfl rfl) ?_
      refine rb_TC.mono (rk_bipush (8 : Int32) d_Bld_touchIfAsked_17 (by decide)) ?_
      refine rt_vI (As := [.int (8 : Int32)]) (st := []) (r0) vw_Bld_62 (s_Bld_has (Nat.le_refl _) (r0) ((8 : Int32)) σ_14) (Nat.le_trans (by decide) hdd) rfl (by simp [rb_cat_r, rb_cat_i, rb_cat_l]) d_Bld_touchIfAsked_19 (fun x_15 σ_16 => ?_)
      refine rt_if_ne 29 d_Bld_touchIfAsked_22 (by decide) (fun _ => ?_) (fun _ => ?_)
      · refine rb_TC.mono (rk_iconst (1 : Int32) d_Bld_touchIfAsked_25 (by decide)) ?_
        refine rb_TC.mono (rk_goto 30 d_Bld_touchIfAsked_26 (by decide)) ?_
        exact t_Bld_touchIfAsked_j30 hdd  (r0) (r1) ((1 : Int32)) σ_16
      · exact t_Bld_touchIfAsked_j29 hdd  (r0) (r1) σ_16
    · exact t_Bld_touchIfAsked_j29 hdd  (r0) (r1) σ_14
-- ===== RuleBuilder$Builder.carryOut(LRuleBuilder$Command;LRuleBuilder$Name;)Z
def k_Bld_carryOut : rb_MK := (⟨"RuleBuilder$Builder", "carryOut", "(LRuleBuilder$Command;LRuleBuilder$Name;)Z"⟩, prog_2_method_15_code, 5, some (.boolean))
theorem mw_Bld_carryOut : rb_Mw k_Bld_carryOut 2 := ⟨rb_inG 1106 (by decide +kernel) rfl, rb_inG 93 (by decide +kernel) rfl, ⟨by decide, by decide, by decide +kernel⟩, by decide⟩
theorem fp_Bld_carryOut_46 : rb_Fp k_Bld_carryOut 46 9 7 .int := ⟨fw_Bld_46, rfl, fun q h => by cases h; exact Or.inl rfl⟩
theorem fw_Bld_230 : rb_Fw "RuleBuilder$Builder" 230 11 4 := ⟨_, rfl, by decide, by decide, by decide, rfl, rb_inG 688 (by decide +kernel) rfl⟩
theorem fw_Bld_235 : rb_Fw "RuleBuilder$Builder" 235 11 2 := ⟨_, rfl, by decide, by decide, by decide, rfl, rb_inG 684 (by decide +kernel) rfl⟩
theorem fw_Bld_238 : rb_Fw "RuleBuilder$Builder" 238 12 6 := ⟨_, rfl, by decide, by decide, by decide, rfl, rb_inG 902 (by decide +kernel) rfl⟩
theorem fw_Bld_241 : rb_Fw "RuleBuilder$Builder" 241 4 13 := ⟨_, rfl, by decide, by decide, by decide, rfl, rb_inG 181 (by decide +kernel) rfl⟩
theorem fw_Bld_244 : rb_Fw "RuleBuilder$Builder" 244 11 0 := ⟨_, rfl, by decide, by decide, by decide, rfl, rb_inG 680 (by decide +kernel) rfl⟩
theorem fw_Bld_249 : rb_Fw "RuleBuilder$Builder" 249 11 3 := ⟨_, rfl, by decide, by decide, by decide, rfl, rb_inG 686 (by decide +kernel) rfl⟩
theorem fw_Bld_252 : rb_Fw "RuleBuilder$Builder" 252 5 0 := ⟨_, rfl, by decide, by decide, by decide, rfl, rb_inG 229 (by decide +kernel) rfl⟩
theorem vw_Bld_245 : rb_Vw "RuleBuilder$Builder" 245 k_Exp_expand 5 2 := ⟨mw_Exp_expand, rb_inG 1107 (by decide +kernel) rfl, rb_inG 720 (by decide +kernel) rfl, rb_inG 721 (by decide +kernel) rfl, by decide, by decide, _, rfl, rfl⟩
theorem vw_Bld_255 : rb_Vw "RuleBuilder$Builder" 255 k_Shell_printLine 7 1 := ⟨mw_Shell_printLine, rb_inG 1108 (by decide +kernel) rfl, rb_inG 1109 (by decide +kernel) rfl, rb_inG 1110 (by decide +kernel) rfl, by decide, by decide, _, rfl, rfl⟩
theorem vw_Bld_259 : rb_Vw "RuleBuilder$Builder" 259 k_Shell_act 7 1 := ⟨mw_Shell_act, rb_inG 1114 (by decide +kernel) rfl, rb_inG 1115 (by decide +kernel) rfl, rb_inG 1116 (by decide +kernel) rfl, by decide, by decide, _, rfl, rfl⟩
theorem d_Bld_carryOut_0 : decode prog_2_method_15_code 0 = .ok (.aload_n 1, 1) := by decide +kernel
theorem d_Bld_carryOut_1 : decode prog_2_method_15_code 1 = .ok (.getfield 230, 3) := by decide +kernel
theorem d_Bld_carryOut_4 : decode prog_2_method_15_code 4 = .ok (.ifCond .ne 30, 3) := by decide +kernel
theorem d_Bld_carryOut_7 : decode prog_2_method_15_code 7 = .ok (.aload_n 0, 1) := by decide +kernel
theorem d_Bld_carryOut_8 : decode prog_2_method_15_code 8 = .ok (.bipush 8, 2) := by decide +kernel
theorem d_Bld_carryOut_10 : decode prog_2_method_15_code 10 = .ok (.invokevirtual 62, 3) := by decide +kernel
theorem d_Bld_carryOut_13 : decode prog_2_method_15_code 13 = .ok (.ifCond .ne 19, 3) := by decide +kernel
theorem d_Bld_carryOut_16 : decode prog_2_method_15_code 16 = .ok (.aload_n 0, 1) := by decide +kernel
theorem d_Bld_carryOut_17 : decode prog_2_method_15_code 17 = .ok (.iconst 4, 1) := by decide +kernel
theorem d_Bld_carryOut_18 : decode prog_2_method_15_code 18 = .ok (.invokevirtual 62, 3) := by decide +kernel
theorem d_Bld_carryOut_21 : decode prog_2_method_15_code 21 = .ok (.ifCond .eq 13, 3) := by decide +kernel
theorem d_Bld_carryOut_24 : decode prog_2_method_15_code 24 = .ok (.aload_n 0, 1) := by decide +kernel
theorem d_Bld_carryOut_25 : decode prog_2_method_15_code 25 = .ok (.iconst 2, 1) := by decide +kernel
theorem d_Bld_carryOut_26 : decode prog_2_method_15_code 26 = .ok (.invokevirtual 62, 3) := by decide +kernel
theorem d_Bld_carryOut_29 : decode prog_2_method_15_code 29 = .ok (.ifCond .ne 5, 3) := by decide +kernel
theorem d_Bld_carryOut_32 : decode prog_2_method_15_code 32 = .ok (.iconst 1, 1) := by decide +kernel
theorem d_Bld_carryOut_33 : decode prog_2_method_15_code 33 = .ok (.ireturn, 1) := by decide +kernel
theorem d_Bld_carryOut_34 : decode prog_2_method_15_code 34 = .ok (.aload_n 1, 1) := by decide +kernel
theorem d_Bld_carryOut_35 : decode prog_2_method_15_code 35 = .ok (.getfield 235, 3) := by decide +kernel
theorem d_Bld_carryOut_38 : decode prog_2_method_15_code 38 = .ok (.ifCond .ne 29, 3) := by decide +kernel
theorem d_Bld_carryOut_41 : decode prog_2_method_15_code 41 = .ok (.aload_n 2, 1) := by decide +kernel
theorem d_Bld_carryOut_42 : decode prog_2_method_15_code 42 = .ok (.getfield 238, 3) := by decide +kernel
theorem d_Bld_carryOut_45 : decode prog_2_method_15_code 45 = .ok (.ifCond .ne 22, 3) := by decide +kernel
theorem d_Bld_carryOut_48 : decode prog_2_method_15_code 48 = .ok (.aload_n 0, 1) := by decide +kernel
theorem d_Bld_carryOut_49 : decode prog_2_method_15_code 49 = .ok (.getfield 26, 3) := by decide +kernel
theorem d_Bld_carryOut_52 : decode prog_2_method_15_code 52 = .ok (.getfield 241, 3) := by decide +kernel
theorem d_Bld_carryOut_55 : decode prog_2_method_15_code 55 = .ok (.ifCond .ne 12, 3) := by decide +kernel
theorem d_Bld_carryOut_58 : decode prog_2_method_15_code 58 = .ok (.aload_n 0, 1) := by decide +kernel
theorem d_Bld_carryOut_59 : decode prog_2_method_15_code 59 = .ok (.bipush 16, 2) := by decide +kernel
theorem d_Bld_carryOut_61 : decode prog_2_method_15_code 61 = .ok (.invokevirtual 62, 3) := by decide +kernel
theorem d_Bld_carryOut_64 : decode prog_2_method_15_code 64 = .ok (.ifCond .eq 7, 3) := by decide +kernel
theorem d_Bld_carryOut_67 : decode prog_2_method_15_code 67 = .ok (.iconst 1, 1) := by decide +kernel
theorem d_Bld_carryOut_68 : decode prog_2_method_15_code 68 = .ok (.goto 4, 3) := by decide +kernel
theorem d_Bld_carryOut_71 : decode prog_2_method_15_code 71 = .ok (.iconst 0, 1) := by decide +kernel
theorem d_Bld_carryOut_72 : decode prog_2_method_15_code 72 = .ok (.istore_n 3, 1) := by decide +kernel
theorem d_Bld_carryOut_73 : decode prog_2_method_15_code 73 = .ok (.aload_n 0, 1) := by decide +kernel
theorem d_Bld_carryOut_74 : decode prog_2_method_15_code 74 = .ok (.getfield 30, 3) := by decide +kernel
theorem d_Bld_carryOut_77 : decode prog_2_method_15_code 77 = .ok (.aload_n 1, 1) := by decide +kernel
theorem d_Bld_carryOut_78 : decode prog_2_method_15_code 78 = .ok (.getfield 244, 3) := by decide +kernel
theorem d_Bld_carryOut_81 : decode prog_2_method_15_code 81 = .ok (.aload_n 2, 1) := by decide +kernel
theorem d_Bld_carryOut_82 : decode prog_2_method_15_code 82 = .ok (.invokevirtual 245, 3) := by decide +kernel
theorem d_Bld_carryOut_85 : decode prog_2_method_15_code 85 = .ok (.ifCond .ne 5, 3) := by decide +kernel
theorem d_Bld_carryOut_88 : decode prog_2_method_15_code 88 = .ok (.iload_n 3, 1) := by decide +kernel
theorem d_Bld_carryOut_89 : decode prog_2_method_15_code 89 = .ok (.ireturn, 1) := by decide +kernel
theorem d_Bld_carryOut_90 : decode prog_2_method_15_code 90 = .ok (.aload_n 1, 1) := by decide +kernel
theorem d_Bld_carryOut_91 : decode prog_2_method_15_code 91 = .ok (.getfield 249, 3) := by decide +kernel
theorem d_Bld_carryOut_94 : decode prog_2_method_15_code 94 = .ok (.ifCond .ne 11, 3) := by decide +kernel
theorem d_Bld_carryOut_97 : decode prog_2_method_15_code 97 = .ok (.aload_n 0, 1) := by decide +kernel
theorem d_Bld_carryOut_98 : decode prog_2_method_15_code 98 = .ok (.aload_n 2, 1) := by decide +kernel
theorem d_Bld_carryOut_99 : decode prog_2_method_15_code 99 = .ok (.invokevirtual 210, 3) := by decide +kernel
theorem d_Bld_carryOut_102 : decode prog_2_method_15_code 102 = .ok (.ifCond .eq 15, 3) := by decide +kernel
theorem d_Bld_carryOut_105 : decode prog_2_method_15_code 105 = .ok (.aload_n 0, 1) := by decide +kernel
theorem d_Bld_carryOut_106 : decode prog_2_method_15_code 106 = .ok (.iconst 2, 1) := by decide +kernel
theorem d_Bld_carryOut_107 : decode prog_2_method_15_code 107 = .ok (.invokevirtual 62, 3) := by decide +kernel
theorem d_Bld_carryOut_110 : decode prog_2_method_15_code 110 = .ok (.ifCond .ne 7, 3) := by decide +kernel
theorem d_Bld_carryOut_113 : decode prog_2_method_15_code 113 = .ok (.iconst 1, 1) := by decide +kernel
theorem d_Bld_carryOut_114 : decode prog_2_method_15_code 114 = .ok (.goto 4, 3) := by decide +kernel
theorem d_Bld_carryOut_117 : decode prog_2_method_15_code 117 = .ok (.iconst 0, 1) := by decide +kernel
theorem d_Bld_carryOut_118 : decode prog_2_method_15_code 118 = .ok (.istore 4, 2) := by decide +kernel
theorem d_Bld_carryOut_120 : decode prog_2_method_15_code 120 = .ok (.aload_n 0, 1) := by decide +kernel
theorem d_Bld_carryOut_121 : decode prog_2_method_15_code 121 = .ok (.bipush 8, 2) := by decide +kernel
theorem d_Bld_carryOut_123 : decode prog_2_method_15_code 123 = .ok (.invokevirtual 62, 3) := by decide +kernel
theorem d_Bld_carryOut_126 : decode prog_2_method_15_code 126 = .ok (.ifCond .ne 22, 3) := by decide +kernel
theorem d_Bld_carryOut_129 : decode prog_2_method_15_code 129 = .ok (.iload 4, 2) := by decide +kernel
theorem d_Bld_carryOut_131 : decode prog_2_method_15_code 131 = .ok (.ifCond .ne 17, 3) := by decide +kernel
theorem d_Bld_carryOut_134 : decode prog_2_method_15_code 134 = .ok (.aload_n 0, 1) := by decide +kernel
theorem d_Bld_carryOut_135 : decode prog_2_method_15_code 135 = .ok (.getfield 34, 3) := by decide +kernel
theorem d_Bld_carryOut_138 : decode prog_2_method_15_code 138 = .ok (.aload_n 0, 1) := by decide +kernel
theorem d_Bld_carryOut_139 : decode prog_2_method_15_code 139 = .ok (.getfield 30, 3) := by decide +kernel
theorem d_Bld_carryOut_142 : decode prog_2_method_15_code 142 = .ok (.getfield 252, 3) := by decide +kernel
theorem d_Bld_carryOut_145 : decode prog_2_method_15_code 145 = .ok (.invokevirtual 255, 3) := by decide +kernel
theorem d_Bld_carryOut_148 : decode prog_2_method_15_code 148 = .ok (.aload_n 1, 1) := by decide +kernel
theorem d_Bld_carryOut_149 : decode prog_2_method_15_code 149 = .ok (.getfield 230, 3) := by decide +kernel
theorem d_Bld_carryOut_152 : decode prog_2_method_15_code 152 = .ok (.ifCond .ne 13, 3) := by decide +kernel
theorem d_Bld_carryOut_155 : decode prog_2_method_15_code 155 = .ok (.aload_n 0, 1) := by decide +kernel
theorem d_Bld_carryOut_156 : decode prog_2_method_15_code 156 = .ok (.iconst 2, 1) := by decide +kernel
theorem d_Bld_carryOut_157 : decode prog_2_method_15_code 157 = .ok (.invokevirtual 62, 3) := by decide +kernel
theorem d_Bld_carryOut_160 : decode prog_2_method_15_code 160 = .ok (.ifCond .eq 5, 3) := by decide +kernel
theorem d_Bld_carryOut_163 : decode prog_2_method_15_code 163 = .ok (.iconst 1, 1) := by decide +kernel
theorem d_Bld_carryOut_164 : decode prog_2_method_15_code 164 = .ok (.ireturn, 1) := by decide +kernel
theorem d_Bld_carryOut_165 : decode prog_2_method_15_code 165 = .ok (.aload_n 0, 1) := by decide +kernel
theorem d_Bld_carryOut_166 : decode prog_2_method_15_code 166 = .ok (.dup, 1) := by decide +kernel
theorem d_Bld_carryOut_167 : decode prog_2_method_15_code 167 = .ok (.getfield 46, 3) := by decide +kernel
theorem d_Bld_carryOut_170 : decode prog_2_method_15_code 170 = .ok (.iconst 1, 1) := by decide +kernel
theorem d_Bld_carryOut_171 : decode prog_2_method_15_code 171 = .ok (.iadd, 1) := by decide +kernel
theorem d_Bld_carryOut_172 : decode prog_2_method_15_code 172 = .ok (.putfield 46, 3) := by decide +kernel
theorem d_Bld_carryOut_175 : decode prog_2_method_15_code 175 = .ok (.aload_n 0, 1) := by decide +kernel
theorem d_Bld_carryOut_176 : decode prog_2_method_15_code 176 = .ok (.getfield 34, 3) := by decide +kernel
theorem d_Bld_carryOut_179 : decode prog_2_method_15_code 179 = .ok (.aload_n 0, 1) := by decide +kernel
theorem d_Bld_carryOut_180 : decode prog_2_method_15_code 180 = .ok (.getfield 30, 3) := by decide +kernel
theorem d_Bld_carryOut_183 : decode prog_2_method_15_code 183 = .ok (.getfield 252, 3) := by decide +kernel
theorem d_Bld_carryOut_186 : decode prog_2_method_15_code 186 = .ok (.invokevirtual 259, 3) := by decide +kernel
theorem d_Bld_carryOut_189 : decode prog_2_method_15_code 189 = .ok (.ifCond .ne 7, 3) := by decide +kernel
theorem d_Bld_carryOut_192 : decode prog_2_method_15_code 192 = .ok (.iload_n 3, 1) := by decide +kernel
theorem d_Bld_carryOut_193 : decode prog_2_method_15_code 193 = .ok (.ifCond .eq 7, 3) := by decide +kernel
theorem d_Bld_carryOut_196 : decode prog_2_method_15_code 196 = .ok (.iconst 1, 1) := by decide +kernel
theorem d_Bld_carryOut_197 : decode prog_2_method_15_code 197 = .ok (.goto 4, 3) := by decide +kernel
theorem d_Bld_carryOut_200 : decode prog_2_method_15_code 200 = .ok (.iconst 0, 1) := by decide +kernel
theorem d_Bld_carryOut_201 : decode prog_2_method_15_code 201 = .ok (.ireturn, 1) := by decide +kernel
noncomputable def f_Bld_carryOut_j165 (r0 : Option Nat) (x3 : Int32) (σ : rb_St) : Option rb_Rs :=
  (rb_gI σ r0 9 7).bind fun x_28 => (rb_pI σ r0 9 7 (x_28 + (1 : Int32))).bind fun σ_29 => (rb_gR σ_29 r0 9 3).bind fun r_30 => (rb_gR σ_29 r0 9 2).bind fun r_31 => (rb_gR σ_29 r_31 5 0).bind fun r_32 => (rb_fc σ_29 r_30 7).bind fun _ => rb_cI (f_Shell_act (r_30) (r_32) σ_29) fun x_33 σ_34 => if x_33 = 0 then (if x3 = 0 then (some (some (.int (0 : Int32)), σ_34)) else (some (some (.int (1 : Int32)), σ_34))) else (some (some (.int (1 : Int32)), σ_34))
theorem t_Bld_carryOut_j165 {E : rb_EV} {d : Nat} {σ0 : rb_St} {res : rb_Rs} (hdd : 42 ≤ d)  (r0 : Option Nat) (x3 : Int32) (σ : rb_St) : rb_TC (f_Bld_carryOut_j165 r0 x3 σ) (fun r => r = res) (rb_WK E k_Bld_carryOut d σ0 res 165 [some (va_rf r0), none, none, some (.int x3), none] [] σ) := by
  unfold f_Bld_carryOut_j165
  refine rb_TC.mono (rk_aload_n 0 d_Bld_carryOut_165 rfl rfl) ?_
  refine rb_TC.mono (rk_dupr d_Bld_carryOut_166) ?_
  refine rt_gI r0 fw_Bld_46 d_Bld_carryOut_167 (fun x_28 => ?_)
  refine rb_TC.mono (rk_iconst (1 : Int32) d_Bld_carryOut_170 (by decide)) ?_
  refine rb_TC.mono (rk_iadd d_Bld_carryOut_171) ?_
  refine rt_pI r0 fp_Bld_carryOut_46 d_Bld_carryOut_172 (fun σ_29 => ?_)
  refine rb_TC.mono (rk_aload_n 0 d_Bld_carryOut_175 rfl rfl) ?_
  refine rt_gR r0 fw_Bld_34 d_Bld_carryOut_176 (fun r_30 => ?_)
  refine rb_TC.mono (rk_aload_n 0 d_Bld_carryOut_179 rfl rfl) ?_
  refine rt_gR r0 fw_Bld_30 d_Bld_carryOut_180 (fun r_31 => ?_)
  refine rt_gR r_31 fw_Bld_252 d_Bld_carryOut_183 (fun r_32 => ?_)
  refine rt_vI (As := [va_rf r_32]) (st := []) (r_30) vw_Bld_259 (s_Shell_act (Nat.le_refl _) (r_30) (r_32) σ_29) (Nat.le_trans (by decide) hdd) rfl (by simp [rb_cat_r, rb_cat_i, rb_cat_l]) d_Bld_carryOut_186 (fun x_33 σ_34 => ?_)
  refine rt_if_ne 196 d_Bld_carryOut_189 (by decide) (fun _ => ?_) (fun _ => ?_)
  · refine rb_TC.mono (rk_iload_n 3 d_Bld_carryOut_192 rfl rfl) ?_
    refine rt_if_eq 200 d_Bld_carryOut_193 (by decide) (fun _ => ?_) (fun _ => ?_)
    · refine rb_TC.mono (rk_iconst (0 : Int32) d_Bld_carryOut_200 (by decide)) ?_
      exact rt_iret (ty := .boolean) rfl (by decide) (fun h => h) d_Bld_carryOut_201
    · refine rb_TC.mono (rk_iconst (1 : Int32) d_Bld_carryOut_196 (by decide)) ?_
      refine rb_TC.mono (rk_goto 201 d_Bld_carryOut_197 (by decide)) ?_
      exact rt_iret (ty := .boolean) rfl (by decide) (fun h => h) d_Bld_carryOut_201
  · refine rb_TC.mono (rk_iconst (1 : Int32) d_Bld_carryOut_196 (by decide)) ?_
    refine rb_TC.mono (rk_goto 201 d_Bld_carryOut_197 (by decide)) ?_
    exact rt_iret (ty := .boolean) rfl (by decide) (fun h => h) d_Bld_carryOut_201
noncomputable def f_Bld_carryOut_j148 (r0 : Option Nat) (r1 : Option Nat) (x3 : Int32) (σ : rb_St) : Option rb_Rs :=
  (rb_gI σ r1 11 4).bind fun x_25 => if x_25 = 0 then ((rb_fc σ r0 9).bind fun _ => rb_cI (f_Bld_has (r0) ((2 : Int32)) σ) fun x_26 σ_27 => if x_26 = 0 then (f_Bld_carryOut_j165 (r0) (x3) σ_27) else (some (some (.int (1 : Int32)), σ_27))) else (f_Bld_carryOut_j165 (r0) (x3) σ)
theorem t_Bld_carryOut_j148 {E : rb_EV} {d : Nat} {σ0 : rb_St} {res : rb_Rs} (hdd : 42 ≤ d)  (r0 : Option Nat) (r1 : Option Nat) (x3 : Int32) (σ : rb_St) : rb_TC (f_Bld_carryOut_j148 r0 r1 x3 σ) (fun r => r = res) (rb_WK E k_Bld_carryOut d σ0 res 148 [some (va_rf r0), some (va_rf r1), none, some (.int x3), none] [] σ) := by
  unfold f_Bld_carryOut_j148
  refine rb_TC.mono (rk_aload_n 1 d_Bld_carryOut_148 rfl rfl) ?_
  refine rt_gI r1 fw_Bld_230 d_Bld_carryOut_149 (fun x_25 => ?_)
  refine rt_if_ne 165 d_Bld_carryOut_152 (by decide) (fun _ => ?_) (fun _ => ?_)
  · refine rb_TC.mono (rk_aload_n 0 d_Bld_carryOut_155 rfl rfl) ?_
    refine rb_TC.mono (rk_iconst (2 : Int32) d_Bld_carryOut_156 (by decide)) ?_
    refine rt_vI (As := [.int (2 : Int32)]) (st := []) (r0) vw_Bld_62 (s_Bld_has (Nat.le_refl _) (r0) ((2 : Int32)) σ) (Nat.le_trans (by decide) hdd) rfl (by simp [rb_cat_r, rb_cat_i, rb_cat_l]) d_Bld_carryOut_157 (fun x_26 σ_27 => ?_)
    refine rt_if_eq 165 d_Bld_carryOut_160 (by decide) (fun _ => ?_) (fun _ => ?_)
    · refine rb_TC.mono (rk_less (lv2 := [some (va_rf r0), none, none, some (.int x3), none]) (rb_le_ok (rb_leS (rb_leN (rb_leN (rb_leS (rb_leN rb_le0))))))) ?_
      exact t_Bld_carryOut_j165 hdd  (r0) (x3) σ_27
    · refine rb_TC.mono (rk_iconst (1 : Int32) d_Bld_carryOut_163 (by decide)) ?_
      exact rt_iret (ty := .boolean) rfl (by decide) (fun h => h) d_Bld_carryOut_164
  · refine rb_TC.mono (rk_less (lv2 := [some (va_rf r0), none, none, some (.int x3), none]) (rb_le_ok (rb_leS (rb_leN (rb_leN (rb_leS (rb_leN rb_le0))))))) ?_
    exact t_Bld_carryOut_j165 hdd  (r0) (x3) σ
noncomputable def f_Bld_carryOut_j118 (r0 : Option Nat) (r1 : Option Nat) (x3 : Int32) (sx0 : Int32) (σ : rb_St) : Option rb_Rs :=
  (rb_fc σ r0 9).bind fun _ => rb_cI (f_Bld_has (r0) ((8 : Int32)) σ) fun x_19 σ_20 => if x_19 = 0 then (if sx0 = 0 then ((rb_gR σ_20 r0 9 3).bind fun r_21 => (rb_gR σ_20 r0 9 2).bind fun r_22 => (rb_gR σ_20 r_22 5 0).bind fun r_23 => (rb_fc σ_20 r_21 7).bind fun _ => rb_cV (f_Shell_printLine (r_21) (r_23) σ_20) fun σ_24 => f_Bld_carryOut_j148 (r0) (r1) (x3) σ_24) else (f_Bld_carryOut_j148 (r0) (r1) (x3) σ_20)) else (f_Bld_carryOut_j148 (r0) (r1) (x3) σ_20)
theorem t_Bld_carryOut_j118 {E : rb_EV} {d : Nat} {σ0 : rb_St} {res : rb_Rs} (hdd : 42 ≤ d)  (r0 : Option Nat) (r1 : Option Nat) (x3 : Int32) (sx0 : Int32) (σ : rb_St) : rb_TC (f_Bld_carryOut_j118 r0 r1 x3 sx0 σ) (fun r => r = res) (rb_WK E k_Bld_carryOut d σ0 res 118 [some (va_rf r0), some (va_rf r1), none, some (.int x3), none] [.int sx0] σ) := by
  unfold f_Bld_carryOut_j118
  refine rb_TC.mono (rk_istore (lv2 := [some (va_rf r0), some (va_rf r1), none, some (.int x3), some (.int sx0)]) d_Bld_carryOut_118 (by decide) (fun _ => rb_one_i) rfl) ?_
  refine rb_TC.mono (rk_aload_n 0 d_Bld_carryOut_120 rfl rfl) ?_
  refine rb_TC.mono (rk_bipush (8 : Int32) d_Bld_carryOut_121 (by decide)) ?_
  refine rt_vI (As := [.int (8 : Int32)]) (st := []) (r0) vw_Bld_62 (s_Bld_has (Nat.le_refl _) (r0) ((8 : Int32)) σ) (Nat.le_trans (by decide) hdd) rfl (by simp [rb_cat_r, rb_cat_i, rb_cat_l]) d_Bld_carryOut_123 (fun x_19 σ_20 => ?_)
  refine rt_if_ne 148 d_Bld_carryOut_126 (by decide) (fun _ => ?_) (fun _ => ?_)
  · refine rb_TC.mono (rk_iload d_Bld_carryOut_129 rfl) ?_
    refine rt_if_ne 148 d_Bld_carryOut_131 (by decide) (fun _ => ?_) (fun _ => ?_)
    · refine rb_TC.mono (rk_aload_n 0 d_Bld_carryOut_134 rfl rfl) ?_
      refine rt_gR r0 fw_Bld_34 d_Bld_carryOut_135 (fun r_21 => ?_)
      refine rb_TC.mono (rk_aload_n 0 d_Bld_carryOut_138 rfl rfl) ?_
      refine rt_gR r0 fw_Bld_30 d_Bld_carryOut_139 (fun r_22 => ?_)
      refine rt_gR r_22 fw_Bld_252 d_Bld_carryOut_142 (fun r_23 => ?_)
      refine rt_vV (As := [va_rf r_23]) (st := []) (r_21) vw_Bld_255 (s_Shell_printLine (Nat.le_refl _) (r_21) (r_23) σ_20) (Nat.le_trans (by decide) hdd) rfl (by simp [rb_cat_r, rb_cat_i, rb_cat_l]) d_Bld_carryOut_145 (fun σ_24 => ?_)
      refine rb_TC.mono (rk_less (lv2 := [some (va_rf r0), some (va_rf r1), none, some (.int x3), none]) (rb_le_ok (rb_leS (rb_leS (rb_leN (rb_leS (rb_leN rb_le0))))))) ?_
      exact t_Bld_carryOut_j148 hdd  (r0) (r1) (x3) σ_24
    · refine rb_TC.mono (rk_less (lv2 := [some (va_rf r0), some (va_rf r1), none, some (.int x3), none]) (rb_le_ok (rb_leS (rb_leS (rb_leN (rb_leS (rb_leN rb_le0))))))) ?_
      exact t_Bld_carryOut_j148 hdd  (r0) (r1) (x3) σ_20
  · refine rb_TC.mono (rk_less (lv2 := [some (va_rf r0), some (va_rf r1), none, some (.int x3), none]) (rb_le_ok (rb_leS (rb_leS (rb_leN (rb_leS (rb_leN rb_le0))))))) ?_
    exact t_Bld_carryOut_j148 hdd  (r0) (r1) (x3) σ_20
noncomputable def f_Bld_carryOut_j117 (r0 : Option Nat) (r1 : Option Nat) (x3 : Int32) (σ : rb_St) : Option rb_Rs :=
  f_Bld_carryOut_j118 (r0) (r1) (x3) ((0 : Int32)) σ
theorem t_Bld_carryOut_j117 {E : rb_EV} {d : Nat} {σ0 : rb_St} {res : rb_Rs} (hdd : 42 ≤ d)  (r0 : Option Nat) (r1 : Option Nat) (x3 : Int32) (σ : rb_St) : rb_TC (f_Bld_carryOut_j117 r0 r1 x3 σ) (fun r => r = res) (rb_WK E k_Bld_carryOut d σ0 res 117 [some (va_rf r0), some (va_rf r1), none, some (.int x3), none] [] σ) := by
  unfold f_Bld_carryOut_j117
  refine rb_TC.mono (rk_iconst (0 : Int32) d_Bld_carryOut_117 (by decide)) ?_
  exact t_Bld_carryOut_j118 hdd  (r0) (r1) (x3) ((0 : Int32)) σ
noncomputable def f_Bld_carryOut_j105 (r0 : Option Nat) (r1 : Option Nat) (x3 : Int32) (σ : rb_St) : Option rb_Rs :=
  (rb_fc σ r0 9).bind fun _ => rb_cI (f_Bld_has (r0) ((2 : Int32)) σ) fun x_35 σ_36 => if x_35 = 0 then (f_Bld_carryOut_j118 (r0) (r1) (x3) ((1 : Int32)) σ_36) else (f_Bld_carryOut_j117 (r0) (r1) (x3) σ_36)
theorem t_Bld_carryOut_j105 {E : rb_EV} {d : Nat} {σ0 : rb_St} {res : rb_Rs} (hdd : 42 ≤ d)  (r0 : Option Nat) (r1 : Option Nat) (x3 : Int32) (σ : rb_St) : rb_TC (f_Bld_carryOut_j105 r0 r1 x3 σ) (fun r => r = res) (rb_WK E k_Bld_carryOut d σ0 res 105 [some (va_rf r0), some (va_rf r1), none, some (.int x3), none] [] σ) := by
  unfold f_Bld_carryOut_j105
  refine rb_TC.mono (rk_aload_n 0 d_Bld_carryOut_105 rfl rfl) ?_
  refine rb_TC.mono (rk_iconst (2 : Int32) d_Bld_carryOut_106 (by decide)) ?_
  refine rt_vI (As := [.int (2 : Int32)]) (st := []) (r0) vw_Bld_62 (s_Bld_has (Nat.le_refl _) (r0) ((2 : Int32)) σ) (Nat.le_trans (by decide) hdd) rfl (by simp [rb_cat_r, rb_cat_i, rb_cat_l]) d_Bld_carryOut_107 (fun x_35 σ_36 => ?_)
  refine rt_if_ne 117 d_Bld_carryOut_110 (by decide) (fun _ => ?_) (fun _ => ?_)
  · refine rb_TC.mono (rk_iconst (1 : Int32) d_Bld_carryOut_113 (by decide)) ?_
    refine rb_TC.mono (rk_goto 118 d_Bld_carryOut_114 (by decide)) ?_
    exact t_Bld_carryOut_j118 hdd  (r0) (r1) (x3) ((1 : Int32)) σ_36
  · exact t_Bld_carryOut_j117 hdd  (r0) (r1) (x3) σ_36
noncomputable def f_Bld_carryOut_j72 (r0 : Option Nat) (r1 : Option Nat) (r2 : Option Nat) (sx0 : Int32) (σ : rb_St) : Option rb_Rs :=
  (rb_gR σ r0 9 2).bind fun r_12 => (rb_gR σ r1 11 0).bind fun r_13 => (rb_fc σ r_12 5).bind fun _ => rb_cI (f_Exp_expand (r_12) (r_13) (r2) σ) fun x_14 σ_15 => if x_14 = 0 then (if rb_isZ sx0 then some (some (.int sx0), σ_15) else none) else ((rb_gI σ_15 r1 11 3).bind fun x_16 => if x_16 = 0 then ((rb_fc σ_15 r0 9).bind fun _ => rb_cI (f_Bld_isSilent (r0) (r2) σ_15) fun x_17 σ_18 => if x_17 = 0 then (f_Bld_carryOut_j117 (r0) (r1) (sx0) σ_18) else (f_Bld_carryOut_j105 (r0) (r1) (sx0) σ_18)) else (f_Bld_carryOut_j105 (r0) (r1) (sx0) σ_15))
theorem t_Bld_carryOut_j72 {E : rb_EV} {d : Nat} {σ0 : rb_St} {res : rb_Rs} (hdd : 42 ≤ d)  (r0 : Option Nat) (r1 : Option Nat) (r2 : Option Nat) (sx0 : Int32) (σ : rb_St) : rb_TC (f_Bld_carryOut_j72 r0 r1 r2 sx0 σ) (fun r => r = res) (rb_WK E k_Bld_carryOut d σ0 res 72 [some (va_rf r0), some (va_rf r1), some (va_rf r2), none, none] [.int sx0] σ) := by
  unfold f_Bld_carryOut_j72
  refine rb_TC.mono (rk_istore_n (lv2 := [some (va_rf r0), some (va_rf r1), some (va_rf r2), some (.int sx0), none]) 3 d_Bld_carryOut_72 rfl (by decide) (fun _ => rb_one_r) rfl) ?_
  refine rb_TC.mono (rk_aload_n 0 d_Bld_carryOut_73 rfl rfl) ?_
  refine rt_gR r0 fw_Bld_30 d_Bld_carryOut_74 (fun r_12 => ?_)
  refine rb_TC.mono (rk_aload_n 1 d_Bld_carryOut_77 rfl rfl) ?_
  refine rt_gR r1 fw_Bld_244 d_Bld_carryOut_78 (fun r_13 => ?_)
  refine rb_TC.mono (rk_aload_n 2 d_Bld_carryOut_81 rfl rfl) ?_
  refine rt_vI (As := [va_rf r_13, va_rf r2]) (st := []) (r_12) vw_Bld_245 (s_Exp_expand (Nat.le_refl _) (r_12) (r_13) (r2) σ) (Nat.le_trans (by decide) hdd) rfl (by simp [rb_cat_r, rb_cat_i, rb_cat_l]) d_Bld_carryOut_82 (fun x_14 σ_15 => ?_)
  refine rt_if_ne 90 d_Bld_carryOut_85 (by decide) (fun _ => ?_) (fun _ => ?_)
  · refine rb_TC.mono (rk_iload_n 3 d_Bld_carryOut_88 rfl rfl) ?_
    refine rb_TC.ite (fun hn => ?_) (fun _ => rb_TC.none)
    exact rt_iret (ty := .boolean) rfl (rb_nar_Z hn) (fun h => h) d_Bld_carryOut_89
  · refine rb_TC.mono (rk_aload_n 1 d_Bld_carryOut_90 rfl rfl) ?_
    refine rt_gI r1 fw_Bld_249 d_Bld_carryOut_91 (fun x_16 => ?_)
    refine rt_if_ne 105 d_Bld_carryOut_94 (by decide) (fun _ => ?_) (fun _ => ?_)
    · refine rb_TC.mono (rk_aload_n 0 d_Bld_carryOut_97 rfl rfl) ?_
      refine rb_TC.mono (rk_aload_n 2 d_Bld_carryOut_98 rfl rfl) ?_
      refine rt_vI (As := [va_rf r2]) (st := []) (r0) vw_Bld_210 (s_Bld_isSilent (Nat.le_refl _) (r0) (r2) σ_15) (Nat.le_trans (by decide) hdd) rfl (by simp [rb_cat_r, rb_cat_i, rb_cat_l]) d_Bld_carryOut_99 (fun x_17 σ_18 => ?_)
      refine rt_if_eq 117 d_Bld_carryOut_102 (by decide) (fun _ => ?_) (fun _ => ?_)
      · refine rb_TC.mono (rk_less (lv2 := [some (va_rf r0), some (va_rf r1), none, some (.int sx0), none]) (rb_le_ok (rb_leS (rb_leS (rb_leN (rb_leS (rb_leN rb_le0))))))) ?_
        exact t_Bld_carryOut_j117 hdd  (r0) (r1) (sx0) σ_18
      · refine rb_TC.mono (rk_less (lv2 := [some (va_rf r0), some (va_rf r1), none, some (.int sx0), none]) (rb_le_ok (rb_leS (rb_leS (rb_leN (rb_leS (rb_leN rb_le0))))))) ?_
        exact t_Bld_carryOut_j105 hdd  (r0) (r1) (sx0) σ_18
    · refine rb_TC.mono (rk_less (lv2 := [some (va_rf r0), some (va_rf r1), none, some (.int sx0), none]) (rb_le_ok (rb_leS (rb_leS (rb_leN (rb_leS (rb_leN rb_le0))))))) ?_
      exact t_Bld_carryOut_j105 hdd  (r0) (r1) (sx0) σ_15
noncomputable def f_Bld_carryOut_j67 (r0 : Option Nat) (r1 : Option Nat) (r2 : Option Nat) (σ : rb_St) : Option rb_Rs :=
  f_Bld_carryOut_j72 (r0) (r1) (r2) ((1 : Int32)) σ
theorem t_Bld_carryOut_j67 {E : rb_EV} {d : Nat} {σ0 : rb_St} {res : rb_Rs} (hdd : 42 ≤ d)  (r0 : Option Nat) (r1 : Option Nat) (r2 : Option Nat) (σ : rb_St) : rb_TC (f_Bld_carryOut_j67 r0 r1 r2 σ) (fun r => r = res) (rb_WK E k_Bld_carryOut d σ0 res 67 [some (va_rf r0), some (va_rf r1), some (va_rf r2), none, none] [] σ) := by
  unfold f_Bld_carryOut_j67
  refine rb_TC.mono (rk_iconst (1 : Int32) d_Bld_carryOut_67 (by decide)) ?_
  refine rb_TC.mono (rk_goto 72 d_Bld_carryOut_68 (by decide)) ?_
  exact t_Bld_carryOut_j72 hdd  (r0) (r1) (r2) ((1 : Int32)) σ
noncomputable def f_Bld_carryOut_j34 (r0 : Option Nat) (r1 : Option Nat) (r2 : Option Nat) (σ : rb_St) : Option rb_Rs :=
  (rb_gI σ r1 11 2).bind fun x_6 => if x_6 = 0 then ((rb_gI σ r2 12 6).bind fun x_7 => if x_7 = 0 then ((rb_gR σ r0 9 1).bind fun r_8 => (rb_gI σ r_8 4 13).bind fun x_9 => if x_9 = 0 then ((rb_fc σ r0 9).bind fun _ => rb_cI (f_Bld_has (r0) ((16 : Int32)) σ) fun x_10 σ_11 => if x_10 = 0 then (f_Bld_carryOut_j72 (r0) (r1) (r2) ((0 : Int32)) σ_11) else (f_Bld_carryOut_j67 (r0) (r1) (r2) σ_11)) else (f_Bld_carryOut_j67 (r0) (r1) (r2) σ)) else (f_Bld_carryOut_j67 (r0) (r1) (r2) σ)) else (f_Bld_carryOut_j67 (r0) (r1) (r2) σ)
theorem t_Bld_carryOut_j34 {E : rb_EV} {d : Nat} {σ0 : rb_St} {res : rb_Rs} (hdd : 42 ≤ d)  (r0 : Option Nat) (r1 : Option Nat) (r2 : Option Nat) (σ : rb_St) : rb_TC (f_Bld_carryOut_j34 r0 r1 r2 σ) (fun r => r = res) (rb_WK E k_Bld_carryOut d σ0 res 34 [some (va_rf r0), some (va_rf r1), some (va_rf r2), none, none] [] σ) := by
  unfold f_Bld_carryOut_j34
  refine rb_TC.mono (rk_aload_n 1 d_Bld_carryOut_34 rfl rfl) ?_
  refine rt_gI r1 fw_Bld_235 d_Bld_carryOut_35 (fun x_6 => ?_)
  refine rt_if_ne 67 d_Bld_carryOut_38 (by decide) (fun _ => ?_) (fun _ => ?_)
  · refine rb_TC.mono (rk_aload_n 2 d_Bld_carryOut_41 rfl rfl) ?_
    refine rt_gI r2 fw_Bld_238 d_Bld_carryOut_42 (fun x_7 => ?_)
    refine rt_if_ne 67 d_Bld_carryOut_45 (by decide) (fun _ => ?_) (fun _ => ?_)
    · refine rb_TC.mono (rk_aload_n 0 d_Bld_carryOut_48 rfl rfl) ?_
      refine rt_gR r0 fw_Bld_26 d_Bld_carryOut_49 (fun r_8 => ?_)
      refine rt_gI r_8 fw_Bld_241 d_Bld_carryOut_52 (fun x_9 => ?_)
      refine rt_if_ne 67 d_Bld_carryOut_55 (by decide) (fun _ => ?_) (fun _ => ?_)
      · refine rb_TC.mono (rk_aload_n 0 d_Bld_carryOut_58 rfl rfl) ?_
        refine rb_TC.mono (rk_bipush (16 : Int32) d_Bld_carryOut_59 (by decide)) ?_
        refine rt_vI (As := [.int (16 : Int32)]) (st := []) (r0) vw_Bld_62 (s_Bld_has (Nat.le_refl _) (r0) ((16 : Int32)) σ) (Nat.le_trans (by decide) hdd) rfl (by simp [rb_cat_r, rb_cat_i, rb_cat_l]) d_Bld_carryOut_61 (fun x_10 σ_11 => ?_)
        refine rt_if_eq 71 d_Bld_carryOut_64 (by decide) (fun _ => ?_) (fun _ => ?_)
        · refine rb_TC.mono (rk_iconst (0 : Int32) d_Bld_carryOut_71 (by decide)) ?_
          exact t_Bld_carryOut_j72 hdd  (r0) (r1) (r2) ((0 : Int32)) σ_11
        · exact t_Bld_carryOut_j67 hdd  (r0) (r1) (r2) σ_11
      · exact t_Bld_carryOut_j67 hdd  (r0) (r1) (r2) σ
    · exact t_Bld_carryOut_j67 hdd  (r0) (r1) (r2) σ
  · exact t_Bld_carryOut_j67 hdd  (r0) (r1) (r2) σ
noncomputable def f_Bld_carryOut (r0 : Option Nat) (r1 : Option Nat) (r2 : Option Nat) (σ : rb_St) : Option rb_Rs :=
  (rb_gI σ r1 11 4).bind fun x_1 => if x_1 = 0 then ((rb_fc σ r0 9).bind fun _ => rb_cI (f_Bld_has (r0) ((8 : Int32)) σ) fun x_2 σ_3 => if x_2 = 0 then ((rb_fc σ_3 r0 9).bind fun _ => rb_cI (f_Bld_has (r0) ((4 : Int32)) σ_3) fun x_4 σ_5 => if x_4 = 0 then (f_Bld_carryOut_j34 (r0) (r1) (r2) σ_5) else ((rb_fc σ_5 r0 9).bind fun _ => rb_cI (f_Bld_has (r0) ((2 : Int32)) σ_5) fun x_37 σ_38 => if x_37 = 0 then (some (some (.int (1 : Int32)), σ_38)) else (f_Bld_carryOut_j34 (r0) (r1) (r2) σ_38))) else (some (some (.int (1 : Int32)), σ_3))) else (f_Bld_carryOut_j34 (r0) (r1) (r2) σ)
theorem s_Bld_carryOut {E : rb_EV} {d : Nat} (hdd : 42 ≤ d) (r0 : Option Nat) (r1 : Option Nat) (r2 : Option Nat) (σ : rb_St) : rb_Does E k_Bld_carryOut d [va_rf r0, va_rf r1, va_rf r2] σ (f_Bld_carryOut r0 r1 r2 σ) := by
  refine rb_start (lv := [some (va_rf r0), some (va_rf r1), some (va_rf r2), none, none]) (by decide) (by simp [lg_sl, rb_as, lv_args, rb_cat_r, rb_cat_i, rb_cat_l, rb_nL, k_Bld_carryOut]) (fun res => ?_)
  unfold f_Bld_carryOut
  refine rb_TC.mono (rk_aload_n 1 d_Bld_carryOut_0 rfl rfl) ?_
  refine rt_gI r1 fw_Bld_230 d_Bld_carryOut_1 (fun x_1 => ?_)
  refine rt_if_ne 34 d_Bld_carryOut_4 (by decide) (fun _ => ?_) (fun _ => ?_)
  · refine rb_TC.mono (rk_aload_n 0 d_Bld_carryOut_7 rfl rfl) ?_
    refine rb_TC.mono (rk_bipush (8 : Int32) d_Bld_carryOut_8 (by decide)) ?_
    refine rt_vI (As := [.int (8 : Int32)]) (st := []) (r0) vw_Bld_62 (s_Bld_has (Nat.le_refl _) (r0) ((8 : Int32)) σ) (Nat.le_trans (by decide) hdd) rfl (by simp [rb_cat_r, rb_cat_i, rb_cat_l]) d_Bld_carryOut_10 (fun x_2 σ_3 => ?_)
    refine rt_if_ne 32 d_Bld_carryOut_13 (by decide) (fun _ => ?_) (fun _ => ?_)
    · refine rb_TC.mono (rk_aload_n 0 d_Bld_carryOut_16 rfl rfl) ?_
      refine rb_TC.mono (rk_iconst (4 : Int32) d_Bld_carryOut_17 (by decide)) ?_
      refine rt_vI (As := [.int (4 : Int32)]) (st := []) (r0) vw_Bld_62 (s_Bld_has (Nat.le_refl _) (r0) ((4 : Int32)) σ_3) (Nat.le_trans (by decide) hdd) rfl (by simp [rb_cat_r, rb_cat_i, rb_cat_l]) d_Bld_carryOut_18 (fun x_4 σ_5 => ?_)
      refine rt_if_eq 34 d_Bld_carryOut_21 (by decide) (fun _ => ?_) (fun _ => ?_)
      · exact t_Bld_carryOut_j34 hdd  (r0) (r1) (r2) σ_5
      · refine rb_TC.mono (rk_aload_n 0 d_Bld_carryOut_24 rfl rfl) ?_
        refine rb_TC.mono (rk_iconst (2 : Int32) d_Bld_carryOut_25 (by decide)) ?_
        refine rt_vI (As := [.int (2 : Int32)]) (st := []) (r0) vw_Bld_62 (s_Bld_has (Nat.le_refl _) (r0) ((2 : Int32)) σ_5) (Nat.le_trans (by decide) hdd) rfl (by simp [rb_cat_r, rb_cat_i, rb_cat_l]) d_Bld_carryOut_26 (fun x_37 σ_38 => ?_)
        refine rt_if_ne 34 d_Bld_carryOut_29 (by decide) (fun _ => ?_) (fun _ => ?_)
        · refine rb_TC.mono (rk_iconst (1 : Int32) d_Bld_carryOut_32 (by decide)) ?_
          exact rt_iret (ty := .boolean) rfl (by decide) (fun h => h) d_Bld_carryOut_33
        · exact t_Bld_carryOut_j34 hdd  (r0) (r1) (r2) σ_38
    · refine rb_TC.mono (rk_iconst (1 : Int32) d_Bld_carryOut_32 (by decide)) ?_
      exact rt_iret (ty := .boolean) rfl (by decide) (fun h => h) d_Bld_carryOut_33
  · exact t_Bld_carryOut_j34 hdd  (r0) (r1) (r2) σ
-- ===== RuleBuilder$Builder.answerOfSuccess()I
def k_Bld_answerOfSuccess : rb_MK := (⟨"RuleBuilder$Builder", "answerOfSuccess", "()I"⟩, prog_2_method_3_code, 1, some (.int))
theorem mw_Bld_answerOfSuccess : rb_Mw k_Bld_answerOfSuccess 0 := ⟨rb_inG 1167 (by decide +kernel) rfl, rb_inG 93 (by decide +kernel) rfl, ⟨by decide, by decide, by decide +kernel⟩, by decide⟩
theorem d_Bld_answerOfSuccess_0 : decode prog_2_method_3_code 0 = .ok (.aload_n 0, 1) := by decide +kernel
theorem d_Bld_answerOfSuccess_1 : decode prog_2_method_3_code 1 = .ok (.bipush 8, 2) := by decide +kernel
theorem d_Bld_answerOfSuccess_3 : decode prog_2_method_3_code 3 = .ok (.invokevirtual 62, 3) := by decide +kernel
theorem d_Bld_answerOfSuccess_6 : decode prog_2_method_3_code 6 = .ok (.ifCond .eq 14, 3) := by decide +kernel
theorem d_Bld_answerOfSuccess_9 : decode prog_2_method_3_code 9 = .ok (.aload_n 0, 1) := by decide +kernel
theorem d_Bld_answerOfSuccess_10 : decode prog_2_method_3_code 10 = .ok (.getfield 42, 3) := by decide +kernel
theorem d_Bld_answerOfSuccess_13 : decode prog_2_method_3_code 13 = .ok (.ifCond .eq 7, 3) := by decide +kernel
theorem d_Bld_answerOfSuccess_16 : decode prog_2_method_3_code 16 = .ok (.iconst 1, 1) := by decide +kernel
theorem d_Bld_answerOfSuccess_17 : decode prog_2_method_3_code 17 = .ok (.goto 4, 3) := by decide +kernel
theorem d_Bld_answerOfSuccess_20 : decode prog_2_method_3_code 20 = .ok (.iconst 0, 1) := by decide +kernel
theorem d_Bld_answerOfSuccess_21 : decode prog_2_method_3_code 21 = .ok (.ireturn, 1) := by decide +kernel
noncomputable def f_Bld_answerOfSuccess (r0 : Option Nat) (σ : rb_St) : Option rb_Rs :=
  (rb_fc σ r0 9).bind fun _ => rb_cI (f_Bld_has (r0) ((8 : Int32)) σ) fun x_1 σ_2 => if x_1 = 0 then (some (some (.int (0 : Int32)), σ_2)) else ((rb_gI σ_2 r0 9 6).bind fun x_3 => if x_3 = 0 then (some (some (.int (0 : Int32)), σ_2)) else (some (some (.int (1 : Int32)), σ_2)))
theorem s_Bld_answerOfSuccess {E : rb_EV} {d : Nat} (hdd : 1 ≤ d) (r0 : Option Nat) (σ : rb_St) : rb_Does E k_Bld_answerOfSuccess d [va_rf r0] σ (f_Bld_answerOfSuccess r0 σ) := by
  refine rb_start (lv := [some (va_rf r0)]) (by decide) (by simp [lg_sl, rb_as, lv_args, rb_cat_r, rb_cat_i, rb_cat_l, rb_nL, k_Bld_answerOfSuccess]) (fun res => ?_)
  unfold f_Bld_answerOfSuccess
  refine rb_TC.mono (rk_aload_n 0 d_Bld_answerOfSuccess_0 rfl rfl) ?_
  refine rb_TC.mono (rk_bipush (8 : Int32) d_Bld_answerOfSuccess_1 (by decide)) ?_
  refine rt_vI (As := [.int (8 : Int32)]) (st := []) (r0) vw_Bld_62 (s_Bld_has (Nat.le_refl _) (r0) ((8 : Int32)) σ) (Nat.le_trans (by decide) hdd) rfl (by simp [rb_cat_r, rb_cat_i, rb_cat_l]) d_Bld_answerOfSuccess_3 (fun x_1 σ_2 => ?_)
  refine rt_if_eq 20 d_Bld_answerOfSuccess_6 (by decide) (fun _ => ?_) (fun _ => ?_)
  · refine rb_TC.mono (rk_iconst (0 : Int32) d_Bld_answerOfSuccess_20 (by decide)) ?_
    exact rt_iret (ty := .int) rfl rfl (fun h => h) d_Bld_answerOfSuccess_21
  · refine rb_TC.mono (rk_aload_n 0 d_Bld_answerOfSuccess_9 rfl rfl) ?_
    refine rt_gI r0 fw_Bld_42 d_Bld_answerOfSuccess_10 (fun x_3 => ?_)
    refine rt_if_eq 20 d_Bld_answerOfSuccess_13 (by decide) (fun _ => ?_) (fun _ => ?_)
    · refine rb_TC.mono (rk_iconst (0 : Int32) d_Bld_answerOfSuccess_20 (by decide)) ?_
      exact rt_iret (ty := .int) rfl rfl (fun h => h) d_Bld_answerOfSuccess_21
    · refine rb_TC.mono (rk_iconst (1 : Int32) d_Bld_answerOfSuccess_16 (by decide)) ?_
      refine rb_TC.mono (rk_goto 21 d_Bld_answerOfSuccess_17 (by decide)) ?_
      exact rt_iret (ty := .int) rfl rfl (fun h => h) d_Bld_answerOfSuccess_21
def k_Bld_update : rb_MK := (⟨"RuleBuilder$Builder", "update", "(LRuleBuilder$Name;I)Z"⟩, prog_2_method_5_code, 3, some (.boolean))
theorem mw_Bld_update : rb_Mw k_Bld_update 2 := ⟨rb_inG 1030 (by decide +kernel) rfl, rb_inG 93 (by decide +kernel) rfl, ⟨by decide, by decide, by decide +kernel⟩, by decide⟩
-- ===== RuleBuilder$Builder.updateNeeded(LRuleBuilder$Name;I)Z (a group that calls itself)
def k_Bld_updateNeeded : rb_MK := (⟨"RuleBuilder$Builder", "updateNeeded", "(LRuleBuilder$Name;I)Z"⟩, prog_2_method_7_code, 5, some (.boolean))
theorem mw_Bld_updateNeeded : rb_Mw k_Bld_updateNeeded 2 := ⟨rb_inG 1066 (by decide +kernel) rfl, rb_inG 93 (by decide +kernel) rfl, ⟨by decide, by decide, by decide +kernel⟩, by decide⟩
theorem vw_Bld_112 : rb_Vw "RuleBuilder$Builder" 112 k_Bld_update 9 2 := ⟨mw_Bld_update, rb_inG 1067 (by decide +kernel) rfl, rb_inG 1028 (by decide +kernel) rfl, rb_inG 1029 (by decide +kernel) rfl, by decide, by decide, _, rfl, rfl⟩
theorem d_Bld_updateNeeded_0 : decode prog_2_method_7_code 0 = .ok (.aload_n 1, 1) := by decide +kernel
theorem d_Bld_updateNeeded_1 : decode prog_2_method_7_code 1 = .ok (.getfield 108, 3) := by decide +kernel
theorem d_Bld_updateNeeded_4 : decode prog_2_method_7_code 4 = .ok (.ifnull 17, 3) := by decide +kernel
theorem d_Bld_updateNeeded_7 : decode prog_2_method_7_code 7 = .ok (.aload_n 0, 1) := by decide +kernel
theorem d_Bld_updateNeeded_8 : decode prog_2_method_7_code 8 = .ok (.aload_n 1, 1) := by decide +kernel
theorem d_Bld_updateNeeded_9 : decode prog_2_method_7_code 9 = .ok (.getfield 108, 3) := by decide +kernel
theorem d_Bld_updateNeeded_12 : decode prog_2_method_7_code 12 = .ok (.iload_n 2, 1) := by decide +kernel
theorem d_Bld_updateNeeded_13 : decode prog_2_method_7_code 13 = .ok (.iconst 1, 1) := by decide +kernel
theorem d_Bld_updateNeeded_14 : decode prog_2_method_7_code 14 = .ok (.iadd, 1) := by decide +kernel
theorem d_Bld_updateNeeded_15 : decode prog_2_method_7_code 15 = .ok (.invokevirtual 112, 3) := by decide +kernel
theorem d_Bld_updateNeeded_18 : decode prog_2_method_7_code 18 = .ok (.ifCond .eq 7, 3) := by decide +kernel
theorem d_Bld_updateNeeded_21 : decode prog_2_method_7_code 21 = .ok (.iconst 1, 1) := by decide +kernel
theorem d_Bld_updateNeeded_22 : decode prog_2_method_7_code 22 = .ok (.goto 4, 3) := by decide +kernel
theorem d_Bld_updateNeeded_25 : decode prog_2_method_7_code 25 = .ok (.iconst 0, 1) := by decide +kernel
theorem d_Bld_updateNeeded_26 : decode prog_2_method_7_code 26 = .ok (.istore_n 3, 1) := by decide +kernel
theorem d_Bld_updateNeeded_27 : decode prog_2_method_7_code 27 = .ok (.iconst 0, 1) := by decide +kernel
theorem d_Bld_updateNeeded_28 : decode prog_2_method_7_code 28 = .ok (.istore 4, 2) := by decide +kernel
theorem d_Bld_updateNeeded_30 : decode prog_2_method_7_code 30 = .ok (.iload 4, 2) := by decide +kernel
theorem d_Bld_updateNeeded_32 : decode prog_2_method_7_code 32 = .ok (.aload_n 0, 1) := by decide +kernel
theorem d_Bld_updateNeeded_33 : decode prog_2_method_7_code 33 = .ok (.getfield 26, 3) := by decide +kernel
theorem d_Bld_updateNeeded_36 : decode prog_2_method_7_code 36 = .ok (.getfield 115, 3) := by decide +kernel
theorem d_Bld_updateNeeded_39 : decode prog_2_method_7_code 39 = .ok (.if_icmp .ge 65, 3) := by decide +kernel
theorem d_Bld_updateNeeded_42 : decode prog_2_method_7_code 42 = .ok (.aload_n 0, 1) := by decide +kernel
theorem d_Bld_updateNeeded_43 : decode prog_2_method_7_code 43 = .ok (.getfield 26, 3) := by decide +kernel
theorem d_Bld_updateNeeded_46 : decode prog_2_method_7_code 46 = .ok (.getfield 118, 3) := by decide +kernel
theorem d_Bld_updateNeeded_49 : decode prog_2_method_7_code 49 = .ok (.iload 4, 2) := by decide +kernel
theorem d_Bld_updateNeeded_51 : decode prog_2_method_7_code 51 = .ok (.aaload, 1) := by decide +kernel
theorem d_Bld_updateNeeded_52 : decode prog_2_method_7_code 52 = .ok (.aload_n 1, 1) := by decide +kernel
theorem d_Bld_updateNeeded_53 : decode prog_2_method_7_code 53 = .ok (.if_acmp .ne 45, 3) := by decide +kernel
theorem d_Bld_updateNeeded_56 : decode prog_2_method_7_code 56 = .ok (.iload_n 3, 1) := by decide +kernel
theorem d_Bld_updateNeeded_57 : decode prog_2_method_7_code 57 = .ok (.ifCond .ne 11, 3) := by decide +kernel
theorem d_Bld_updateNeeded_60 : decode prog_2_method_7_code 60 = .ok (.aload_n 0, 1) := by decide +kernel
theorem d_Bld_updateNeeded_61 : decode prog_2_method_7_code 61 = .ok (.iconst 1, 1) := by decide +kernel
theorem d_Bld_updateNeeded_62 : decode prog_2_method_7_code 62 = .ok (.invokevirtual 62, 3) := by decide +kernel
theorem d_Bld_updateNeeded_65 : decode prog_2_method_7_code 65 = .ok (.ifCond .eq 33, 3) := by decide +kernel
theorem d_Bld_updateNeeded_68 : decode prog_2_method_7_code 68 = .ok (.aload_n 0, 1) := by decide +kernel
theorem d_Bld_updateNeeded_69 : decode prog_2_method_7_code 69 = .ok (.aload_n 0, 1) := by decide +kernel
theorem d_Bld_updateNeeded_70 : decode prog_2_method_7_code 70 = .ok (.getfield 26, 3) := by decide +kernel
theorem d_Bld_updateNeeded_73 : decode prog_2_method_7_code 73 = .ok (.getfield 122, 3) := by decide +kernel
theorem d_Bld_updateNeeded_76 : decode prog_2_method_7_code 76 = .ok (.iload 4, 2) := by decide +kernel
theorem d_Bld_updateNeeded_78 : decode prog_2_method_7_code 78 = .ok (.aaload, 1) := by decide +kernel
theorem d_Bld_updateNeeded_79 : decode prog_2_method_7_code 79 = .ok (.iload_n 2, 1) := by decide +kernel
theorem d_Bld_updateNeeded_80 : decode prog_2_method_7_code 80 = .ok (.iconst 1, 1) := by decide +kernel
theorem d_Bld_updateNeeded_81 : decode prog_2_method_7_code 81 = .ok (.iadd, 1) := by decide +kernel
theorem d_Bld_updateNeeded_82 : decode prog_2_method_7_code 82 = .ok (.invokevirtual 112, 3) := by decide +kernel
theorem d_Bld_updateNeeded_85 : decode prog_2_method_7_code 85 = .ok (.ifCond .eq 11, 3) := by decide +kernel
theorem d_Bld_updateNeeded_88 : decode prog_2_method_7_code 88 = .ok (.iload_n 3, 1) := by decide +kernel
theorem d_Bld_updateNeeded_89 : decode prog_2_method_7_code 89 = .ok (.ifCond .eq 7, 3) := by decide +kernel
theorem d_Bld_updateNeeded_92 : decode prog_2_method_7_code 92 = .ok (.iconst 1, 1) := by decide +kernel
theorem d_Bld_updateNeeded_93 : decode prog_2_method_7_code 93 = .ok (.goto 4, 3) := by decide +kernel
theorem d_Bld_updateNeeded_96 : decode prog_2_method_7_code 96 = .ok (.iconst 0, 1) := by decide +kernel
theorem d_Bld_updateNeeded_97 : decode prog_2_method_7_code 97 = .ok (.istore_n 3, 1) := by decide +kernel
theorem d_Bld_updateNeeded_98 : decode prog_2_method_7_code 98 = .ok (.iinc 4 1, 3) := by decide +kernel
theorem d_Bld_updateNeeded_101 : decode prog_2_method_7_code 101 = .ok (.goto (-71), 3) := by decide +kernel
theorem d_Bld_updateNeeded_104 : decode prog_2_method_7_code 104 = .ok (.iload_n 3, 1) := by decide +kernel
theorem d_Bld_updateNeeded_105 : decode prog_2_method_7_code 105 = .ok (.ireturn, 1) := by decide +kernel
noncomputable def f_Bld_updateNeeded_j68 (rT : Option Nat → Option Nat → Int32 → rb_St → Option rb_Rs) (r0 : Option Nat) (r1 : Option Nat) (x2 : Int32) (x3 : Int32) (x4 : Int32) (σ : rb_St) : Option ((Int32 × Int32 × rb_St) ⊕ rb_Rs) :=
  (rb_gR σ r0 9 1).bind fun r_9 => (rb_gR σ r_9 4 9).bind fun r_10 => (rb_aR σ r_10 112 x4).bind fun r_11 => (rb_fc σ r0 9).bind fun _ => rb_cI (rT (r0) (r_11) ((x2 + (1 : Int32))) σ) fun x_12 σ_13 => if x_12 = 0 then (some (.inl ((0 : Int32), (x4 + 1), σ_13))) else (if x3 = 0 then (some (.inl ((0 : Int32), (x4 + 1), σ_13))) else (some (.inl ((1 : Int32), (x4 + 1), σ_13))))
theorem t_Bld_updateNeeded_j68 {E : rb_EV} {d : Nat} {σ0 : rb_St} {res : rb_Rs} {dT : Nat} {rT : Option Nat → Option Nat → Int32 → rb_St → Option rb_Rs} (hT : ∀ (r0 : Option Nat) (r1 : Option Nat) (x2 : Int32) (σ : rb_St), rb_Does E k_Bld_update dT [va_rf r0, va_rf r1, .int x2] σ (rT r0 r1 x2 σ)) (hdd : dT + 1 ≤ d ∧ 1 ≤ d)  (r0 : Option Nat) (r1 : Option Nat) (x2 : Int32) (x3 : Int32) (x4 : Int32) (σ : rb_St) : rb_TC (f_Bld_updateNeeded_j68 rT r0 r1 x2 x3 x4 σ) (Sum.elim (fun z : (Int32 × Int32 × rb_St) => rb_WK E k_Bld_updateNeeded d σ0 res 30 [some (va_rf r0), some (va_rf r1), some (.int x2), some (.int z.1), some (.int z.2.1)] [] z.2.2) (fun r => r = res)) (rb_WK E k_Bld_updateNeeded d σ0 res 68 [some (va_rf r0), some (va_rf r1), some (.int x2), some (.int x3), some (.int x4)] [] σ) := by
  unfold f_Bld_updateNeeded_j68
  refine rb_TC.mono (rk_aload_n 0 d_Bld_updateNeeded_68 rfl rfl) ?_
  refine rb_TC.mono (rk_aload_n 0 d_Bld_updateNeeded_69 rfl rfl) ?_
  refine rt_gR r0 fw_Bld_26 d_Bld_updateNeeded_70 (fun r_9 => ?_)
  refine rt_gR r_9 fw_Bld_122 d_Bld_updateNeeded_73 (fun r_10 => ?_)
  refine rb_TC.mono (rk_iload d_Bld_updateNeeded_76 rfl) ?_
  refine rt_aald (t := 112) r_10 (by decide) d_Bld_updateNeeded_78 (fun r_11 => ?_)
  refine rb_TC.mono (rk_iload_n 2 d_Bld_updateNeeded_79 rfl rfl) ?_
  refine rb_TC.mono (rk_iconst (1 : Int32) d_Bld_updateNeeded_80 (by decide)) ?_
  refine rb_TC.mono (rk_iadd d_Bld_updateNeeded_81) ?_
  refine rt_vI (As := [va_rf r_11, .int (x2 + (1 : Int32))]) (st := []) (r0) vw_Bld_112 (hT (r0) (r_11) ((x2 + (1 : Int32))) σ) (by omega) rfl (by simp [rb_cat_r, rb_cat_i, rb_cat_l]) d_Bld_updateNeeded_82 (fun x_12 σ_13 => ?_)
  refine rt_if_eq 96 d_Bld_updateNeeded_85 (by decide) (fun _ => ?_) (fun _ => ?_)
  · refine rb_TC.mono (rk_iconst (0 : Int32) d_Bld_updateNeeded_96 (by decide)) ?_
    refine rb_TC.mono (rk_istore_n (lv2 := [some (va_rf r0), some (va_rf r1), some (.int x2), some (.int (0 : Int32)), some (.int x4)]) 3 d_Bld_updateNeeded_97 rfl (by decide) (fun _ => rb_one_i) rfl) ?_
    refine rb_TC.mono (rk_iinc (lv2 := [some (va_rf r0), some (va_rf r1), some (.int x2), some (.int (0 : Int32)), some (.int (x4 + 1))]) (x4 + 1) d_Bld_updateNeeded_98 rfl rfl (by decide) (fun _ => rb_one_i) rfl) ?_
    refine rb_TC.mono (rk_goto 30 d_Bld_updateNeeded_101 (by decide)) ?_
    exact rb_back
  · refine rb_TC.mono (rk_iload_n 3 d_Bld_updateNeeded_88 rfl rfl) ?_
    refine rt_if_eq 96 d_Bld_updateNeeded_89 (by decide) (fun _ => ?_) (fun _ => ?_)
    · refine rb_TC.mono (rk_iconst (0 : Int32) d_Bld_updateNeeded_96 (by decide)) ?_
      refine rb_TC.mono (rk_istore_n (lv2 := [some (va_rf r0), some (va_rf r1), some (.int x2), some (.int (0 : Int32)), some (.int x4)]) 3 d_Bld_updateNeeded_97 rfl (by decide) (fun _ => rb_one_i) rfl) ?_
      refine rb_TC.mono (rk_iinc (lv2 := [some (va_rf r0), some (va_rf r1), some (.int x2), some (.int (0 : Int32)), some (.int (x4 + 1))]) (x4 + 1) d_Bld_updateNeeded_98 rfl rfl (by decide) (fun _ => rb_one_i) rfl) ?_
      refine rb_TC.mono (rk_goto 30 d_Bld_updateNeeded_101 (by decide)) ?_
      exact rb_back
    · refine rb_TC.mono (rk_iconst (1 : Int32) d_Bld_updateNeeded_92 (by decide)) ?_
      refine rb_TC.mono (rk_goto 97 d_Bld_updateNeeded_93 (by decide)) ?_
      refine rb_TC.mono (rk_istore_n (lv2 := [some (va_rf r0), some (va_rf r1), some (.int x2), some (.int (1 : Int32)), some (.int x4)]) 3 d_Bld_updateNeeded_97 rfl (by decide) (fun _ => rb_one_i) rfl) ?_
      refine rb_TC.mono (rk_iinc (lv2 := [some (va_rf r0), some (va_rf r1), some (.int x2), some (.int (1 : Int32)), some (.int (x4 + 1))]) (x4 + 1) d_Bld_updateNeeded_98 rfl rfl (by decide) (fun _ => rb_one_i) rfl) ?_
      refine rb_TC.mono (rk_goto 30 d_Bld_updateNeeded_101 (by decide)) ?_
      exact rb_back
noncomputable def f_Bld_updateNeeded_b30 (rT : Option Nat → Option Nat → Int32 → rb_St → Option rb_Rs) (r0 : Option Nat) (r1 : Option Nat) (x2 : Int32) (x3 : Int32) (x4 : Int32) (σ : rb_St) : Option ((Int32 × Int32 × rb_St) ⊕ rb_Rs) :=
  (rb_gR σ r0 9 1).bind fun r_2 => (rb_gI σ r_2 4 10).bind fun x_3 => if x_3 ≤ x4 then ((if rb_isZ x3 then some (some (.int x3), σ) else none).map Sum.inr) else ((rb_gR σ r0 9 1).bind fun r_4 => (rb_gR σ r_4 4 8).bind fun r_5 => (rb_aR σ r_5 112 x4).bind fun r_6 => if r_6 = r1 then (if x3 = 0 then ((rb_fc σ r0 9).bind fun _ => rb_cI (f_Bld_has (r0) ((1 : Int32)) σ) fun x_7 σ_8 => if x_7 = 0 then (some (.inl (x3, (x4 + 1), σ_8))) else (f_Bld_updateNeeded_j68 rT (r0) (r1) (x2) (x3) (x4) σ_8)) else (f_Bld_updateNeeded_j68 rT (r0) (r1) (x2) (x3) (x4) σ)) else (some (.inl (x3, (x4 + 1), σ))))
theorem t_Bld_updateNeeded_b30 {E : rb_EV} {d : Nat} {σ0 : rb_St} {res : rb_Rs} {dT : Nat} {rT : Option Nat → Option Nat → Int32 → rb_St → Option rb_Rs} (hT : ∀ (r0 : Option Nat) (r1 : Option Nat) (x2 : Int32) (σ : rb_St), rb_Does E k_Bld_update dT [va_rf r0, va_rf r1, .int x2] σ (rT r0 r1 x2 σ)) (hdd : dT + 1 ≤ d ∧ 1 ≤ d)  (r0 : Option Nat) (r1 : Option Nat) (x2 : Int32) (x3 : Int32) (x4 : Int32) (σ : rb_St) : rb_TC (f_Bld_updateNeeded_b30 rT r0 r1 x2 x3 x4 σ) (Sum.elim (fun z : (Int32 × Int32 × rb_St) => rb_WK E k_Bld_updateNeeded d σ0 res 30 [some (va_rf r0), some (va_rf r1), some (.int x2), some (.int z.1), some (.int z.2.1)] [] z.2.2) (fun r => r = res)) (rb_WK E k_Bld_updateNeeded d σ0 res 30 [some (va_rf r0), some (va_rf r1), some (.int x2), some (.int x3), some (.int x4)] [] σ) := by
  unfold f_Bld_updateNeeded_b30
  refine rb_TC.mono (rk_iload d_Bld_updateNeeded_30 rfl) ?_
  refine rb_TC.mono (rk_aload_n 0 d_Bld_updateNeeded_32 rfl rfl) ?_
  refine rt_gR r0 fw_Bld_26 d_Bld_updateNeeded_33 (fun r_2 => ?_)
  refine rt_gI r_2 fw_Bld_115 d_Bld_updateNeeded_36 (fun x_3 => ?_)
  refine rt_icmp_ge 104 d_Bld_updateNeeded_39 (by decide) (fun _ => ?_) (fun _ => ?_)
  · refine rb_TC.out ?_
    refine rb_TC.mono (rk_iload_n 3 d_Bld_updateNeeded_104 rfl rfl) ?_
    refine rb_TC.ite (fun hn => ?_) (fun _ => rb_TC.none)
    exact rt_iret (ty := .boolean) rfl (rb_nar_Z hn) (fun h => h) d_Bld_updateNeeded_105
  · refine rb_TC.mono (rk_aload_n 0 d_Bld_updateNeeded_42 rfl rfl) ?_
    refine rt_gR r0 fw_Bld_26 d_Bld_updateNeeded_43 (fun r_4 => ?_)
    refine rt_gR r_4 fw_Bld_118 d_Bld_updateNeeded_46 (fun r_5 => ?_)
    refine rb_TC.mono (rk_iload d_Bld_updateNeeded_49 rfl) ?_
    refine rt_aald (t := 112) r_5 (by decide) d_Bld_updateNeeded_51 (fun r_6 => ?_)
    refine rb_TC.mono (rk_aload_n 1 d_Bld_updateNeeded_52 rfl rfl) ?_
    refine rt_acmp_ne 98 d_Bld_updateNeeded_53 (by decide) (fun _ => ?_) (fun _ => ?_)
    · refine rb_TC.mono (rk_iload_n 3 d_Bld_updateNeeded_56 rfl rfl) ?_
      refine rt_if_ne 68 d_Bld_updateNeeded_57 (by decide) (fun _ => ?_) (fun _ => ?_)
      · refine rb_TC.mono (rk_aload_n 0 d_Bld_updateNeeded_60 rfl rfl) ?_
        refine rb_TC.mono (rk_iconst (1 : Int32) d_Bld_updateNeeded_61 (by decide)) ?_
        refine rt_vI (As := [.int (1 : Int32)]) (st := []) (r0) vw_Bld_62 (s_Bld_has (Nat.le_refl _) (r0) ((1 : Int32)) σ) (by omega) rfl (by simp [rb_cat_r, rb_cat_i, rb_cat_l]) d_Bld_updateNeeded_62 (fun x_7 σ_8 => ?_)
        refine rt_if_eq 98 d_Bld_updateNeeded_65 (by decide) (fun _ => ?_) (fun _ => ?_)
        · refine rb_TC.mono (rk_iinc (lv2 := [some (va_rf r0), some (va_rf r1), some (.int x2), some (.int x3), some (.int (x4 + 1))]) (x4 + 1) d_Bld_updateNeeded_98 rfl rfl (by decide) (fun _ => rb_one_i) rfl) ?_
          refine rb_TC.mono (rk_goto 30 d_Bld_updateNeeded_101 (by decide)) ?_
          exact rb_back
        · exact t_Bld_updateNeeded_j68 hT hdd  (r0) (r1) (x2) (x3) (x4) σ_8
      · exact t_Bld_updateNeeded_j68 hT hdd  (r0) (r1) (x2) (x3) (x4) σ
    · refine rb_TC.mono (rk_iinc (lv2 := [some (va_rf r0), some (va_rf r1), some (.int x2), some (.int x3), some (.int (x4 + 1))]) (x4 + 1) d_Bld_updateNeeded_98 rfl rfl (by decide) (fun _ => rb_one_i) rfl) ?_
      refine rb_TC.mono (rk_goto 30 d_Bld_updateNeeded_101 (by decide)) ?_
      exact rb_back
noncomputable def f_Bld_updateNeeded (rT : Option Nat → Option Nat → Int32 → rb_St → Option rb_Rs) (r0 : Option Nat) (r1 : Option Nat) (x2 : Int32) (σ : rb_St) : Option rb_Rs :=
  (rb_gR σ r1 12 14).bind fun r_1 => if r_1 = none then (rb_it (fun z : (Int32 × Int32 × rb_St) => f_Bld_updateNeeded_b30 rT (r0) (r1) (x2) (z.1) (z.2.1) z.2.2) ((1 : Int32), (0 : Int32), σ)) else ((rb_gR σ r1 12 14).bind fun r_14 => (rb_fc σ r0 9).bind fun _ => rb_cI (rT (r0) (r_14) ((x2 + (1 : Int32))) σ) fun x_15 σ_16 => if x_15 = 0 then (rb_it (fun z : (Int32 × Int32 × rb_St) => f_Bld_updateNeeded_b30 rT (r0) (r1) (x2) (z.1) (z.2.1) z.2.2) ((0 : Int32), (0 : Int32), σ_16)) else (rb_it (fun z : (Int32 × Int32 × rb_St) => f_Bld_updateNeeded_b30 rT (r0) (r1) (x2) (z.1) (z.2.1) z.2.2) ((1 : Int32), (0 : Int32), σ_16)))
theorem s_Bld_updateNeeded {E : rb_EV} {d : Nat} {dT : Nat} {rT : Option Nat → Option Nat → Int32 → rb_St → Option rb_Rs} (hT : ∀ (r0 : Option Nat) (r1 : Option Nat) (x2 : Int32) (σ : rb_St), rb_Does E k_Bld_update dT [va_rf r0, va_rf r1, .int x2] σ (rT r0 r1 x2 σ)) (hdd : dT + 1 ≤ d ∧ 1 ≤ d) (r0 : Option Nat) (r1 : Option Nat) (x2 : Int32) (σ : rb_St) : rb_Does E k_Bld_updateNeeded d [va_rf r0, va_rf r1, .int x2] σ (f_Bld_updateNeeded rT r0 r1 x2 σ) := by
  refine rb_start (lv := [some (va_rf r0), some (va_rf r1), some (.int x2), none, none]) (by decide) (by simp [lg_sl, rb_as, lv_args, rb_cat_r, rb_cat_i, rb_cat_l, rb_nL, k_Bld_updateNeeded]) (fun res => ?_)
  unfold f_Bld_updateNeeded
  refine rb_TC.mono (rk_aload_n 1 d_Bld_updateNeeded_0 rfl rfl) ?_
  refine rt_gR r1 fw_Bld_108 d_Bld_updateNeeded_1 (fun r_1 => ?_)
  refine rt_ifnull 21 d_Bld_updateNeeded_4 (by decide) (fun _ => ?_) (fun _ => ?_)
  · refine rb_TC.mono (rk_iconst (1 : Int32) d_Bld_updateNeeded_21 (by decide)) ?_
    refine rb_TC.mono (rk_goto 26 d_Bld_updateNeeded_22 (by decide)) ?_
    refine rb_TC.mono (rk_istore_n (lv2 := [some (va_rf r0), some (va_rf r1), some (.int x2), some (.int (1 : Int32)), none]) 3 d_Bld_updateNeeded_26 rfl (by decide) (fun _ => rb_one_i) rfl) ?_
    refine rb_TC.mono (rk_iconst (0 : Int32) d_Bld_updateNeeded_27 (by decide)) ?_
    refine rb_TC.mono (rk_istore (lv2 := [some (va_rf r0), some (va_rf r1), some (.int x2), some (.int (1 : Int32)), some (.int (0 : Int32))]) d_Bld_updateNeeded_28 (by decide) (fun _ => rb_one_i) rfl) ?_
    exact rb_TC.loop2 (A := (fun z : (Int32 × Int32 × rb_St) => rb_WK E k_Bld_updateNeeded d σ res 30 [some (va_rf r0), some (va_rf r1), some (.int x2), some (.int z.1), some (.int z.2.1)] [] z.2.2)) ((1 : Int32), (0 : Int32), σ) (fun z => t_Bld_updateNeeded_b30 hT hdd  (r0) (r1) (x2) (z.1) (z.2.1) z.2.2)
  · refine rb_TC.mono (rk_aload_n 0 d_Bld_updateNeeded_7 rfl rfl) ?_
    refine rb_TC.mono (rk_aload_n 1 d_Bld_updateNeeded_8 rfl rfl) ?_
    refine rt_gR r1 fw_Bld_108 d_Bld_updateNeeded_9 (fun r_14 => ?_)
    refine rb_TC.mono (rk_iload_n 2 d_Bld_updateNeeded_12 rfl rfl) ?_
    refine rb_TC.mono (rk_iconst (1 : Int32) d_Bld_updateNeeded_13 (by decide)) ?_
    refine rb_TC.mono (rk_iadd d_Bld_updateNeeded_14) ?_
    refine rt_vI (As := [va_rf r_14, .int (x2 + (1 : Int32))]) (st := []) (r0) vw_Bld_112 (hT (r0) (r_14) ((x2 + (1 : Int32))) σ) (by omega) rfl (by simp [rb_cat_r, rb_cat_i, rb_cat_l]) d_Bld_updateNeeded_15 (fun x_15 σ_16 => ?_)
    refine rt_if_eq 25 d_Bld_updateNeeded_18 (by decide) (fun _ => ?_) (fun _ => ?_)
    · refine rb_TC.mono (rk_iconst (0 : Int32) d_Bld_updateNeeded_25 (by decide)) ?_
      refine rb_TC.mono (rk_istore_n (lv2 := [some (va_rf r0), some (va_rf r1), some (.int x2), some (.int (0 : Int32)), none]) 3 d_Bld_updateNeeded_26 rfl (by decide) (fun _ => rb_one_i) rfl) ?_
      refine rb_TC.mono (rk_iconst (0 : Int32) d_Bld_updateNeeded_27 (by decide)) ?_
      refine rb_TC.mono (rk_istore (lv2 := [some (va_rf r0), some (va_rf r1), some (.int x2), some (.int (0 : Int32)), some (.int (0 : Int32))]) d_Bld_updateNeeded_28 (by decide) (fun _ => rb_one_i) rfl) ?_
      exact rb_TC.loop2 (A := (fun z : (Int32 × Int32 × rb_St) => rb_WK E k_Bld_updateNeeded d σ res 30 [some (va_rf r0), some (va_rf r1), some (.int x2), some (.int z.1), some (.int z.2.1)] [] z.2.2)) ((0 : Int32), (0 : Int32), σ_16) (fun z => t_Bld_updateNeeded_b30 hT hdd  (r0) (r1) (x2) (z.1) (z.2.1) z.2.2)
    · refine rb_TC.mono (rk_iconst (1 : Int32) d_Bld_updateNeeded_21 (by decide)) ?_
      refine rb_TC.mono (rk_goto 26 d_Bld_updateNeeded_22 (by decide)) ?_
      refine rb_TC.mono (rk_istore_n (lv2 := [some (va_rf r0), some (va_rf r1), some (.int x2), some (.int (1 : Int32)), none]) 3 d_Bld_updateNeeded_26 rfl (by decide) (fun _ => rb_one_i) rfl) ?_
      refine rb_TC.mono (rk_iconst (0 : Int32) d_Bld_updateNeeded_27 (by decide)) ?_
      refine rb_TC.mono (rk_istore (lv2 := [some (va_rf r0), some (va_rf r1), some (.int x2), some (.int (1 : Int32)), some (.int (0 : Int32))]) d_Bld_updateNeeded_28 (by decide) (fun _ => rb_one_i) rfl) ?_
      exact rb_TC.loop2 (A := (fun z : (Int32 × Int32 × rb_St) => rb_WK E k_Bld_updateNeeded d σ res 30 [some (va_rf r0), some (va_rf r1), some (.int x2), some (.int z.1), some (.int z.2.1)] [] z.2.2)) ((1 : Int32), (0 : Int32), σ_16) (fun z => t_Bld_updateNeeded_b30 hT hdd  (r0) (r1) (x2) (z.1) (z.2.1) z.2.2)
-- ===== RuleBuilder$Builder.fateOf(LRuleBuilder$Name;I)I (a group that calls itself)
def k_Bld_fateOf : rb_MK := (⟨"RuleBuilder$Builder", "fateOf", "(LRuleBuilder$Name;I)I"⟩, prog_2_method_6_code, 5, some (.int))
theorem mw_Bld_fateOf : rb_Mw k_Bld_fateOf 2 := ⟨rb_inG 1034 (by decide +kernel) rfl, rb_inG 93 (by decide +kernel) rfl, ⟨by decide, by decide, by decide +kernel⟩, by decide⟩
theorem fp_Bld_fateOf_42 : rb_Fp k_Bld_fateOf 42 9 6 .boolean := ⟨fw_Bld_42, rfl, fun q h => by cases h; exact Or.inl rfl⟩
theorem vw_Bld_100 : rb_Vw "RuleBuilder$Builder" 100 k_Rules_commandOf 4 2 := ⟨mw_Rules_commandOf, rb_inG 1099 (by decide +kernel) rfl, rb_inG 1100 (by decide +kernel) rfl, rb_inG 1101 (by decide +kernel) rfl, by decide, by decide, _, rfl, rfl⟩
theorem vw_Bld_104 : rb_Vw "RuleBuilder$Builder" 104 k_Bld_carryOut 9 2 := ⟨mw_Bld_carryOut, rb_inG 1103 (by decide +kernel) rfl, rb_inG 1105 (by decide +kernel) rfl, rb_inG 28 (by decide +kernel) rfl, by decide, by decide, _, rfl, rfl⟩
theorem vw_Bld_76 : rb_Vw "RuleBuilder$Builder" 76 k_Bld_chooseCommands 9 1 := ⟨mw_Bld_chooseCommands, rb_inG 1035 (by decide +kernel) rfl, rb_inG 1037 (by decide +kernel) rfl, rb_inG 19 (by decide +kernel) rfl, by decide, by decide, _, rfl, rfl⟩
theorem vw_Bld_80 : rb_Vw "RuleBuilder$Builder" 80 k_Bld_updateNeeded 9 2 := ⟨mw_Bld_updateNeeded, rb_inG 1063 (by decide +kernel) rfl, rb_inG 1065 (by decide +kernel) rfl, rb_inG 22 (by decide +kernel) rfl, by decide, by decide, _, rfl, rfl⟩
theorem vw_Bld_84 : rb_Vw "RuleBuilder$Builder" 84 k_Bld_isOutOfDate 9 1 := ⟨mw_Bld_isOutOfDate, rb_inG 1072 (by decide +kernel) rfl, rb_inG 1074 (by decide +kernel) rfl, rb_inG 24 (by decide +kernel) rfl, by decide, by decide, _, rfl, rfl⟩
theorem vw_Bld_87 : rb_Vw "RuleBuilder$Builder" 87 k_Bld_touchIfAsked 9 1 := ⟨mw_Bld_touchIfAsked, rb_inG 1081 (by decide +kernel) rfl, rb_inG 1083 (by decide +kernel) rfl, rb_inG 26 (by decide +kernel) rfl, by decide, by decide, _, rfl, rfl⟩
theorem vw_Bld_91 : rb_Vw "RuleBuilder$Builder" 91 k_Rules_commandCount 4 0 := ⟨mw_Rules_commandCount, rb_inG 1098 (by decide +kernel) rfl, rb_inG 564 (by decide +kernel) rfl, rb_inG 565 (by decide +kernel) rfl, by decide, by decide, _, rfl, rfl⟩
theorem d_Bld_fateOf_0 : decode prog_2_method_6_code 0 = .ok (.aload_n 0, 1) := by decide +kernel
theorem d_Bld_fateOf_1 : decode prog_2_method_6_code 1 = .ok (.aload_n 1, 1) := by decide +kernel
theorem d_Bld_fateOf_2 : decode prog_2_method_6_code 2 = .ok (.invokevirtual 76, 3) := by decide +kernel
theorem d_Bld_fateOf_5 : decode prog_2_method_6_code 5 = .ok (.ifCond .eq 12, 3) := by decide +kernel
theorem d_Bld_fateOf_8 : decode prog_2_method_6_code 8 = .ok (.aload_n 0, 1) := by decide +kernel
theorem d_Bld_fateOf_9 : decode prog_2_method_6_code 9 = .ok (.aload_n 1, 1) := by decide +kernel
theorem d_Bld_fateOf_10 : decode prog_2_method_6_code 10 = .ok (.iload_n 2, 1) := by decide +kernel
theorem d_Bld_fateOf_11 : decode prog_2_method_6_code 11 = .ok (.invokevirtual 80, 3) := by decide +kernel
theorem d_Bld_fateOf_14 : decode prog_2_method_6_code 14 = .ok (.ifCond .ne 5, 3) := by decide +kernel
theorem d_Bld_fateOf_17 : decode prog_2_method_6_code 17 = .ok (.iconst 3, 1) := by decide +kernel
theorem d_Bld_fateOf_18 : decode prog_2_method_6_code 18 = .ok (.ireturn, 1) := by decide +kernel
theorem d_Bld_fateOf_19 : decode prog_2_method_6_code 19 = .ok (.aload_n 0, 1) := by decide +kernel
theorem d_Bld_fateOf_20 : decode prog_2_method_6_code 20 = .ok (.aload_n 1, 1) := by decide +kernel
theorem d_Bld_fateOf_21 : decode prog_2_method_6_code 21 = .ok (.invokevirtual 84, 3) := by decide +kernel
theorem d_Bld_fateOf_24 : decode prog_2_method_6_code 24 = .ok (.ifCond .ne 5, 3) := by decide +kernel
theorem d_Bld_fateOf_27 : decode prog_2_method_6_code 27 = .ok (.iconst 1, 1) := by decide +kernel
theorem d_Bld_fateOf_28 : decode prog_2_method_6_code 28 = .ok (.ireturn, 1) := by decide +kernel
theorem d_Bld_fateOf_29 : decode prog_2_method_6_code 29 = .ok (.aload_n 0, 1) := by decide +kernel
theorem d_Bld_fateOf_30 : decode prog_2_method_6_code 30 = .ok (.iconst 1, 1) := by decide +kernel
theorem d_Bld_fateOf_31 : decode prog_2_method_6_code 31 = .ok (.putfield 42, 3) := by decide +kernel
theorem d_Bld_fateOf_34 : decode prog_2_method_6_code 34 = .ok (.aload_n 0, 1) := by decide +kernel
theorem d_Bld_fateOf_35 : decode prog_2_method_6_code 35 = .ok (.aload_n 1, 1) := by decide +kernel
theorem d_Bld_fateOf_36 : decode prog_2_method_6_code 36 = .ok (.invokevirtual 87, 3) := by decide +kernel
theorem d_Bld_fateOf_39 : decode prog_2_method_6_code 39 = .ok (.iconst 0, 1) := by decide +kernel
theorem d_Bld_fateOf_40 : decode prog_2_method_6_code 40 = .ok (.istore_n 3, 1) := by decide +kernel
theorem d_Bld_fateOf_41 : decode prog_2_method_6_code 41 = .ok (.iload_n 3, 1) := by decide +kernel
theorem d_Bld_fateOf_42 : decode prog_2_method_6_code 42 = .ok (.aload_n 0, 1) := by decide +kernel
theorem d_Bld_fateOf_43 : decode prog_2_method_6_code 43 = .ok (.getfield 26, 3) := by decide +kernel
theorem d_Bld_fateOf_46 : decode prog_2_method_6_code 46 = .ok (.invokevirtual 91, 3) := by decide +kernel
theorem d_Bld_fateOf_49 : decode prog_2_method_6_code 49 = .ok (.if_icmp .ge 40, 3) := by decide +kernel
theorem d_Bld_fateOf_52 : decode prog_2_method_6_code 52 = .ok (.aload_n 0, 1) := by decide +kernel
theorem d_Bld_fateOf_53 : decode prog_2_method_6_code 53 = .ok (.getfield 26, 3) := by decide +kernel
theorem d_Bld_fateOf_56 : decode prog_2_method_6_code 56 = .ok (.aload_n 1, 1) := by decide +kernel
theorem d_Bld_fateOf_57 : decode prog_2_method_6_code 57 = .ok (.getfield 97, 3) := by decide +kernel
theorem d_Bld_fateOf_60 : decode prog_2_method_6_code 60 = .ok (.iload_n 3, 1) := by decide +kernel
theorem d_Bld_fateOf_61 : decode prog_2_method_6_code 61 = .ok (.invokevirtual 100, 3) := by decide +kernel
theorem d_Bld_fateOf_64 : decode prog_2_method_6_code 64 = .ok (.astore 4, 2) := by decide +kernel
theorem d_Bld_fateOf_66 : decode prog_2_method_6_code 66 = .ok (.aload 4, 2) := by decide +kernel
theorem d_Bld_fateOf_68 : decode prog_2_method_6_code 68 = .ok (.ifnull 15, 3) := by decide +kernel
theorem d_Bld_fateOf_71 : decode prog_2_method_6_code 71 = .ok (.aload_n 0, 1) := by decide +kernel
theorem d_Bld_fateOf_72 : decode prog_2_method_6_code 72 = .ok (.aload 4, 2) := by decide +kernel
theorem d_Bld_fateOf_74 : decode prog_2_method_6_code 74 = .ok (.aload_n 1, 1) := by decide +kernel
theorem d_Bld_fateOf_75 : decode prog_2_method_6_code 75 = .ok (.invokevirtual 104, 3) := by decide +kernel
theorem d_Bld_fateOf_78 : decode prog_2_method_6_code 78 = .ok (.ifCond .ne 5, 3) := by decide +kernel
theorem d_Bld_fateOf_81 : decode prog_2_method_6_code 81 = .ok (.iconst 3, 1) := by decide +kernel
theorem d_Bld_fateOf_82 : decode prog_2_method_6_code 82 = .ok (.ireturn, 1) := by decide +kernel
theorem d_Bld_fateOf_83 : decode prog_2_method_6_code 83 = .ok (.iinc 3 1, 3) := by decide +kernel
theorem d_Bld_fateOf_86 : decode prog_2_method_6_code 86 = .ok (.goto (-45), 3) := by decide +kernel
theorem d_Bld_fateOf_89 : decode prog_2_method_6_code 89 = .ok (.iconst 2, 1) := by decide +kernel
theorem d_Bld_fateOf_90 : decode prog_2_method_6_code 90 = .ok (.ireturn, 1) := by decide +kernel
noncomputable def f_Bld_fateOf_b41 (rT : Option Nat → Option Nat → Int32 → rb_St → Option rb_Rs) (r0 : Option Nat) (r1 : Option Nat) (x3 : Int32) (σ : rb_St) : Option ((Int32 × rb_St) ⊕ rb_Rs) :=
  (rb_gR σ r0 9 1).bind fun r_9 => (rb_fc σ r_9 4).bind fun _ => rb_cI (f_Rules_commandCount (r_9)  σ) fun x_10 σ_11 => if x_10 ≤ x3 then ((some (some (.int (2 : Int32)), σ_11)).map Sum.inr) else ((rb_gR σ_11 r0 9 1).bind fun r_12 => (rb_gI σ_11 r1 12 12).bind fun x_13 => (rb_fc σ_11 r_12 4).bind fun _ => rb_cR (f_Rules_commandOf (r_12) (x_13) (x3) σ_11) fun r_14 σ_15 => if r_14 = none then (some (.inl ((x3 + 1), σ_15))) else ((rb_fc σ_15 r0 9).bind fun _ => rb_cI (f_Bld_carryOut (r0) (r_14) (r1) σ_15) fun x_16 σ_17 => if x_16 = 0 then ((some (some (.int (3 : Int32)), σ_17)).map Sum.inr) else (some (.inl ((x3 + 1), σ_17)))))
theorem t_Bld_fateOf_b41 {E : rb_EV} {d : Nat} {σ0 : rb_St} {res : rb_Rs} {dT : Nat} {rT : Option Nat → Option Nat → Int32 → rb_St → Option rb_Rs} (hT : ∀ (r0 : Option Nat) (r1 : Option Nat) (x2 : Int32) (σ : rb_St), rb_Does E k_Bld_update dT [va_rf r0, va_rf r1, .int x2] σ (rT r0 r1 x2 σ)) (hdd : dT + 2 ≤ d ∧ 43 ≤ d)  (r0 : Option Nat) (r1 : Option Nat) (x3 : Int32) (σ : rb_St) : rb_TC (f_Bld_fateOf_b41 rT r0 r1 x3 σ) (Sum.elim (fun z : (Int32 × rb_St) => rb_WK E k_Bld_fateOf d σ0 res 41 [some (va_rf r0), some (va_rf r1), none, some (.int z.1), none] [] z.2) (fun r => r = res)) (rb_WK E k_Bld_fateOf d σ0 res 41 [some (va_rf r0), some (va_rf r1), none, some (.int x3), none] [] σ) := by
  unfold f_Bld_fateOf_b41
  refine rb_TC.mono (rk_iload_n 3 d_Bld_fateOf_41 rfl rfl) ?_
  refine rb_TC.mono (rk_aload_n 0 d_Bld_fateOf_42 rfl rfl) ?_
  refine rt_gR r0 fw_Bld_26 d_Bld_fateOf_43 (fun r_9 => ?_)
  refine rt_vI (As := []) (st := [.int x3]) (r_9) vw_Bld_91 (s_Rules_commandCount (Nat.le_refl _) (r_9)  σ) (by omega) rfl (by simp [rb_cat_r, rb_cat_i, rb_cat_l]) d_Bld_fateOf_46 (fun x_10 σ_11 => ?_)
  refine rt_icmp_ge 89 d_Bld_fateOf_49 (by decide) (fun _ => ?_) (fun _ => ?_)
  · refine rb_TC.out ?_
    refine rb_TC.mono (rk_iconst (2 : Int32) d_Bld_fateOf_89 (by decide)) ?_
    exact rt_iret (ty := .int) rfl rfl (fun h => h) d_Bld_fateOf_90
  · refine rb_TC.mono (rk_aload_n 0 d_Bld_fateOf_52 rfl rfl) ?_
    refine rt_gR r0 fw_Bld_26 d_Bld_fateOf_53 (fun r_12 => ?_)
    refine rb_TC.mono (rk_aload_n 1 d_Bld_fateOf_56 rfl rfl) ?_
    refine rt_gI r1 fw_Bld_97 d_Bld_fateOf_57 (fun x_13 => ?_)
    refine rb_TC.mono (rk_iload_n 3 d_Bld_fateOf_60 rfl rfl) ?_
    refine rt_vR (As := [.int x_13, .int x3]) (st := []) (r_12) vw_Bld_100 (s_Rules_commandOf (Nat.le_refl _) (r_12) (x_13) (x3) σ_11) (by omega) rfl (by simp [rb_cat_r, rb_cat_i, rb_cat_l]) d_Bld_fateOf_61 (fun r_14 σ_15 => ?_)
    refine rb_TC.mono (rk_astore (lv2 := [some (va_rf r0), some (va_rf r1), none, some (.int x3), some (va_rf r_14)]) d_Bld_fateOf_64 (by decide) (fun _ => rb_one_i) rfl) ?_
    refine rb_TC.mono (rk_aload d_Bld_fateOf_66 rfl) ?_
    refine rt_ifnull 83 d_Bld_fateOf_68 (by decide) (fun _ => ?_) (fun _ => ?_)
    · refine rb_TC.mono (rk_iinc (lv2 := [some (va_rf r0), some (va_rf r1), none, some (.int (x3 + 1)), some (va_rf r_14)]) (x3 + 1) d_Bld_fateOf_83 rfl rfl (by decide) (fun _ => rb_one_n) rfl) ?_
      refine rb_TC.mono (rk_goto 41 d_Bld_fateOf_86 (by decide)) ?_
      refine rb_TC.mono (rk_less (lv2 := [some (va_rf r0), some (va_rf r1), none, some (.int (x3 + 1)), none]) (rb_le_ok (rb_leS (rb_leS (rb_leN (rb_leS (rb_leN rb_le0))))))) ?_
      exact rb_back
    · refine rb_TC.mono (rk_aload_n 0 d_Bld_fateOf_71 rfl rfl) ?_
      refine rb_TC.mono (rk_aload d_Bld_fateOf_72 rfl) ?_
      refine rb_TC.mono (rk_aload_n 1 d_Bld_fateOf_74 rfl rfl) ?_
      refine rt_vI (As := [va_rf r_14, va_rf r1]) (st := []) (r0) vw_Bld_104 (s_Bld_carryOut (Nat.le_refl _) (r0) (r_14) (r1) σ_15) (by omega) rfl (by simp [rb_cat_r, rb_cat_i, rb_cat_l]) d_Bld_fateOf_75 (fun x_16 σ_17 => ?_)
      refine rt_if_ne 83 d_Bld_fateOf_78 (by decide) (fun _ => ?_) (fun _ => ?_)
      · refine rb_TC.out ?_
        refine rb_TC.mono (rk_iconst (3 : Int32) d_Bld_fateOf_81 (by decide)) ?_
        exact rt_iret (ty := .int) rfl rfl (fun h => h) d_Bld_fateOf_82
      · refine rb_TC.mono (rk_iinc (lv2 := [some (va_rf r0), some (va_rf r1), none, some (.int (x3 + 1)), some (va_rf r_14)]) (x3 + 1) d_Bld_fateOf_83 rfl rfl (by decide) (fun _ => rb_one_n) rfl) ?_
        refine rb_TC.mono (rk_goto 41 d_Bld_fateOf_86 (by decide)) ?_
        refine rb_TC.mono (rk_less (lv2 := [some (va_rf r0), some (va_rf r1), none, some (.int (x3 + 1)), none]) (rb_le_ok (rb_leS (rb_leS (rb_leN (rb_leS (rb_leN rb_le0))))))) ?_
        exact rb_back
noncomputable def f_Bld_fateOf (rT : Option Nat → Option Nat → Int32 → rb_St → Option rb_Rs) (r0 : Option Nat) (r1 : Option Nat) (x2 : Int32) (σ : rb_St) : Option rb_Rs :=
  (rb_fc σ r0 9).bind fun _ => rb_cI (f_Bld_chooseCommands (r0) (r1) σ) fun x_1 σ_2 => if x_1 = 0 then (some (some (.int (3 : Int32)), σ_2)) else ((rb_fc σ_2 r0 9).bind fun _ => rb_cI (f_Bld_updateNeeded rT (r0) (r1) (x2) σ_2) fun x_3 σ_4 => if x_3 = 0 then (some (some (.int (3 : Int32)), σ_4)) else ((rb_fc σ_4 r0 9).bind fun _ => rb_cI (f_Bld_isOutOfDate (r0) (r1) σ_4) fun x_5 σ_6 => if x_5 = 0 then (some (some (.int (1 : Int32)), σ_6)) else ((rb_pZ σ_6 r0 9 6 (1 : Int32)).bind fun σ_7 => (rb_fc σ_7 r0 9).bind fun _ => rb_cV (f_Bld_touchIfAsked (r0) (r1) σ_7) fun σ_8 => rb_it (fun z : (Int32 × rb_St) => f_Bld_fateOf_b41 rT (r0) (r1) (z.1) z.2) ((0 : Int32), σ_8))))
theorem s_Bld_fateOf {E : rb_EV} {d : Nat} {dT : Nat} {rT : Option Nat → Option Nat → Int32 → rb_St → Option rb_Rs} (hT : ∀ (r0 : Option Nat) (r1 : Option Nat) (x2 : Int32) (σ : rb_St), rb_Does E k_Bld_update dT [va_rf r0, va_rf r1, .int x2] σ (rT r0 r1 x2 σ)) (hdd : dT + 2 ≤ d ∧ 43 ≤ d) (r0 : Option Nat) (r1 : Option Nat) (x2 : Int32) (σ : rb_St) : rb_Does E k_Bld_fateOf d [va_rf r0, va_rf r1, .int x2] σ (f_Bld_fateOf rT r0 r1 x2 σ) := by
  refine rb_start (lv := [some (va_rf r0), some (va_rf r1), some (.int x2), none, none]) (by decide) (by simp [lg_sl, rb_as, lv_args, rb_cat_r, rb_cat_i, rb_cat_l, rb_nL, k_Bld_fateOf]) (fun res => ?_)
  unfold f_Bld_fateOf
  refine rb_TC.mono (rk_aload_n 0 d_Bld_fateOf_0 rfl rfl) ?_
  refine rb_TC.mono (rk_aload_n 1 d_Bld_fateOf_1 rfl rfl) ?_
  refine rt_vI (As := [va_rf r1]) (st := []) (r0) vw_Bld_76 (s_Bld_chooseCommands (Nat.le_refl _) (r0) (r1) σ) (by omega) rfl (by simp [rb_cat_r, rb_cat_i, rb_cat_l]) d_Bld_fateOf_2 (fun x_1 σ_2 => ?_)
  refine rt_if_eq 17 d_Bld_fateOf_5 (by decide) (fun _ => ?_) (fun _ => ?_)
  · refine rb_TC.mono (rk_iconst (3 : Int32) d_Bld_fateOf_17 (by decide)) ?_
    exact rt_iret (ty := .int) rfl rfl (fun h => h) d_Bld_fateOf_18
  · refine rb_TC.mono (rk_aload_n 0 d_Bld_fateOf_8 rfl rfl) ?_
    refine rb_TC.mono (rk_aload_n 1 d_Bld_fateOf_9 rfl rfl) ?_
    refine rb_TC.mono (rk_iload_n 2 d_Bld_fateOf_10 rfl rfl) ?_
    refine rt_vI (As := [va_rf r1, .int x2]) (st := []) (r0) vw_Bld_80 (s_Bld_updateNeeded hT (d := d - 1) (by omega) (r0) (r1) (x2) σ_2) (by omega) rfl (by simp [rb_cat_r, rb_cat_i, rb_cat_l]) d_Bld_fateOf_11 (fun x_3 σ_4 => ?_)
    refine rt_if_ne 19 d_Bld_fateOf_14 (by decide) (fun _ => ?_) (fun _ => ?_)
    · refine rb_TC.mono (rk_iconst (3 : Int32) d_Bld_fateOf_17 (by decide)) ?_
      exact rt_iret (ty := .int) rfl rfl (fun h => h) d_Bld_fateOf_18
    · refine rb_TC.mono (rk_aload_n 0 d_Bld_fateOf_19 rfl rfl) ?_
      refine rb_TC.mono (rk_aload_n 1 d_Bld_fateOf_20 rfl rfl) ?_
      refine rt_vI (As := [va_rf r1]) (st := []) (r0) vw_Bld_84 (s_Bld_isOutOfDate (Nat.le_refl _) (r0) (r1) σ_4) (by omega) rfl (by simp [rb_cat_r, rb_cat_i, rb_cat_l]) d_Bld_fateOf_21 (fun x_5 σ_6 => ?_)
      refine rt_if_ne 29 d_Bld_fateOf_24 (by decide) (fun _ => ?_) (fun _ => ?_)
      · refine rb_TC.mono (rk_iconst (1 : Int32) d_Bld_fateOf_27 (by decide)) ?_
        exact rt_iret (ty := .int) rfl rfl (fun h => h) d_Bld_fateOf_28
      · refine rb_TC.mono (rk_aload_n 0 d_Bld_fateOf_29 rfl rfl) ?_
        refine rb_TC.mono (rk_iconst (1 : Int32) d_Bld_fateOf_30 (by decide)) ?_
        refine rt_pZ r0 fp_Bld_fateOf_42 d_Bld_fateOf_31 (fun σ_7 => ?_)
        refine rb_TC.mono (rk_aload_n 0 d_Bld_fateOf_34 rfl rfl) ?_
        refine rb_TC.mono (rk_aload_n 1 d_Bld_fateOf_35 rfl rfl) ?_
        refine rt_vV (As := [va_rf r1]) (st := []) (r0) vw_Bld_87 (s_Bld_touchIfAsked (Nat.le_refl _) (r0) (r1) σ_7) (by omega) rfl (by simp [rb_cat_r, rb_cat_i, rb_cat_l]) d_Bld_fateOf_36 (fun σ_8 => ?_)
        refine rb_TC.mono (rk_iconst (0 : Int32) d_Bld_fateOf_39 (by decide)) ?_
        refine rb_TC.mono (rk_istore_n (lv2 := [some (va_rf r0), some (va_rf r1), some (.int x2), some (.int (0 : Int32)), none]) 3 d_Bld_fateOf_40 rfl (by decide) (fun _ => rb_one_i) rfl) ?_
        refine rb_TC.mono (rk_less (lv2 := [some (va_rf r0), some (va_rf r1), none, some (.int (0 : Int32)), none]) (rb_le_ok (rb_leS (rb_leS (rb_leN (rb_leS (rb_leN rb_le0))))))) ?_
        exact rb_TC.loop2 (A := (fun z : (Int32 × rb_St) => rb_WK E k_Bld_fateOf d σ res 41 [some (va_rf r0), some (va_rf r1), none, some (.int z.1), none] [] z.2)) ((0 : Int32), σ_8) (fun z => t_Bld_fateOf_b41 hT hdd  (r0) (r1) (z.1) z.2)
-- ===== RuleBuilder$Builder.update(LRuleBuilder$Name;I)Z (a group that calls itself)
theorem fw_Bld_66 : rb_Fw "RuleBuilder$Builder" 66 12 11 := ⟨_, rfl, by decide, by decide, by decide, rfl, rb_inG 915 (by decide +kernel) rfl⟩
theorem fp_Bld_update_66 : rb_Fp k_Bld_update 66 12 11 .boolean := ⟨fw_Bld_66, rfl, fun q h => by cases h; exact Or.inl rfl⟩
theorem fp_Bld_update_69 : rb_Fp k_Bld_update 69 12 10 .int := ⟨fw_Bld_69, rfl, fun q h => by cases h; exact Or.inl rfl⟩
theorem vw_Bld_72 : rb_Vw "RuleBuilder$Builder" 72 k_Bld_fateOf 9 2 := ⟨mw_Bld_fateOf, rb_inG 1031 (by decide +kernel) rfl, rb_inG 1033 (by decide +kernel) rfl, rb_inG 18 (by decide +kernel) rfl, by decide, by decide, _, rfl, rfl⟩
theorem d_Bld_update_0 : decode prog_2_method_5_code 0 = .ok (.aload_n 1, 1) := by decide +kernel
theorem d_Bld_update_1 : decode prog_2_method_5_code 1 = .ok (.getfield 66, 3) := by decide +kernel
theorem d_Bld_update_4 : decode prog_2_method_5_code 4 = .ok (.ifCond .ne 9, 3) := by decide +kernel
theorem d_Bld_update_7 : decode prog_2_method_5_code 7 = .ok (.iload_n 2, 1) := by decide +kernel
theorem d_Bld_update_8 : decode prog_2_method_5_code 8 = .ok (.bipush 32, 2) := by decide +kernel
theorem d_Bld_update_10 : decode prog_2_method_5_code 10 = .ok (.if_icmp .le 5, 3) := by decide +kernel
theorem d_Bld_update_13 : decode prog_2_method_5_code 13 = .ok (.iconst 0, 1) := by decide +kernel
theorem d_Bld_update_14 : decode prog_2_method_5_code 14 = .ok (.ireturn, 1) := by decide +kernel
theorem d_Bld_update_15 : decode prog_2_method_5_code 15 = .ok (.aload_n 1, 1) := by decide +kernel
theorem d_Bld_update_16 : decode prog_2_method_5_code 16 = .ok (.getfield 69, 3) := by decide +kernel
theorem d_Bld_update_19 : decode prog_2_method_5_code 19 = .ok (.ifCond .ne 23, 3) := by decide +kernel
theorem d_Bld_update_22 : decode prog_2_method_5_code 22 = .ok (.aload_n 1, 1) := by decide +kernel
theorem d_Bld_update_23 : decode prog_2_method_5_code 23 = .ok (.iconst 1, 1) := by decide +kernel
theorem d_Bld_update_24 : decode prog_2_method_5_code 24 = .ok (.putfield 66, 3) := by decide +kernel
theorem d_Bld_update_27 : decode prog_2_method_5_code 27 = .ok (.aload_n 1, 1) := by decide +kernel
theorem d_Bld_update_28 : decode prog_2_method_5_code 28 = .ok (.aload_n 0, 1) := by decide +kernel
theorem d_Bld_update_29 : decode prog_2_method_5_code 29 = .ok (.aload_n 1, 1) := by decide +kernel
theorem d_Bld_update_30 : decode prog_2_method_5_code 30 = .ok (.iload_n 2, 1) := by decide +kernel
theorem d_Bld_update_31 : decode prog_2_method_5_code 31 = .ok (.invokevirtual 72, 3) := by decide +kernel
theorem d_Bld_update_34 : decode prog_2_method_5_code 34 = .ok (.putfield 69, 3) := by decide +kernel
theorem d_Bld_update_37 : decode prog_2_method_5_code 37 = .ok (.aload_n 1, 1) := by decide +kernel
theorem d_Bld_update_38 : decode prog_2_method_5_code 38 = .ok (.iconst 0, 1) := by decide +kernel
theorem d_Bld_update_39 : decode prog_2_method_5_code 39 = .ok (.putfield 66, 3) := by decide +kernel
theorem d_Bld_update_42 : decode prog_2_method_5_code 42 = .ok (.aload_n 1, 1) := by decide +kernel
theorem d_Bld_update_43 : decode prog_2_method_5_code 43 = .ok (.getfield 69, 3) := by decide +kernel
theorem d_Bld_update_46 : decode prog_2_method_5_code 46 = .ok (.iconst 3, 1) := by decide +kernel
theorem d_Bld_update_47 : decode prog_2_method_5_code 47 = .ok (.if_icmp .eq 7, 3) := by decide +kernel
theorem d_Bld_update_50 : decode prog_2_method_5_code 50 = .ok (.iconst 1, 1) := by decide +kernel
theorem d_Bld_update_51 : decode prog_2_method_5_code 51 = .ok (.goto 4, 3) := by decide +kernel
theorem d_Bld_update_54 : decode prog_2_method_5_code 54 = .ok (.iconst 0, 1) := by decide +kernel
theorem d_Bld_update_55 : decode prog_2_method_5_code 55 = .ok (.ireturn, 1) := by decide +kernel
noncomputable def f_Bld_update_j42 (rT : Option Nat → Option Nat → Int32 → rb_St → Option rb_Rs) (r1 : Option Nat) (σ : rb_St) : Option rb_Rs :=
  (rb_gI σ r1 12 10).bind fun x_8 => if x_8 = (3 : Int32) then (some (some (.int (0 : Int32)), σ)) else (some (some (.int (1 : Int32)), σ))
theorem t_Bld_update_j42 {E : rb_EV} {d : Nat} {σ0 : rb_St} {res : rb_Rs} {dT : Nat} {rT : Option Nat → Option Nat → Int32 → rb_St → Option rb_Rs} (hT : ∀ (r0 : Option Nat) (r1 : Option Nat) (x2 : Int32) (σ : rb_St), rb_Does E k_Bld_update dT [va_rf r0, va_rf r1, .int x2] σ (rT r0 r1 x2 σ)) (hdd : dT + 3 ≤ d ∧ 44 ≤ d)  (r1 : Option Nat) (σ : rb_St) : rb_TC (f_Bld_update_j42 rT r1 σ) (fun r => r = res) (rb_WK E k_Bld_update d σ0 res 42 [none, some (va_rf r1), none] [] σ) := by
  unfold f_Bld_update_j42
  refine rb_TC.mono (rk_aload_n 1 d_Bld_update_42 rfl rfl) ?_
  refine rt_gI r1 fw_Bld_69 d_Bld_update_43 (fun x_8 => ?_)
  refine rb_TC.mono (rk_iconst (3 : Int32) d_Bld_update_46 (by decide)) ?_
  refine rt_icmp_eq 54 d_Bld_update_47 (by decide) (fun _ => ?_) (fun _ => ?_)
  · refine rb_TC.mono (rk_iconst (0 : Int32) d_Bld_update_54 (by decide)) ?_
    exact rt_iret (ty := .boolean) rfl (by decide) (fun h => h) d_Bld_update_55
  · refine rb_TC.mono (rk_iconst (1 : Int32) d_Bld_update_50 (by decide)) ?_
    refine rb_TC.mono (rk_goto 55 d_Bld_update_51 (by decide)) ?_
    exact rt_iret (ty := .boolean) rfl (by decide) (fun h => h) d_Bld_update_55
noncomputable def f_Bld_update_F (rT : Option Nat → Option Nat → Int32 → rb_St → Option rb_Rs) (r0 : Option Nat) (r1 : Option Nat) (x2 : Int32) (σ : rb_St) : Option rb_Rs :=
  (rb_gI σ r1 12 11).bind fun x_1 => if x_1 = 0 then (if x2 ≤ (32 : Int32) then ((rb_gI σ r1 12 10).bind fun x_2 => if x_2 = 0 then ((rb_pZ σ r1 12 11 (1 : Int32)).bind fun σ_3 => (rb_fc σ_3 r0 9).bind fun _ => rb_cI (f_Bld_fateOf rT (r0) (r1) (x2) σ_3) fun x_4 σ_5 => (rb_pI σ_5 r1 12 10 x_4).bind fun σ_6 => (rb_pZ σ_6 r1 12 11 (0 : Int32)).bind fun σ_7 => f_Bld_update_j42 rT (r1) σ_7) else (f_Bld_update_j42 rT (r1) σ)) else (some (some (.int (0 : Int32)), σ))) else (some (some (.int (0 : Int32)), σ))
theorem s_Bld_update_F {E : rb_EV} {d : Nat} {dT : Nat} {rT : Option Nat → Option Nat → Int32 → rb_St → Option rb_Rs} (hT : ∀ (r0 : Option Nat) (r1 : Option Nat) (x2 : Int32) (σ : rb_St), rb_Does E k_Bld_update dT [va_rf r0, va_rf r1, .int x2] σ (rT r0 r1 x2 σ)) (hdd : dT + 3 ≤ d ∧ 44 ≤ d) (r0 : Option Nat) (r1 : Option Nat) (x2 : Int32) (σ : rb_St) : rb_Does E k_Bld_update d [va_rf r0, va_rf r1, .int x2] σ (f_Bld_update_F rT r0 r1 x2 σ) := by
  refine rb_start (lv := [some (va_rf r0), some (va_rf r1), some (.int x2)]) (by decide) (by simp [lg_sl, rb_as, lv_args, rb_cat_r, rb_cat_i, rb_cat_l, rb_nL, k_Bld_update]) (fun res => ?_)
  unfold f_Bld_update_F
  refine rb_TC.mono (rk_aload_n 1 d_Bld_update_0 rfl rfl) ?_
  refine rt_gI r1 fw_Bld_66 d_Bld_update_1 (fun x_1 => ?_)
  refine rt_if_ne 13 d_Bld_update_4 (by decide) (fun _ => ?_) (fun _ => ?_)
  · refine rb_TC.mono (rk_iload_n 2 d_Bld_update_7 rfl rfl) ?_
    refine rb_TC.mono (rk_bipush (32 : Int32) d_Bld_update_8 (by decide)) ?_
    refine rt_icmp_le 15 d_Bld_update_10 (by decide) (fun _ => ?_) (fun _ => ?_)
    · refine rb_TC.mono (rk_aload_n 1 d_Bld_update_15 rfl rfl) ?_
      refine rt_gI r1 fw_Bld_69 d_Bld_update_16 (fun x_2 => ?_)
      refine rt_if_ne 42 d_Bld_update_19 (by decide) (fun _ => ?_) (fun _ => ?_)
      · refine rb_TC.mono (rk_aload_n 1 d_Bld_update_22 rfl rfl) ?_
        refine rb_TC.mono (rk_iconst (1 : Int32) d_Bld_update_23 (by decide)) ?_
        refine rt_pZ r1 fp_Bld_update_66 d_Bld_update_24 (fun σ_3 => ?_)
        refine rb_TC.mono (rk_aload_n 1 d_Bld_update_27 rfl rfl) ?_
        refine rb_TC.mono (rk_aload_n 0 d_Bld_update_28 rfl rfl) ?_
        refine rb_TC.mono (rk_aload_n 1 d_Bld_update_29 rfl rfl) ?_
        refine rb_TC.mono (rk_iload_n 2 d_Bld_update_30 rfl rfl) ?_
        refine rt_vI (As := [va_rf r1, .int x2]) (st := [va_rf r1]) (r0) vw_Bld_72 (s_Bld_fateOf hT (d := d - 1) (by omega) (r0) (r1) (x2) σ_3) (by omega) rfl (by simp [rb_cat_r, rb_cat_i, rb_cat_l]) d_Bld_update_31 (fun x_4 σ_5 => ?_)
        refine rt_pI r1 fp_Bld_update_69 d_Bld_update_34 (fun σ_6 => ?_)
        refine rb_TC.mono (rk_aload_n 1 d_Bld_update_37 rfl rfl) ?_
        refine rb_TC.mono (rk_iconst (0 : Int32) d_Bld_update_38 (by decide)) ?_
        refine rt_pZ r1 fp_Bld_update_66 d_Bld_update_39 (fun σ_7 => ?_)
        refine rb_TC.mono (rk_less (lv2 := [none, some (va_rf r1), none]) (rb_le_ok (rb_leN (rb_leS (rb_leN rb_le0))))) ?_
        exact t_Bld_update_j42 hT hdd  (r1) σ_7
      · refine rb_TC.mono (rk_less (lv2 := [none, some (va_rf r1), none]) (rb_le_ok (rb_leN (rb_leS (rb_leN rb_le0))))) ?_
        exact t_Bld_update_j42 hT hdd  (r1) σ
    · refine rb_TC.mono (rk_iconst (0 : Int32) d_Bld_update_13 (by decide)) ?_
      exact rt_iret (ty := .boolean) rfl (by decide) (fun h => h) d_Bld_update_14
  · refine rb_TC.mono (rk_iconst (0 : Int32) d_Bld_update_13 (by decide)) ?_
    exact rt_iret (ty := .boolean) rfl (by decide) (fun h => h) d_Bld_update_14
noncomputable def f_Bld_update_N : Nat → Option Nat → Option Nat → Int32 → rb_St → Option rb_Rs
  | 0 => fun _ _ _ _ => none
  | n + 1 => f_Bld_update_F (f_Bld_update_N n)
theorem s_Bld_update_N {E : rb_EV} : ∀ (n d : Nat), 44 + 3 * n ≤ d → ∀ (r0 : Option Nat) (r1 : Option Nat) (x2 : Int32) (σ : rb_St), rb_Does E k_Bld_update d [va_rf r0, va_rf r1, .int x2] σ (f_Bld_update_N n r0 r1 x2 σ)
  | 0, d, _, r0, r1, x2, σ => fun res h => by cases h
  | n + 1, d, h, r0, r1, x2, σ => s_Bld_update_F (dT := 44 + 3 * n) (fun r0 r1 x2 σ => s_Bld_update_N n _ (Nat.le_refl _) r0 r1 x2 σ) ⟨by omega, by omega⟩ r0 r1 x2 σ
noncomputable def f_Bld_update (r0 : Option Nat) (r1 : Option Nat) (x2 : Int32) (σ : rb_St) : Option rb_Rs := f_Bld_update_N 40 r0 r1 x2 σ
theorem s_Bld_update {E : rb_EV} {d : Nat} (hdd : 164 ≤ d) (r0 : Option Nat) (r1 : Option Nat) (x2 : Int32) (σ : rb_St) : rb_Does E k_Bld_update d [va_rf r0, va_rf r1, .int x2] σ (f_Bld_update r0 r1 x2 σ) := s_Bld_update_N 40 d hdd r0 r1 x2 σ
