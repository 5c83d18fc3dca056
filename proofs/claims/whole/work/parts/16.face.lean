-- ===== RuleBuilder.<init>()V
def k_RB_init : rb_MK := (⟨"RuleBuilder", "<init>", "()V"⟩, prog_1_method_1_code, 1, none)
theorem mw_RB_init : rb_Mw k_RB_init 0 := ⟨rb_inG 109 (by decide +kernel) rfl, rb_inG 85 (by decide +kernel) rfl, ⟨by decide, by decide, by decide +kernel⟩, by decide⟩
theorem fw_RB_14 : rb_Fw "RuleBuilder" 14 1 0 := ⟨_, rfl, by decide, by decide, by decide, rfl, rb_inG 362 (by decide +kernel) rfl⟩
theorem fp_RB_init_14 : rb_Fp k_RB_init 14 1 0 (.object "RuleBuilder$Text") ∧ ((∃ n, (.object "RuleBuilder$Text" : FieldType) = .object n) ∨ ∃ t, (.object "RuleBuilder$Text" : FieldType) = .array t) := ⟨⟨fw_RB_14, rfl, fun q h => by cases h; exact Or.inr ⟨rfl, rfl, rfl⟩⟩, Or.inl ⟨_, rfl⟩⟩
theorem fw_RB_21 : rb_Fw "RuleBuilder" 21 1 1 := ⟨_, rfl, by decide, by decide, by decide, rfl, rb_inG 363 (by decide +kernel) rfl⟩
theorem fp_RB_init_21 : rb_Fp k_RB_init 21 1 1 (.object "RuleBuilder$Store") ∧ ((∃ n, (.object "RuleBuilder$Store" : FieldType) = .object n) ∨ ∃ t, (.object "RuleBuilder$Store" : FieldType) = .array t) := ⟨⟨fw_RB_21, rfl, fun q h => by cases h; exact Or.inr ⟨rfl, rfl, rfl⟩⟩, Or.inl ⟨_, rfl⟩⟩
theorem fw_RB_28 : rb_Fw "RuleBuilder" 28 1 2 := ⟨_, rfl, by decide, by decide, by decide, rfl, rb_inG 364 (by decide +kernel) rfl⟩
theorem fp_RB_init_28 : rb_Fp k_RB_init 28 1 2 (.object "RuleBuilder$Rules") ∧ ((∃ n, (.object "RuleBuilder$Rules" : FieldType) = .object n) ∨ ∃ t, (.object "RuleBuilder$Rules" : FieldType) = .array t) := ⟨⟨fw_RB_28, rfl, fun q h => by cases h; exact Or.inr ⟨rfl, rfl, rfl⟩⟩, Or.inl ⟨_, rfl⟩⟩
theorem fw_RB_35 : rb_Fw "RuleBuilder" 35 1 3 := ⟨_, rfl, by decide, by decide, by decide, rfl, rb_inG 365 (by decide +kernel) rfl⟩
theorem fp_RB_init_35 : rb_Fp k_RB_init 35 1 3 (.object "RuleBuilder$Expander") ∧ ((∃ n, (.object "RuleBuilder$Expander" : FieldType) = .object n) ∨ ∃ t, (.object "RuleBuilder$Expander" : FieldType) = .array t) := ⟨⟨fw_RB_35, rfl, fun q h => by cases h; exact Or.inr ⟨rfl, rfl, rfl⟩⟩, Or.inl ⟨_, rfl⟩⟩
theorem fw_RB_47 : rb_Fw "RuleBuilder" 47 1 4 := ⟨_, rfl, by decide, by decide, by decide, rfl, rb_inG 366 (by decide +kernel) rfl⟩
theorem fp_RB_init_47 : rb_Fp k_RB_init 47 1 4 (.object "RuleBuilder$Words") ∧ ((∃ n, (.object "RuleBuilder$Words" : FieldType) = .object n) ∨ ∃ t, (.object "RuleBuilder$Words" : FieldType) = .array t) := ⟨⟨fw_RB_47, rfl, fun q h => by cases h; exact Or.inr ⟨rfl, rfl, rfl⟩⟩, Or.inl ⟨_, rfl⟩⟩
theorem fw_RB_56 : rb_Fw "RuleBuilder" 56 1 5 := ⟨_, rfl, by decide, by decide, by decide, rfl, rb_inG 367 (by decide +kernel) rfl⟩
theorem fp_RB_init_56 : rb_Fp k_RB_init 56 1 5 (.object "RuleBuilder$Shell") ∧ ((∃ n, (.object "RuleBuilder$Shell" : FieldType) = .object n) ∨ ∃ t, (.object "RuleBuilder$Shell" : FieldType) = .array t) := ⟨⟨fw_RB_56, rfl, fun q h => by cases h; exact Or.inr ⟨rfl, rfl, rfl⟩⟩, Or.inl ⟨_, rfl⟩⟩
theorem fw_RB_65 : rb_Fw "RuleBuilder" 65 1 6 := ⟨_, rfl, by decide, by decide, by decide, rfl, rb_inG 368 (by decide +kernel) rfl⟩
theorem fp_RB_init_65 : rb_Fp k_RB_init 65 1 6 (.object "RuleBuilder$Reader") ∧ ((∃ n, (.object "RuleBuilder$Reader" : FieldType) = .object n) ∨ ∃ t, (.object "RuleBuilder$Reader" : FieldType) = .array t) := ⟨⟨fw_RB_65, rfl, fun q h => by cases h; exact Or.inr ⟨rfl, rfl, rfl⟩⟩, Or.inl ⟨_, rfl⟩⟩
theorem fw_RB_74 : rb_Fw "RuleBuilder" 74 1 7 := ⟨_, rfl, by decide, by decide, by decide, rfl, rb_inG 369 (by decide +kernel) rfl⟩
theorem fp_RB_init_74 : rb_Fp k_RB_init 74 1 7 (.object "RuleBuilder$Builder") ∧ ((∃ n, (.object "RuleBuilder$Builder" : FieldType) = .object n) ∨ ∃ t, (.object "RuleBuilder$Builder" : FieldType) = .array t) := ⟨⟨fw_RB_74, rfl, fun q h => by cases h; exact Or.inr ⟨rfl, rfl, rfl⟩⟩, Or.inl ⟨_, rfl⟩⟩
theorem fw_RB_41 : rb_Fw "RuleBuilder" 41 5 0 := ⟨_, rfl, by decide, by decide, by decide, rfl, rb_inG 227 (by decide +kernel) rfl⟩
theorem iw_RB_11 : rb_Iw "RuleBuilder" 11 k_Text_init 1 := ⟨mw_Text_init, rfl, rfl, rb_inG 116 (by decide +kernel) rfl, Or.inl (rb_inG 115 (by decide +kernel) rfl)⟩
theorem iw_RB_20 : rb_Iw "RuleBuilder" 20 k_Store_init 0 := ⟨mw_Store_init, rfl, rfl, rb_inG 130 (by decide +kernel) rfl, Or.inr ⟨"RuleBuilder", by decide⟩⟩
theorem iw_RB_27 : rb_Iw "RuleBuilder" 27 k_Rules_init 0 := ⟨mw_Rules_init, rfl, rfl, rb_inG 148 (by decide +kernel) rfl, Or.inr ⟨"RuleBuilder", by decide⟩⟩
theorem iw_RB_34 : rb_Iw "RuleBuilder" 34 k_Exp_init 0 := ⟨mw_Exp_init, rfl, rfl, rb_inG 220 (by decide +kernel) rfl, Or.inr ⟨"RuleBuilder", by decide⟩⟩
theorem iw_RB_44 : rb_Iw "RuleBuilder" 44 k_Words_init 1 := ⟨mw_Words_init, rfl, rfl, rb_inG 255 (by decide +kernel) rfl, Or.inl (rb_inG 254 (by decide +kernel) rfl)⟩
theorem iw_RB_53 : rb_Iw "RuleBuilder" 53 k_Shell_init 2 := ⟨mw_Shell_init, rfl, rfl, rb_inG 278 (by decide +kernel) rfl, Or.inl (rb_inG 277 (by decide +kernel) rfl)⟩
theorem iw_RB_62 : rb_Iw "RuleBuilder" 62 k_Reader_init 4 := ⟨mw_Reader_init, rfl, rfl, rb_inG 298 (by decide +kernel) rfl, Or.inl (rb_inG 297 (by decide +kernel) rfl)⟩
theorem iw_RB_71 : rb_Iw "RuleBuilder" 71 k_Bld_init 4 := ⟨mw_Bld_init, rfl, rfl, rb_inG 331 (by decide +kernel) rfl, Or.inl (rb_inG 330 (by decide +kernel) rfl)⟩
theorem w_ml_RB_1 : Cond.methodLink "RuleBuilder" 1 Lib.objectInit ∈ rb_G := rb_inG 110 (by decide +kernel) rfl
theorem ow_RB_18 : rb_Ow "RuleBuilder" 18 3 := ⟨_, rfl, by decide, by decide, rb_inG 127 (by decide +kernel) rfl, rb_ins3, rb_ini3, rfl, by decide⟩
theorem ow_RB_25 : rb_Ow "RuleBuilder" 25 4 := ⟨_, rfl, by decide, by decide, rb_inG 145 (by decide +kernel) rfl, rb_ins4, rb_ini4, rfl, by decide⟩
theorem ow_RB_32 : rb_Ow "RuleBuilder" 32 5 := ⟨_, rfl, by decide, by decide, rb_inG 217 (by decide +kernel) rfl, rb_ins5, rb_ini5, rfl, by decide⟩
theorem ow_RB_39 : rb_Ow "RuleBuilder" 39 6 := ⟨_, rfl, by decide, by decide, rb_inG 252 (by decide +kernel) rfl, rb_ins6, rb_ini6, rfl, by decide⟩
theorem ow_RB_51 : rb_Ow "RuleBuilder" 51 7 := ⟨_, rfl, by decide, by decide, rb_inG 275 (by decide +kernel) rfl, rb_ins7, rb_ini7, rfl, by decide⟩
theorem ow_RB_60 : rb_Ow "RuleBuilder" 60 8 := ⟨_, rfl, by decide, by decide, rb_inG 295 (by decide +kernel) rfl, rb_ins8, rb_ini8, rfl, by decide⟩
theorem ow_RB_69 : rb_Ow "RuleBuilder" 69 9 := ⟨_, rfl, by decide, by decide, rb_inG 328 (by decide +kernel) rfl, rb_ins9, rb_ini9, rfl, by decide⟩
theorem ow_RB_7 : rb_Ow "RuleBuilder" 7 2 := ⟨_, rfl, by decide, by decide, rb_inG 113 (by decide +kernel) rfl, rb_ins2, rb_ini2, rfl, by decide⟩
theorem d_RB_init_0 : decode prog_1_method_1_code 0 = .ok (.aload_n 0, 1) := by decide +kernel
theorem d_RB_init_1 : decode prog_1_method_1_code 1 = .ok (.invokespecial 1, 3) := by decide +kernel
theorem d_RB_init_4 : decode prog_1_method_1_code 4 = .ok (.aload_n 0, 1) := by decide +kernel
theorem d_RB_init_5 : decode prog_1_method_1_code 5 = .ok (.new 7, 3) := by decide +kernel
theorem d_RB_init_8 : decode prog_1_method_1_code 8 = .ok (.dup, 1) := by decide +kernel
theorem d_RB_init_9 : decode prog_1_method_1_code 9 = .ok (.sipush 320, 3) := by decide +kernel
theorem d_RB_init_12 : decode prog_1_method_1_code 12 = .ok (.invokespecial 11, 3) := by decide +kernel
theorem d_RB_init_15 : decode prog_1_method_1_code 15 = .ok (.putfield 14, 3) := by decide +kernel
theorem d_RB_init_18 : decode prog_1_method_1_code 18 = .ok (.aload_n 0, 1) := by decide +kernel
theorem d_RB_init_19 : decode prog_1_method_1_code 19 = .ok (.new 18, 3) := by decide +kernel
theorem d_RB_init_22 : decode prog_1_method_1_code 22 = .ok (.dup, 1) := by decide +kernel
theorem d_RB_init_23 : decode prog_1_method_1_code 23 = .ok (.invokespecial 20, 3) := by decide +kernel
theorem d_RB_init_26 : decode prog_1_method_1_code 26 = .ok (.putfield 21, 3) := by decide +kernel
theorem d_RB_init_29 : decode prog_1_method_1_code 29 = .ok (.aload_n 0, 1) := by decide +kernel
theorem d_RB_init_30 : decode prog_1_method_1_code 30 = .ok (.new 25, 3) := by decide +kernel
theorem d_RB_init_33 : decode prog_1_method_1_code 33 = .ok (.dup, 1) := by decide +kernel
theorem d_RB_init_34 : decode prog_1_method_1_code 34 = .ok (.invokespecial 27, 3) := by decide +kernel
theorem d_RB_init_37 : decode prog_1_method_1_code 37 = .ok (.putfield 28, 3) := by decide +kernel
theorem d_RB_init_40 : decode prog_1_method_1_code 40 = .ok (.aload_n 0, 1) := by decide +kernel
theorem d_RB_init_41 : decode prog_1_method_1_code 41 = .ok (.new 32, 3) := by decide +kernel
theorem d_RB_init_44 : decode prog_1_method_1_code 44 = .ok (.dup, 1) := by decide +kernel
theorem d_RB_init_45 : decode prog_1_method_1_code 45 = .ok (.invokespecial 34, 3) := by decide +kernel
theorem d_RB_init_48 : decode prog_1_method_1_code 48 = .ok (.putfield 35, 3) := by decide +kernel
theorem d_RB_init_51 : decode prog_1_method_1_code 51 = .ok (.aload_n 0, 1) := by decide +kernel
theorem d_RB_init_52 : decode prog_1_method_1_code 52 = .ok (.new 39, 3) := by decide +kernel
theorem d_RB_init_55 : decode prog_1_method_1_code 55 = .ok (.dup, 1) := by decide +kernel
theorem d_RB_init_56 : decode prog_1_method_1_code 56 = .ok (.aload_n 0, 1) := by decide +kernel
theorem d_RB_init_57 : decode prog_1_method_1_code 57 = .ok (.getfield 35, 3) := by decide +kernel
theorem d_RB_init_60 : decode prog_1_method_1_code 60 = .ok (.getfield 41, 3) := by decide +kernel
theorem d_RB_init_63 : decode prog_1_method_1_code 63 = .ok (.invokespecial 44, 3) := by decide +kernel
theorem d_RB_init_66 : decode prog_1_method_1_code 66 = .ok (.putfield 47, 3) := by decide +kernel
theorem d_RB_init_69 : decode prog_1_method_1_code 69 = .ok (.aload_n 0, 1) := by decide +kernel
theorem d_RB_init_70 : decode prog_1_method_1_code 70 = .ok (.new 51, 3) := by decide +kernel
theorem d_RB_init_73 : decode prog_1_method_1_code 73 = .ok (.dup, 1) := by decide +kernel
theorem d_RB_init_74 : decode prog_1_method_1_code 74 = .ok (.aload_n 0, 1) := by decide +kernel
theorem d_RB_init_75 : decode prog_1_method_1_code 75 = .ok (.getfield 21, 3) := by decide +kernel
theorem d_RB_init_78 : decode prog_1_method_1_code 78 = .ok (.aload_n 0, 1) := by decide +kernel
theorem d_RB_init_79 : decode prog_1_method_1_code 79 = .ok (.getfield 47, 3) := by decide +kernel
theorem d_RB_init_82 : decode prog_1_method_1_code 82 = .ok (.invokespecial 53, 3) := by decide +kernel
theorem d_RB_init_85 : decode prog_1_method_1_code 85 = .ok (.putfield 56, 3) := by decide +kernel
theorem d_RB_init_88 : decode prog_1_method_1_code 88 = .ok (.aload_n 0, 1) := by decide +kernel
theorem d_RB_init_89 : decode prog_1_method_1_code 89 = .ok (.new 60, 3) := by decide +kernel
theorem d_RB_init_92 : decode prog_1_method_1_code 92 = .ok (.dup, 1) := by decide +kernel
theorem d_RB_init_93 : decode prog_1_method_1_code 93 = .ok (.aload_n 0, 1) := by decide +kernel
theorem d_RB_init_94 : decode prog_1_method_1_code 94 = .ok (.getfield 21, 3) := by decide +kernel
theorem d_RB_init_97 : decode prog_1_method_1_code 97 = .ok (.aload_n 0, 1) := by decide +kernel
theorem d_RB_init_98 : decode prog_1_method_1_code 98 = .ok (.getfield 28, 3) := by decide +kernel
theorem d_RB_init_101 : decode prog_1_method_1_code 101 = .ok (.aload_n 0, 1) := by decide +kernel
theorem d_RB_init_102 : decode prog_1_method_1_code 102 = .ok (.getfield 35, 3) := by decide +kernel
theorem d_RB_init_105 : decode prog_1_method_1_code 105 = .ok (.aload_n 0, 1) := by decide +kernel
theorem d_RB_init_106 : decode prog_1_method_1_code 106 = .ok (.getfield 47, 3) := by decide +kernel
theorem d_RB_init_109 : decode prog_1_method_1_code 109 = .ok (.invokespecial 62, 3) := by decide +kernel
theorem d_RB_init_112 : decode prog_1_method_1_code 112 = .ok (.putfield 65, 3) := by decide +kernel
theorem d_RB_init_115 : decode prog_1_method_1_code 115 = .ok (.aload_n 0, 1) := by decide +kernel
theorem d_RB_init_116 : decode prog_1_method_1_code 116 = .ok (.new 69, 3) := by decide +kernel
theorem d_RB_init_119 : decode prog_1_method_1_code 119 = .ok (.dup, 1) := by decide +kernel
theorem d_RB_init_120 : decode prog_1_method_1_code 120 = .ok (.aload_n 0, 1) := by decide +kernel
theorem d_RB_init_121 : decode prog_1_method_1_code 121 = .ok (.getfield 21, 3) := by decide +kernel
theorem d_RB_init_124 : decode prog_1_method_1_code 124 = .ok (.aload_n 0, 1) := by decide +kernel
theorem d_RB_init_125 : decode prog_1_method_1_code 125 = .ok (.getfield 28, 3) := by decide +kernel
theorem d_RB_init_128 : decode prog_1_method_1_code 128 = .ok (.aload_n 0, 1) := by decide +kernel
theorem d_RB_init_129 : decode prog_1_method_1_code 129 = .ok (.getfield 35, 3) := by decide +kernel
theorem d_RB_init_132 : decode prog_1_method_1_code 132 = .ok (.aload_n 0, 1) := by decide +kernel
theorem d_RB_init_133 : decode prog_1_method_1_code 133 = .ok (.getfield 56, 3) := by decide +kernel
theorem d_RB_init_136 : decode prog_1_method_1_code 136 = .ok (.invokespecial 71, 3) := by decide +kernel
theorem d_RB_init_139 : decode prog_1_method_1_code 139 = .ok (.putfield 74, 3) := by decide +kernel
theorem d_RB_init_142 : decode prog_1_method_1_code 142 = .ok (.return_, 1) := by decide +kernel
noncomputable def f_RB_init (a0 : Nat) (σ : rb_St) : Option rb_Rs :=
  rb_cV (f_Text_init ((rb_n σ)) ((320 : Int32)) (rb_nO σ 2)) fun σ_1 => (rb_pR σ_1 (some a0) 1 0 (some (rb_n σ))).bind fun σ_2 => rb_cV (f_Store_init ((rb_n σ_2))  (rb_nO σ_2 3)) fun σ_3 => (rb_pR σ_3 (some a0) 1 1 (some (rb_n σ_2))).bind fun σ_4 => rb_cV (f_Rules_init ((rb_n σ_4))  (rb_nO σ_4 4)) fun σ_5 => (rb_pR σ_5 (some a0) 1 2 (some (rb_n σ_4))).bind fun σ_6 => rb_cV (f_Exp_init ((rb_n σ_6))  (rb_nO σ_6 5)) fun σ_7 => (rb_pR σ_7 (some a0) 1 3 (some (rb_n σ_6))).bind fun σ_8 => (rb_gR (rb_nO σ_8 6) (some a0) 1 3).bind fun r_9 => (rb_gR (rb_nO σ_8 6) r_9 5 0).bind fun r_10 => rb_cV (f_Words_init ((rb_n σ_8)) (r_10) (rb_nO σ_8 6)) fun σ_11 => (rb_pR σ_11 (some a0) 1 4 (some (rb_n σ_8))).bind fun σ_12 => (rb_gR (rb_nO σ_12 7) (some a0) 1 1).bind fun r_13 => (rb_gR (rb_nO σ_12 7) (some a0) 1 4).bind fun r_14 => rb_cV (f_Shell_init ((rb_n σ_12)) (r_13) (r_14) (rb_nO σ_12 7)) fun σ_15 => (rb_pR σ_15 (some a0) 1 5 (some (rb_n σ_12))).bind fun σ_16 => (rb_gR (rb_nO σ_16 8) (some a0) 1 1).bind fun r_17 => (rb_gR (rb_nO σ_16 8) (some a0) 1 2).bind fun r_18 => (rb_gR (rb_nO σ_16 8) (some a0) 1 3).bind fun r_19 => (rb_gR (rb_nO σ_16 8) (some a0) 1 4).bind fun r_20 => rb_cV (f_Reader_init ((rb_n σ_16)) (r_17) (r_18) (r_19) (r_20) (rb_nO σ_16 8)) fun σ_21 => (rb_pR σ_21 (some a0) 1 6 (some (rb_n σ_16))).bind fun σ_22 => (rb_gR (rb_nO σ_22 9) (some a0) 1 1).bind fun r_23 => (rb_gR (rb_nO σ_22 9) (some a0) 1 2).bind fun r_24 => (rb_gR (rb_nO σ_22 9) (some a0) 1 3).bind fun r_25 => (rb_gR (rb_nO σ_22 9) (some a0) 1 5).bind fun r_26 => rb_cV (f_Bld_init ((rb_n σ_22)) (r_23) (r_24) (r_25) (r_26) (rb_nO σ_22 9)) fun σ_27 => (rb_pR σ_27 (some a0) 1 7 (some (rb_n σ_22))).bind fun σ_28 => some (none, σ_28)
theorem s_RB_init {E : rb_EV} {d : Nat} (hdd : 3 ≤ d) (a0 : Nat) (σ : rb_St) : rb_Does E k_RB_init d [va_rf (some a0)] σ (f_RB_init a0 σ) := by
  refine rb_start (lv := [some (va_rf (some a0))]) (by decide) (by simp [lg_sl, rb_as, lv_args, rb_cat_r, rb_cat_i, rb_cat_l, rb_nL, k_RB_init]) (fun res => ?_)
  unfold f_RB_init
  refine rb_TC.mono (rk_aload_n 0 d_RB_init_0 rfl rfl) ?_
  refine rb_TC.mono (rk_objInit w_ml_RB_1 w_oi w_oc (Nat.le_trans (by decide) hdd) (by simp [rb_cat_r, rb_cat_i, rb_cat_l]) d_RB_init_1 rfl) ?_
  refine rb_TC.mono (rk_aload_n 0 d_RB_init_4 rfl rfl) ?_
  refine rb_TC.mono (rk_new ow_RB_7 d_RB_init_5) ?_
  refine rb_TC.mono (rk_dupr d_RB_init_8) ?_
  refine rb_TC.mono (rk_sipush (320 : Int32) d_RB_init_9 (by decide)) ?_
  refine rt_i (As := [.int (320 : Int32)]) (st := [va_rf (some (rb_n σ)), va_rf (some a0)]) iw_RB_11 (s_Text_init (Nat.le_refl _) ((rb_n σ)) ((320 : Int32)) (rb_nO σ 2)) (Nat.le_trans (by decide) hdd) rfl (by simp [rb_cat_r, rb_cat_i, rb_cat_l]) d_RB_init_12 (fun σ_1 => ?_)
  refine rt_pR (some a0) fp_RB_init_14 d_RB_init_15 (fun σ_2 => ?_)
  refine rb_TC.mono (rk_aload_n 0 d_RB_init_18 rfl rfl) ?_
  refine rb_TC.mono (rk_new ow_RB_18 d_RB_init_19) ?_
  refine rb_TC.mono (rk_dupr d_RB_init_22) ?_
  refine rt_i (As := []) (st := [va_rf (some (rb_n σ_2)), va_rf (some a0)]) iw_RB_20 (s_Store_init (Nat.le_refl _) ((rb_n σ_2))  (rb_nO σ_2 3)) (Nat.le_trans (by decide) hdd) rfl (by simp [rb_cat_r, rb_cat_i, rb_cat_l]) d_RB_init_23 (fun σ_3 => ?_)
  refine rt_pR (some a0) fp_RB_init_21 d_RB_init_26 (fun σ_4 => ?_)
  refine rb_TC.mono (rk_aload_n 0 d_RB_init_29 rfl rfl) ?_
  refine rb_TC.mono (rk_new ow_RB_25 d_RB_init_30) ?_
  refine rb_TC.mono (rk_dupr d_RB_init_33) ?_
  refine rt_i (As := []) (st := [va_rf (some (rb_n σ_4)), va_rf (some a0)]) iw_RB_27 (s_Rules_init (Nat.le_refl _) ((rb_n σ_4))  (rb_nO σ_4 4)) (Nat.le_trans (by decide) hdd) rfl (by simp [rb_cat_r, rb_cat_i, rb_cat_l]) d_RB_init_34 (fun σ_5 => ?_)
  refine rt_pR (some a0) fp_RB_init_28 d_RB_init_37 (fun σ_6 => ?_)
  refine rb_TC.mono (rk_aload_n 0 d_RB_init_40 rfl rfl) ?_
  refine rb_TC.mono (rk_new ow_RB_32 d_RB_init_41) ?_
  refine rb_TC.mono (rk_dupr d_RB_init_44) ?_
  refine rt_i (As := []) (st := [va_rf (some (rb_n σ_6)), va_rf (some a0)]) iw_RB_34 (s_Exp_init (Nat.le_refl _) ((rb_n σ_6))  (rb_nO σ_6 5)) (Nat.le_trans (by decide) hdd) rfl (by simp [rb_cat_r, rb_cat_i, rb_cat_l]) d_RB_init_45 (fun σ_7 => ?_)
  refine rt_pR (some a0) fp_RB_init_35 d_RB_init_48 (fun σ_8 => ?_)
  refine rb_TC.mono (rk_aload_n 0 d_RB_init_51 rfl rfl) ?_
  refine rb_TC.mono (rk_new ow_RB_39 d_RB_init_52) ?_
  refine rb_TC.mono (rk_dupr d_RB_init_55) ?_
  refine rb_TC.mono (rk_aload_n 0 d_RB_init_56 rfl rfl) ?_
  refine rt_gR (some a0) fw_RB_35 d_RB_init_57 (fun r_9 => ?_)
  refine rt_gR r_9 fw_RB_41 d_RB_init_60 (fun r_10 => ?_)
  refine rt_i (As := [va_rf r_10]) (st := [va_rf (some (rb_n σ_8)), va_rf (some a0)]) iw_RB_44 (s_Words_init (Nat.le_refl _) ((rb_n σ_8)) (r_10) (rb_nO σ_8 6)) (Nat.le_trans (by decide) hdd) rfl (by simp [rb_cat_r, rb_cat_i, rb_cat_l]) d_RB_init_63 (fun σ_11 => ?_)
  refine rt_pR (some a0) fp_RB_init_47 d_RB_init_66 (fun σ_12 => ?_)
  refine rb_TC.mono (rk_aload_n 0 d_RB_init_69 rfl rfl) ?_
  refine rb_TC.mono (rk_new ow_RB_51 d_RB_init_70) ?_
  refine rb_TC.mono (rk_dupr d_RB_init_73) ?_
  refine rb_TC.mono (rk_aload_n 0 d_RB_init_74 rfl rfl) ?_
  refine rt_gR (some a0) fw_RB_21 d_RB_init_75 (fun r_13 => ?_)
  refine rb_TC.mono (rk_aload_n 0 d_RB_init_78 rfl rfl) ?_
  refine rt_gR (some a0) fw_RB_47 d_RB_init_79 (fun r_14 => ?_)
  refine rt_i (As := [va_rf r_13, va_rf r_14]) (st := [va_rf (some (rb_n σ_12)), va_rf (some a0)]) iw_RB_53 (s_Shell_init (Nat.le_refl _) ((rb_n σ_12)) (r_13) (r_14) (rb_nO σ_12 7)) (Nat.le_trans (by decide) hdd) rfl (by simp [rb_cat_r, rb_cat_i, rb_cat_l]) d_RB_init_82 (fun σ_15 => ?_)
  refine rt_pR (some a0) fp_RB_init_56 d_RB_init_85 (fun σ_16 => ?_)
  refine rb_TC.mono (rk_aload_n 0 d_RB_init_88 rfl rfl) ?_
  refine rb_TC.mono (rk_new ow_RB_60 d_RB_init_89) ?_
  refine rb_TC.mono (rk_dupr d_RB_init_92) ?_
  refine rb_TC.mono (rk_aload_n 0 d_RB_init_93 rfl rfl) ?_
  refine rt_gR (some a0) fw_RB_21 d_RB_init_94 (fun r_17 => ?_)
  refine rb_TC.mono (rk_aload_n 0 d_RB_init_97 rfl rfl) ?_
  refine rt_gR (some a0) fw_RB_28 d_RB_init_98 (fun r_18 => ?_)
  refine rb_TC.mono (rk_aload_n 0 d_RB_init_101 rfl rfl) ?_
  refine rt_gR (some a0) fw_RB_35 d_RB_init_102 (fun r_19 => ?_)
  refine rb_TC.mono (rk_aload_n 0 d_RB_init_105 rfl rfl) ?_
  refine rt_gR (some a0) fw_RB_47 d_RB_init_106 (fun r_20 => ?_)
  refine rt_i (As := [va_rf r_17, va_rf r_18, va_rf r_19, va_rf r_20]) (st := [va_rf (some (rb_n σ_16)), va_rf (some a0)]) iw_RB_62 (s_Reader_init (Nat.le_refl _) ((rb_n σ_16)) (r_17) (r_18) (r_19) (r_20) (rb_nO σ_16 8)) (Nat.le_trans (by decide) hdd) rfl (by simp [rb_cat_r, rb_cat_i, rb_cat_l]) d_RB_init_109 (fun σ_21 => ?_)
  refine rt_pR (some a0) fp_RB_init_65 d_RB_init_112 (fun σ_22 => ?_)
  refine rb_TC.mono (rk_aload_n 0 d_RB_init_115 rfl rfl) ?_
  refine rb_TC.mono (rk_new ow_RB_69 d_RB_init_116) ?_
  refine rb_TC.mono (rk_dupr d_RB_init_119) ?_
  refine rb_TC.mono (rk_aload_n 0 d_RB_init_120 rfl rfl) ?_
  refine rt_gR (some a0) fw_RB_21 d_RB_init_121 (fun r_23 => ?_)
  refine rb_TC.mono (rk_aload_n 0 d_RB_init_124 rfl rfl) ?_
  refine rt_gR (some a0) fw_RB_28 d_RB_init_125 (fun r_24 => ?_)
  refine rb_TC.mono (rk_aload_n 0 d_RB_init_128 rfl rfl) ?_
  refine rt_gR (some a0) fw_RB_35 d_RB_init_129 (fun r_25 => ?_)
  refine rb_TC.mono (rk_aload_n 0 d_RB_init_132 rfl rfl) ?_
  refine rt_gR (some a0) fw_RB_56 d_RB_init_133 (fun r_26 => ?_)
  refine rt_i (As := [va_rf r_23, va_rf r_24, va_rf r_25, va_rf r_26]) (st := [va_rf (some (rb_n σ_22)), va_rf (some a0)]) iw_RB_71 (s_Bld_init (Nat.le_refl _) ((rb_n σ_22)) (r_23) (r_24) (r_25) (r_26) (rb_nO σ_22 9)) (Nat.le_trans (by decide) hdd) rfl (by simp [rb_cat_r, rb_cat_i, rb_cat_l]) d_RB_init_136 (fun σ_27 => ?_)
  refine rt_pR (some a0) fp_RB_init_74 d_RB_init_139 (fun σ_28 => ?_)
  exact rt_vret rfl (fun h => h) d_RB_init_142
-- ===== RuleBuilder.type(C)Z
def k_RB_type : rb_MK := (⟨"RuleBuilder", "type", "(C)Z"⟩, prog_1_method_2_code, 3, some (.boolean))
theorem mw_RB_type : rb_Mw k_RB_type 1 := ⟨rb_inG 390 (by decide +kernel) rfl, rb_inG 85 (by decide +kernel) rfl, ⟨by decide, by decide, by decide +kernel⟩, by decide⟩
theorem vw_RB_78 : rb_Vw "RuleBuilder" 78 k_Text_add 2 1 := ⟨mw_Text_add, rb_inG 391 (by decide +kernel) rfl, rb_inG 392 (by decide +kernel) rfl, rb_inG 393 (by decide +kernel) rfl, by decide, by decide, _, rfl, rfl⟩
theorem d_RB_type_0 : decode prog_1_method_2_code 0 = .ok (.iload_n 1, 1) := by decide +kernel
theorem d_RB_type_1 : decode prog_1_method_2_code 1 = .ok (.bipush 32, 2) := by decide +kernel
theorem d_RB_type_3 : decode prog_1_method_2_code 3 = .ok (.if_icmp .lt 9, 3) := by decide +kernel
theorem d_RB_type_6 : decode prog_1_method_2_code 6 = .ok (.iload_n 1, 1) := by decide +kernel
theorem d_RB_type_7 : decode prog_1_method_2_code 7 = .ok (.bipush 126, 2) := by decide +kernel
theorem d_RB_type_9 : decode prog_1_method_2_code 9 = .ok (.if_icmp .le 15, 3) := by decide +kernel
theorem d_RB_type_12 : decode prog_1_method_2_code 12 = .ok (.iload_n 1, 1) := by decide +kernel
theorem d_RB_type_13 : decode prog_1_method_2_code 13 = .ok (.bipush 9, 2) := by decide +kernel
theorem d_RB_type_15 : decode prog_1_method_2_code 15 = .ok (.if_icmp .eq 9, 3) := by decide +kernel
theorem d_RB_type_18 : decode prog_1_method_2_code 18 = .ok (.iload_n 1, 1) := by decide +kernel
theorem d_RB_type_19 : decode prog_1_method_2_code 19 = .ok (.bipush 10, 2) := by decide +kernel
theorem d_RB_type_21 : decode prog_1_method_2_code 21 = .ok (.if_icmp .ne 7, 3) := by decide +kernel
theorem d_RB_type_24 : decode prog_1_method_2_code 24 = .ok (.iconst 1, 1) := by decide +kernel
theorem d_RB_type_25 : decode prog_1_method_2_code 25 = .ok (.goto 4, 3) := by decide +kernel
theorem d_RB_type_28 : decode prog_1_method_2_code 28 = .ok (.iconst 0, 1) := by decide +kernel
theorem d_RB_type_29 : decode prog_1_method_2_code 29 = .ok (.istore_n 2, 1) := by decide +kernel
theorem d_RB_type_30 : decode prog_1_method_2_code 30 = .ok (.iload_n 2, 1) := by decide +kernel
theorem d_RB_type_31 : decode prog_1_method_2_code 31 = .ok (.ifCond .eq 18, 3) := by decide +kernel
theorem d_RB_type_34 : decode prog_1_method_2_code 34 = .ok (.aload_n 0, 1) := by decide +kernel
theorem d_RB_type_35 : decode prog_1_method_2_code 35 = .ok (.getfield 14, 3) := by decide +kernel
theorem d_RB_type_38 : decode prog_1_method_2_code 38 = .ok (.iload_n 1, 1) := by decide +kernel
theorem d_RB_type_39 : decode prog_1_method_2_code 39 = .ok (.invokevirtual 78, 3) := by decide +kernel
theorem d_RB_type_42 : decode prog_1_method_2_code 42 = .ok (.ifCond .eq 7, 3) := by decide +kernel
theorem d_RB_type_45 : decode prog_1_method_2_code 45 = .ok (.iconst 1, 1) := by decide +kernel
theorem d_RB_type_46 : decode prog_1_method_2_code 46 = .ok (.goto 4, 3) := by decide +kernel
theorem d_RB_type_49 : decode prog_1_method_2_code 49 = .ok (.iconst 0, 1) := by decide +kernel
theorem d_RB_type_50 : decode prog_1_method_2_code 50 = .ok (.ireturn, 1) := by decide +kernel
noncomputable def f_RB_type_j29 (r0 : Option Nat) (x1 : Int32) (sx0 : Int32) (σ : rb_St) : Option rb_Rs :=
  if sx0 = 0 then (some (some (.int (0 : Int32)), σ)) else ((rb_gR σ r0 1 0).bind fun r_1 => (rb_fc σ r_1 2).bind fun _ => rb_cI (f_Text_add (r_1) (x1) σ) fun x_2 σ_3 => if x_2 = 0 then (some (some (.int (0 : Int32)), σ_3)) else (some (some (.int (1 : Int32)), σ_3)))
theorem t_RB_type_j29 {E : rb_EV} {d : Nat} {σ0 : rb_St} {res : rb_Rs} (hdd : 1 ≤ d)  (r0 : Option Nat) (x1 : Int32) (sx0 : Int32) (σ : rb_St) : rb_TC (f_RB_type_j29 r0 x1 sx0 σ) (fun r => r = res) (rb_WK E k_RB_type d σ0 res 29 [some (va_rf r0), some (.int x1), none] [.int sx0] σ) := by
  unfold f_RB_type_j29
  refine rb_TC.mono (rk_istore_n (lv2 := [some (va_rf r0), some (.int x1), some (.int sx0)]) 2 d_RB_type_29 rfl (by decide) (fun _ => rb_one_i) rfl) ?_
  refine rb_TC.mono (rk_iload_n 2 d_RB_type_30 rfl rfl) ?_
  refine rt_if_eq 49 d_RB_type_31 (by decide) (fun _ => ?_) (fun _ => ?_)
  · refine rb_TC.mono (rk_iconst (0 : Int32) d_RB_type_49 (by decide)) ?_
    exact rt_iret (ty := .boolean) rfl (by decide) (fun h => h) d_RB_type_50
  · refine rb_TC.mono (rk_aload_n 0 d_RB_type_34 rfl rfl) ?_
    refine rt_gR r0 fw_RB_14 d_RB_type_35 (fun r_1 => ?_)
    refine rb_TC.mono (rk_iload_n 1 d_RB_type_38 rfl rfl) ?_
    refine rt_vI (As := [.int x1]) (st := []) (r_1) vw_RB_78 (s_Text_add (Nat.le_refl _) (r_1) (x1) σ) (Nat.le_trans (by decide) hdd) rfl (by simp [rb_cat_r, rb_cat_i, rb_cat_l]) d_RB_type_39 (fun x_2 σ_3 => ?_)
    refine rt_if_eq 49 d_RB_type_42 (by decide) (fun _ => ?_) (fun _ => ?_)
    · refine rb_TC.mono (rk_iconst (0 : Int32) d_RB_type_49 (by decide)) ?_
      exact rt_iret (ty := .boolean) rfl (by decide) (fun h => h) d_RB_type_50
    · refine rb_TC.mono (rk_iconst (1 : Int32) d_RB_type_45 (by decide)) ?_
      refine rb_TC.mono (rk_goto 50 d_RB_type_46 (by decide)) ?_
      exact rt_iret (ty := .boolean) rfl (by decide) (fun h => h) d_RB_type_50
noncomputable def f_RB_type_j24 (r0 : Option Nat) (x1 : Int32) (σ : rb_St) : Option rb_Rs :=
  f_RB_type_j29 (r0) (x1) ((1 : Int32)) σ
theorem t_RB_type_j24 {E : rb_EV} {d : Nat} {σ0 : rb_St} {res : rb_Rs} (hdd : 1 ≤ d)  (r0 : Option Nat) (x1 : Int32) (σ : rb_St) : rb_TC (f_RB_type_j24 r0 x1 σ) (fun r => r = res) (rb_WK E k_RB_type d σ0 res 24 [some (va_rf r0), some (.int x1), none] [] σ) := by
  unfold f_RB_type_j24
  refine rb_TC.mono (rk_iconst (1 : Int32) d_RB_type_24 (by decide)) ?_
  refine rb_TC.mono (rk_goto 29 d_RB_type_25 (by decide)) ?_
  exact t_RB_type_j29 hdd  (r0) (x1) ((1 : Int32)) σ
noncomputable def f_RB_type_j12 (r0 : Option Nat) (x1 : Int32) (σ : rb_St) : Option rb_Rs :=
  if x1 = (9 : Int32) then (f_RB_type_j24 (r0) (x1) σ) else (if x1 = (10 : Int32) then (f_RB_type_j24 (r0) (x1) σ) else (f_RB_type_j29 (r0) (x1) ((0 : Int32)) σ))
theorem t_RB_type_j12 {E : rb_EV} {d : Nat} {σ0 : rb_St} {res : rb_Rs} (hdd : 1 ≤ d)  (r0 : Option Nat) (x1 : Int32) (σ : rb_St) : rb_TC (f_RB_type_j12 r0 x1 σ) (fun r => r = res) (rb_WK E k_RB_type d σ0 res 12 [some (va_rf r0), some (.int x1), none] [] σ) := by
  unfold f_RB_type_j12
  refine rb_TC.mono (rk_iload_n 1 d_RB_type_12 rfl rfl) ?_
  refine rb_TC.mono (rk_bipush (9 : Int32) d_RB_type_13 (by decide)) ?_
  refine rt_icmp_eq 24 d_RB_type_15 (by decide) (fun _ => ?_) (fun _ => ?_)
  · exact t_RB_type_j24 hdd  (r0) (x1) σ
  · refine rb_TC.mono (rk_iload_n 1 d_RB_type_18 rfl rfl) ?_
    refine rb_TC.mono (rk_bipush (10 : Int32) d_RB_type_19 (by decide)) ?_
    refine rt_icmp_ne 28 d_RB_type_21 (by decide) (fun _ => ?_) (fun _ => ?_)
    · exact t_RB_type_j24 hdd  (r0) (x1) σ
    · refine rb_TC.mono (rk_iconst (0 : Int32) d_RB_type_28 (by decide)) ?_
      exact t_RB_type_j29 hdd  (r0) (x1) ((0 : Int32)) σ
noncomputable def f_RB_type (r0 : Option Nat) (x1 : Int32) (σ : rb_St) : Option rb_Rs :=
  if x1 < (32 : Int32) then (f_RB_type_j12 (r0) (x1) σ) else (if x1 ≤ (126 : Int32) then (f_RB_type_j24 (r0) (x1) σ) else (f_RB_type_j12 (r0) (x1) σ))
theorem s_RB_type {E : rb_EV} {d : Nat} (hdd : 1 ≤ d) (r0 : Option Nat) (x1 : Int32) (σ : rb_St) : rb_Does E k_RB_type d [va_rf r0, .int x1] σ (f_RB_type r0 x1 σ) := by
  refine rb_start (lv := [some (va_rf r0), some (.int x1), none]) (by decide) (by simp [lg_sl, rb_as, lv_args, rb_cat_r, rb_cat_i, rb_cat_l, rb_nL, k_RB_type]) (fun res => ?_)
  unfold f_RB_type
  refine rb_TC.mono (rk_iload_n 1 d_RB_type_0 rfl rfl) ?_
  refine rb_TC.mono (rk_bipush (32 : Int32) d_RB_type_1 (by decide)) ?_
  refine rt_icmp_lt 12 d_RB_type_3 (by decide) (fun _ => ?_) (fun _ => ?_)
  · exact t_RB_type_j12 hdd  (r0) (x1) σ
  · refine rb_TC.mono (rk_iload_n 1 d_RB_type_6 rfl rfl) ?_
    refine rb_TC.mono (rk_bipush (126 : Int32) d_RB_type_7 (by decide)) ?_
    refine rt_icmp_le 24 d_RB_type_9 (by decide) (fun _ => ?_) (fun _ => ?_)
    · exact t_RB_type_j24 hdd  (r0) (x1) σ
    · exact t_RB_type_j12 hdd  (r0) (x1) σ
-- ===== RuleBuilder.scrap()V
def k_RB_scrap : rb_MK := (⟨"RuleBuilder", "scrap", "()V"⟩, prog_1_method_3_code, 1, none)
theorem mw_RB_scrap : rb_Mw k_RB_scrap 0 := ⟨rb_inG 398 (by decide +kernel) rfl, rb_inG 85 (by decide +kernel) rfl, ⟨by decide, by decide, by decide +kernel⟩, by decide⟩
theorem vw_RB_82 : rb_Vw "RuleBuilder" 82 k_Text_clear 2 0 := ⟨mw_Text_clear, rb_inG 399 (by decide +kernel) rfl, rb_inG 400 (by decide +kernel) rfl, rb_inG 401 (by decide +kernel) rfl, by decide, by decide, _, rfl, rfl⟩
theorem d_RB_scrap_0 : decode prog_1_method_3_code 0 = .ok (.aload_n 0, 1) := by decide +kernel
theorem d_RB_scrap_1 : decode prog_1_method_3_code 1 = .ok (.getfield 14, 3) := by decide +kernel
theorem d_RB_scrap_4 : decode prog_1_method_3_code 4 = .ok (.invokevirtual 82, 3) := by decide +kernel
theorem d_RB_scrap_7 : decode prog_1_method_3_code 7 = .ok (.return_, 1) := by decide +kernel
noncomputable def f_RB_scrap (r0 : Option Nat) (σ : rb_St) : Option rb_Rs :=
  (rb_gR σ r0 1 0).bind fun r_1 => (rb_fc σ r_1 2).bind fun _ => rb_cV (f_Text_clear (r_1)  σ) fun σ_2 => some (none, σ_2)
theorem s_RB_scrap {E : rb_EV} {d : Nat} (hdd : 1 ≤ d) (r0 : Option Nat) (σ : rb_St) : rb_Does E k_RB_scrap d [va_rf r0] σ (f_RB_scrap r0 σ) := by
  refine rb_start (lv := [some (va_rf r0)]) (by decide) (by simp [lg_sl, rb_as, lv_args, rb_cat_r, rb_cat_i, rb_cat_l, rb_nL, k_RB_scrap]) (fun res => ?_)
  unfold f_RB_scrap
  refine rb_TC.mono (rk_aload_n 0 d_RB_scrap_0 rfl rfl) ?_
  refine rt_gR r0 fw_RB_14 d_RB_scrap_1 (fun r_1 => ?_)
  refine rt_vV (As := []) (st := []) (r_1) vw_RB_82 (s_Text_clear (Nat.le_refl _) (r_1)  σ) (Nat.le_trans (by decide) hdd) rfl (by simp [rb_cat_r, rb_cat_i, rb_cat_l]) d_RB_scrap_4 (fun σ_2 => ?_)
  exact rt_vret rfl (fun h => h) d_RB_scrap_7
-- ===== RuleBuilder.set()Z
def k_RB_set : rb_MK := (⟨"RuleBuilder", "set", "()Z"⟩, prog_1_method_4_code, 1, some (.boolean))
theorem mw_RB_set : rb_Mw k_RB_set 0 := ⟨rb_inG 406 (by decide +kernel) rfl, rb_inG 85 (by decide +kernel) rfl, ⟨by decide, by decide, by decide +kernel⟩, by decide⟩
theorem sw_RB_89 : rb_Sw "RuleBuilder" 89 k_Exp_isDefinition 3 := ⟨mw_Exp_isDefinition, rb_inG 411 (by decide +kernel) rfl, rb_inG 412 (by decide +kernel) rfl⟩
theorem vw_RB_101 : rb_Vw "RuleBuilder" 101 k_Text_cut 2 2 := ⟨mw_Text_cut, rb_inG 426 (by decide +kernel) rfl, rb_inG 427 (by decide +kernel) rfl, rb_inG 428 (by decide +kernel) rfl, by decide, by decide, _, rfl, rfl⟩
theorem vw_RB_105 : rb_Vw "RuleBuilder" 105 k_Exp_give 5 2 := ⟨mw_Exp_give, rb_inG 507 (by decide +kernel) rfl, rb_inG 508 (by decide +kernel) rfl, rb_inG 509 (by decide +kernel) rfl, by decide, by decide, _, rfl, rfl⟩
theorem vw_RB_85 : rb_Vw "RuleBuilder" 85 k_Text_length 2 0 := ⟨mw_Text_length, rb_inG 407 (by decide +kernel) rfl, rb_inG 408 (by decide +kernel) rfl, rb_inG 409 (by decide +kernel) rfl, by decide, by decide, _, rfl, rfl⟩
theorem vw_RB_93 : rb_Vw "RuleBuilder" 93 k_Text_indexOf 2 1 := ⟨mw_Text_indexOf, rb_inG 421 (by decide +kernel) rfl, rb_inG 422 (by decide +kernel) rfl, rb_inG 423 (by decide +kernel) rfl, by decide, by decide, _, rfl, rfl⟩
theorem vw_RB_97 : rb_Vw "RuleBuilder" 97 k_Text_at 2 1 := ⟨mw_Text_at, rb_inG 425 (by decide +kernel) rfl, rb_inG 415 (by decide +kernel) rfl, rb_inG 416 (by decide +kernel) rfl, by decide, by decide, _, rfl, rfl⟩
theorem d_RB_set_0 : decode prog_1_method_4_code 0 = .ok (.aload_n 0, 1) := by decide +kernel
theorem d_RB_set_1 : decode prog_1_method_4_code 1 = .ok (.getfield 14, 3) := by decide +kernel
theorem d_RB_set_4 : decode prog_1_method_4_code 4 = .ok (.iconst 0, 1) := by decide +kernel
theorem d_RB_set_5 : decode prog_1_method_4_code 5 = .ok (.aload_n 0, 1) := by decide +kernel
theorem d_RB_set_6 : decode prog_1_method_4_code 6 = .ok (.getfield 14, 3) := by decide +kernel
theorem d_RB_set_9 : decode prog_1_method_4_code 9 = .ok (.invokevirtual 85, 3) := by decide +kernel
theorem d_RB_set_12 : decode prog_1_method_4_code 12 = .ok (.invokestatic 89, 3) := by decide +kernel
theorem d_RB_set_15 : decode prog_1_method_4_code 15 = .ok (.ifCond .ne 5, 3) := by decide +kernel
theorem d_RB_set_18 : decode prog_1_method_4_code 18 = .ok (.iconst 0, 1) := by decide +kernel
theorem d_RB_set_19 : decode prog_1_method_4_code 19 = .ok (.ireturn, 1) := by decide +kernel
theorem d_RB_set_20 : decode prog_1_method_4_code 20 = .ok (.aload_n 0, 1) := by decide +kernel
theorem d_RB_set_21 : decode prog_1_method_4_code 21 = .ok (.getfield 14, 3) := by decide +kernel
theorem d_RB_set_24 : decode prog_1_method_4_code 24 = .ok (.invokevirtual 85, 3) := by decide +kernel
theorem d_RB_set_27 : decode prog_1_method_4_code 27 = .ok (.bipush 18, 2) := by decide +kernel
theorem d_RB_set_29 : decode prog_1_method_4_code 29 = .ok (.if_icmp .gt 22, 3) := by decide +kernel
theorem d_RB_set_32 : decode prog_1_method_4_code 32 = .ok (.aload_n 0, 1) := by decide +kernel
theorem d_RB_set_33 : decode prog_1_method_4_code 33 = .ok (.getfield 14, 3) := by decide +kernel
theorem d_RB_set_36 : decode prog_1_method_4_code 36 = .ok (.bipush 10, 2) := by decide +kernel
theorem d_RB_set_38 : decode prog_1_method_4_code 38 = .ok (.invokevirtual 93, 3) := by decide +kernel
theorem d_RB_set_41 : decode prog_1_method_4_code 41 = .ok (.aload_n 0, 1) := by decide +kernel
theorem d_RB_set_42 : decode prog_1_method_4_code 42 = .ok (.getfield 14, 3) := by decide +kernel
theorem d_RB_set_45 : decode prog_1_method_4_code 45 = .ok (.invokevirtual 85, 3) := by decide +kernel
theorem d_RB_set_48 : decode prog_1_method_4_code 48 = .ok (.if_icmp .ge 5, 3) := by decide +kernel
theorem d_RB_set_51 : decode prog_1_method_4_code 51 = .ok (.iconst 0, 1) := by decide +kernel
theorem d_RB_set_52 : decode prog_1_method_4_code 52 = .ok (.ireturn, 1) := by decide +kernel
theorem d_RB_set_53 : decode prog_1_method_4_code 53 = .ok (.aload_n 0, 1) := by decide +kernel
theorem d_RB_set_54 : decode prog_1_method_4_code 54 = .ok (.getfield 35, 3) := by decide +kernel
theorem d_RB_set_57 : decode prog_1_method_4_code 57 = .ok (.aload_n 0, 1) := by decide +kernel
theorem d_RB_set_58 : decode prog_1_method_4_code 58 = .ok (.getfield 14, 3) := by decide +kernel
theorem d_RB_set_61 : decode prog_1_method_4_code 61 = .ok (.iconst 0, 1) := by decide +kernel
theorem d_RB_set_62 : decode prog_1_method_4_code 62 = .ok (.invokevirtual 97, 3) := by decide +kernel
theorem d_RB_set_65 : decode prog_1_method_4_code 65 = .ok (.aload_n 0, 1) := by decide +kernel
theorem d_RB_set_66 : decode prog_1_method_4_code 66 = .ok (.getfield 14, 3) := by decide +kernel
theorem d_RB_set_69 : decode prog_1_method_4_code 69 = .ok (.iconst 2, 1) := by decide +kernel
theorem d_RB_set_70 : decode prog_1_method_4_code 70 = .ok (.aload_n 0, 1) := by decide +kernel
theorem d_RB_set_71 : decode prog_1_method_4_code 71 = .ok (.getfield 14, 3) := by decide +kernel
theorem d_RB_set_74 : decode prog_1_method_4_code 74 = .ok (.invokevirtual 85, 3) := by decide +kernel
theorem d_RB_set_77 : decode prog_1_method_4_code 77 = .ok (.invokevirtual 101, 3) := by decide +kernel
theorem d_RB_set_80 : decode prog_1_method_4_code 80 = .ok (.invokevirtual 105, 3) := by decide +kernel
theorem d_RB_set_83 : decode prog_1_method_4_code 83 = .ok (.aload_n 0, 1) := by decide +kernel
theorem d_RB_set_84 : decode prog_1_method_4_code 84 = .ok (.getfield 14, 3) := by decide +kernel
theorem d_RB_set_87 : decode prog_1_method_4_code 87 = .ok (.invokevirtual 82, 3) := by decide +kernel
theorem d_RB_set_90 : decode prog_1_method_4_code 90 = .ok (.iconst 1, 1) := by decide +kernel
theorem d_RB_set_91 : decode prog_1_method_4_code 91 = .ok (.ireturn, 1) := by decide +kernel
noncomputable def f_RB_set (r0 : Option Nat) (σ : rb_St) : Option rb_Rs :=
  (rb_gR σ r0 1 0).bind fun r_1 => (rb_gR σ r0 1 0).bind fun r_2 => (rb_fc σ r_2 2).bind fun _ => rb_cI (f_Text_length (r_2)  σ) fun x_3 σ_4 => rb_cI (f_Exp_isDefinition (r_1) ((0 : Int32)) (x_3) σ_4) fun x_5 σ_6 => if x_5 = 0 then (some (some (.int (0 : Int32)), σ_6)) else ((rb_gR σ_6 r0 1 0).bind fun r_7 => (rb_fc σ_6 r_7 2).bind fun _ => rb_cI (f_Text_length (r_7)  σ_6) fun x_8 σ_9 => if (18 : Int32) < x_8 then (some (some (.int (0 : Int32)), σ_9)) else ((rb_gR σ_9 r0 1 0).bind fun r_10 => (rb_fc σ_9 r_10 2).bind fun _ => rb_cI (f_Text_indexOf (r_10) ((10 : Int32)) σ_9) fun x_11 σ_12 => (rb_gR σ_12 r0 1 0).bind fun r_13 => (rb_fc σ_12 r_13 2).bind fun _ => rb_cI (f_Text_length (r_13)  σ_12) fun x_14 σ_15 => if x_14 ≤ x_11 then ((rb_gR σ_15 r0 1 3).bind fun r_16 => (rb_gR σ_15 r0 1 0).bind fun r_17 => (rb_fc σ_15 r_17 2).bind fun _ => rb_cI (f_Text_at (r_17) ((0 : Int32)) σ_15) fun x_18 σ_19 => (rb_gR σ_19 r0 1 0).bind fun r_20 => (rb_gR σ_19 r0 1 0).bind fun r_21 => (rb_fc σ_19 r_21 2).bind fun _ => rb_cI (f_Text_length (r_21)  σ_19) fun x_22 σ_23 => (rb_fc σ_23 r_20 2).bind fun _ => rb_cR (f_Text_cut (r_20) ((2 : Int32)) (x_22) σ_23) fun r_24 σ_25 => (rb_fc σ_25 r_16 5).bind fun _ => rb_cV (f_Exp_give (r_16) (x_18) (r_24) σ_25) fun σ_26 => (rb_gR σ_26 r0 1 0).bind fun r_27 => (rb_fc σ_26 r_27 2).bind fun _ => rb_cV (f_Text_clear (r_27)  σ_26) fun σ_28 => some (some (.int (1 : Int32)), σ_28)) else (some (some (.int (0 : Int32)), σ_15))))
theorem s_RB_set {E : rb_EV} {d : Nat} (hdd : 5 ≤ d) (r0 : Option Nat) (σ : rb_St) : rb_Does E k_RB_set d [va_rf r0] σ (f_RB_set r0 σ) := by
  refine rb_start (lv := [some (va_rf r0)]) (by decide) (by simp [lg_sl, rb_as, lv_args, rb_cat_r, rb_cat_i, rb_cat_l, rb_nL, k_RB_set]) (fun res => ?_)
  unfold f_RB_set
  refine rb_TC.mono (rk_aload_n 0 d_RB_set_0 rfl rfl) ?_
  refine rt_gR r0 fw_RB_14 d_RB_set_1 (fun r_1 => ?_)
  refine rb_TC.mono (rk_iconst (0 : Int32) d_RB_set_4 (by decide)) ?_
  refine rb_TC.mono (rk_aload_n 0 d_RB_set_5 rfl rfl) ?_
  refine rt_gR r0 fw_RB_14 d_RB_set_6 (fun r_2 => ?_)
  refine rt_vI (As := []) (st := [.int (0 : Int32), va_rf r_1]) (r_2) vw_RB_85 (s_Text_length (Nat.le_refl _) (r_2)  σ) (Nat.le_trans (by decide) hdd) rfl (by simp [rb_cat_r, rb_cat_i, rb_cat_l]) d_RB_set_9 (fun x_3 σ_4 => ?_)
  refine rt_sI (As := [va_rf r_1, .int (0 : Int32), .int x_3]) (st := []) sw_RB_89 (s_Exp_isDefinition (Nat.le_refl _) (r_1) ((0 : Int32)) (x_3) σ_4) (Nat.le_trans (by decide) hdd) rfl (by simp [rb_cat_r, rb_cat_i, rb_cat_l]) d_RB_set_12 (fun x_5 σ_6 => ?_)
  refine rt_if_ne 20 d_RB_set_15 (by decide) (fun _ => ?_) (fun _ => ?_)
  · refine rb_TC.mono (rk_iconst (0 : Int32) d_RB_set_18 (by decide)) ?_
    exact rt_iret (ty := .boolean) rfl (by decide) (fun h => h) d_RB_set_19
  · refine rb_TC.mono (rk_aload_n 0 d_RB_set_20 rfl rfl) ?_
    refine rt_gR r0 fw_RB_14 d_RB_set_21 (fun r_7 => ?_)
    refine rt_vI (As := []) (st := []) (r_7) vw_RB_85 (s_Text_length (Nat.le_refl _) (r_7)  σ_6) (Nat.le_trans (by decide) hdd) rfl (by simp [rb_cat_r, rb_cat_i, rb_cat_l]) d_RB_set_24 (fun x_8 σ_9 => ?_)
    refine rb_TC.mono (rk_bipush (18 : Int32) d_RB_set_27 (by decide)) ?_
    refine rt_icmp_gt 51 d_RB_set_29 (by decide) (fun _ => ?_) (fun _ => ?_)
    · refine rb_TC.mono (rk_iconst (0 : Int32) d_RB_set_51 (by decide)) ?_
      exact rt_iret (ty := .boolean) rfl (by decide) (fun h => h) d_RB_set_52
    · refine rb_TC.mono (rk_aload_n 0 d_RB_set_32 rfl rfl) ?_
      refine rt_gR r0 fw_RB_14 d_RB_set_33 (fun r_10 => ?_)
      refine rb_TC.mono (rk_bipush (10 : Int32) d_RB_set_36 (by decide)) ?_
      refine rt_vI (As := [.int (10 : Int32)]) (st := []) (r_10) vw_RB_93 (s_Text_indexOf (Nat.le_refl _) (r_10) ((10 : Int32)) σ_9) (Nat.le_trans (by decide) hdd) rfl (by simp [rb_cat_r, rb_cat_i, rb_cat_l]) d_RB_set_38 (fun x_11 σ_12 => ?_)
      refine rb_TC.mono (rk_aload_n 0 d_RB_set_41 rfl rfl) ?_
      refine rt_gR r0 fw_RB_14 d_RB_set_42 (fun r_13 => ?_)
      refine rt_vI (As := []) (st := [.int x_11]) (r_13) vw_RB_85 (s_Text_length (Nat.le_refl _) (r_13)  σ_12) (Nat.le_trans (by decide) hdd) rfl (by simp [rb_cat_r, rb_cat_i, rb_cat_l]) d_RB_set_45 (fun x_14 σ_15 => ?_)
      refine rt_icmp_ge 53 d_RB_set_48 (by decide) (fun _ => ?_) (fun _ => ?_)
      · refine rb_TC.mono (rk_aload_n 0 d_RB_set_53 rfl rfl) ?_
        refine rt_gR r0 fw_RB_35 d_RB_set_54 (fun r_16 => ?_)
        refine rb_TC.mono (rk_aload_n 0 d_RB_set_57 rfl rfl) ?_
        refine rt_gR r0 fw_RB_14 d_RB_set_58 (fun r_17 => ?_)
        refine rb_TC.mono (rk_iconst (0 : Int32) d_RB_set_61 (by decide)) ?_
        refine rt_vI (As := [.int (0 : Int32)]) (st := [va_rf r_16]) (r_17) vw_RB_97 (s_Text_at (Nat.le_refl _) (r_17) ((0 : Int32)) σ_15) (Nat.le_trans (by decide) hdd) rfl (by simp [rb_cat_r, rb_cat_i, rb_cat_l]) d_RB_set_62 (fun x_18 σ_19 => ?_)
        refine rb_TC.mono (rk_aload_n 0 d_RB_set_65 rfl rfl) ?_
        refine rt_gR r0 fw_RB_14 d_RB_set_66 (fun r_20 => ?_)
        refine rb_TC.mono (rk_iconst (2 : Int32) d_RB_set_69 (by decide)) ?_
        refine rb_TC.mono (rk_aload_n 0 d_RB_set_70 rfl rfl) ?_
        refine rt_gR r0 fw_RB_14 d_RB_set_71 (fun r_21 => ?_)
        refine rt_vI (As := []) (st := [.int (2 : Int32), va_rf r_20, .int x_18, va_rf r_16]) (r_21) vw_RB_85 (s_Text_length (Nat.le_refl _) (r_21)  σ_19) (Nat.le_trans (by decide) hdd) rfl (by simp [rb_cat_r, rb_cat_i, rb_cat_l]) d_RB_set_74 (fun x_22 σ_23 => ?_)
        refine rt_vR (As := [.int (2 : Int32), .int x_22]) (st := [.int x_18, va_rf r_16]) (r_20) vw_RB_101 (s_Text_cut (Nat.le_refl _) (r_20) ((2 : Int32)) (x_22) σ_23) (Nat.le_trans (by decide) hdd) rfl (by simp [rb_cat_r, rb_cat_i, rb_cat_l]) d_RB_set_77 (fun r_24 σ_25 => ?_)
        refine rt_vV (As := [.int x_18, va_rf r_24]) (st := []) (r_16) vw_RB_105 (s_Exp_give (Nat.le_refl _) (r_16) (x_18) (r_24) σ_25) (Nat.le_trans (by decide) hdd) rfl (by simp [rb_cat_r, rb_cat_i, rb_cat_l]) d_RB_set_80 (fun σ_26 => ?_)
        refine rb_TC.mono (rk_aload_n 0 d_RB_set_83 rfl rfl) ?_
        refine rt_gR r0 fw_RB_14 d_RB_set_84 (fun r_27 => ?_)
        refine rt_vV (As := []) (st := []) (r_27) vw_RB_82 (s_Text_clear (Nat.le_refl _) (r_27)  σ_26) (Nat.le_trans (by decide) hdd) rfl (by simp [rb_cat_r, rb_cat_i, rb_cat_l]) d_RB_set_87 (fun σ_28 => ?_)
        refine rb_TC.mono (rk_iconst (1 : Int32) d_RB_set_90 (by decide)) ?_
        exact rt_iret (ty := .boolean) rfl (by decide) (fun h => h) d_RB_set_91
      · refine rb_TC.mono (rk_iconst (0 : Int32) d_RB_set_51 (by decide)) ?_
        exact rt_iret (ty := .boolean) rfl (by decide) (fun h => h) d_RB_set_52
-- ===== RuleBuilder.load()I
def k_RB_load : rb_MK := (⟨"RuleBuilder", "load", "()I"⟩, prog_1_method_5_code, 2, some (.int))
theorem mw_RB_load : rb_Mw k_RB_load 0 := ⟨rb_inG 526 (by decide +kernel) rfl, rb_inG 85 (by decide +kernel) rfl, ⟨by decide, by decide, by decide +kernel⟩, by decide⟩
theorem vw_RB_109 : rb_Vw "RuleBuilder" 109 k_Reader_read 8 1 := ⟨mw_Reader_read, rb_inG 527 (by decide +kernel) rfl, rb_inG 528 (by decide +kernel) rfl, rb_inG 529 (by decide +kernel) rfl, by decide, by decide, _, rfl, rfl⟩
theorem d_RB_load_0 : decode prog_1_method_5_code 0 = .ok (.aload_n 0, 1) := by decide +kernel
theorem d_RB_load_1 : decode prog_1_method_5_code 1 = .ok (.getfield 65, 3) := by decide +kernel
theorem d_RB_load_4 : decode prog_1_method_5_code 4 = .ok (.aload_n 0, 1) := by decide +kernel
theorem d_RB_load_5 : decode prog_1_method_5_code 5 = .ok (.getfield 14, 3) := by decide +kernel
theorem d_RB_load_8 : decode prog_1_method_5_code 8 = .ok (.invokevirtual 109, 3) := by decide +kernel
theorem d_RB_load_11 : decode prog_1_method_5_code 11 = .ok (.istore_n 1, 1) := by decide +kernel
theorem d_RB_load_12 : decode prog_1_method_5_code 12 = .ok (.aload_n 0, 1) := by decide +kernel
theorem d_RB_load_13 : decode prog_1_method_5_code 13 = .ok (.getfield 14, 3) := by decide +kernel
theorem d_RB_load_16 : decode prog_1_method_5_code 16 = .ok (.invokevirtual 82, 3) := by decide +kernel
theorem d_RB_load_19 : decode prog_1_method_5_code 19 = .ok (.iload_n 1, 1) := by decide +kernel
theorem d_RB_load_20 : decode prog_1_method_5_code 20 = .ok (.ireturn, 1) := by decide +kernel
noncomputable def f_RB_load (r0 : Option Nat) (σ : rb_St) : Option rb_Rs :=
  (rb_gR σ r0 1 6).bind fun r_1 => (rb_gR σ r0 1 0).bind fun r_2 => (rb_fc σ r_1 8).bind fun _ => rb_cI (f_Reader_read (r_1) (r_2) σ) fun x_3 σ_4 => (rb_gR σ_4 r0 1 0).bind fun r_5 => (rb_fc σ_4 r_5 2).bind fun _ => rb_cV (f_Text_clear (r_5)  σ_4) fun σ_6 => some (some (.int x_3), σ_6)
theorem s_RB_load {E : rb_EV} {d : Nat} (hdd : 45 ≤ d) (r0 : Option Nat) (σ : rb_St) : rb_Does E k_RB_load d [va_rf r0] σ (f_RB_load r0 σ) := by
  refine rb_start (lv := [some (va_rf r0), none]) (by decide) (by simp [lg_sl, rb_as, lv_args, rb_cat_r, rb_cat_i, rb_cat_l, rb_nL, k_RB_load]) (fun res => ?_)
  unfold f_RB_load
  refine rb_TC.mono (rk_aload_n 0 d_RB_load_0 rfl rfl) ?_
  refine rt_gR r0 fw_RB_65 d_RB_load_1 (fun r_1 => ?_)
  refine rb_TC.mono (rk_aload_n 0 d_RB_load_4 rfl rfl) ?_
  refine rt_gR r0 fw_RB_14 d_RB_load_5 (fun r_2 => ?_)
  refine rt_vI (As := [va_rf r_2]) (st := []) (r_1) vw_RB_109 (s_Reader_read (Nat.le_refl _) (r_1) (r_2) σ) (Nat.le_trans (by decide) hdd) rfl (by simp [rb_cat_r, rb_cat_i, rb_cat_l]) d_RB_load_8 (fun x_3 σ_4 => ?_)
  refine rb_TC.mono (rk_istore_n (lv2 := [some (va_rf r0), some (.int x_3)]) 1 d_RB_load_11 rfl (by decide) (fun _ => rb_one_r) rfl) ?_
  refine rb_TC.mono (rk_aload_n 0 d_RB_load_12 rfl rfl) ?_
  refine rt_gR r0 fw_RB_14 d_RB_load_13 (fun r_5 => ?_)
  refine rt_vV (As := []) (st := []) (r_5) vw_RB_82 (s_Text_clear (Nat.le_refl _) (r_5)  σ_4) (Nat.le_trans (by decide) hdd) rfl (by simp [rb_cat_r, rb_cat_i, rb_cat_l]) d_RB_load_16 (fun σ_6 => ?_)
  refine rb_TC.mono (rk_iload_n 1 d_RB_load_19 rfl rfl) ?_
  exact rt_iret (ty := .int) rfl rfl (fun h => h) d_RB_load_20
-- ===== RuleBuilder.edit(I)I
def k_RB_edit : rb_MK := (⟨"RuleBuilder", "edit", "(I)I"⟩, prog_1_method_6_code, 3, some (.int))
theorem mw_RB_edit : rb_Mw k_RB_edit 1 := ⟨rb_inG 995 (by decide +kernel) rfl, rb_inG 85 (by decide +kernel) rfl, ⟨by decide, by decide, by decide +kernel⟩, by decide⟩
theorem fw_RB_121 : rb_Fw "RuleBuilder" 121 12 0 := ⟨_, rfl, by decide, by decide, by decide, rfl, rb_inG 879 (by decide +kernel) rfl⟩
theorem vw_RB_113 : rb_Vw "RuleBuilder" 113 k_Store_meet 3 3 := ⟨mw_Store_meet, rb_inG 996 (by decide +kernel) rfl, rb_inG 862 (by decide +kernel) rfl, rb_inG 863 (by decide +kernel) rfl, by decide, by decide, _, rfl, rfl⟩
theorem vw_RB_117 : rb_Vw "RuleBuilder" 117 k_Store_write 3 2 := ⟨mw_Store_write, rb_inG 997 (by decide +kernel) rfl, rb_inG 998 (by decide +kernel) rfl, rb_inG 999 (by decide +kernel) rfl, by decide, by decide, _, rfl, rfl⟩
theorem d_RB_edit_0 : decode prog_1_method_6_code 0 = .ok (.aload_n 0, 1) := by decide +kernel
theorem d_RB_edit_1 : decode prog_1_method_6_code 1 = .ok (.getfield 21, 3) := by decide +kernel
theorem d_RB_edit_4 : decode prog_1_method_6_code 4 = .ok (.aload_n 0, 1) := by decide +kernel
theorem d_RB_edit_5 : decode prog_1_method_6_code 5 = .ok (.getfield 14, 3) := by decide +kernel
theorem d_RB_edit_8 : decode prog_1_method_6_code 8 = .ok (.iconst 0, 1) := by decide +kernel
theorem d_RB_edit_9 : decode prog_1_method_6_code 9 = .ok (.aload_n 0, 1) := by decide +kernel
theorem d_RB_edit_10 : decode prog_1_method_6_code 10 = .ok (.getfield 14, 3) := by decide +kernel
theorem d_RB_edit_13 : decode prog_1_method_6_code 13 = .ok (.invokevirtual 85, 3) := by decide +kernel
theorem d_RB_edit_16 : decode prog_1_method_6_code 16 = .ok (.invokevirtual 113, 3) := by decide +kernel
theorem d_RB_edit_19 : decode prog_1_method_6_code 19 = .ok (.astore_n 2, 1) := by decide +kernel
theorem d_RB_edit_20 : decode prog_1_method_6_code 20 = .ok (.aload_n 2, 1) := by decide +kernel
theorem d_RB_edit_21 : decode prog_1_method_6_code 21 = .ok (.ifnonnull 5, 3) := by decide +kernel
theorem d_RB_edit_24 : decode prog_1_method_6_code 24 = .ok (.iconst (-1), 1) := by decide +kernel
theorem d_RB_edit_25 : decode prog_1_method_6_code 25 = .ok (.ireturn, 1) := by decide +kernel
theorem d_RB_edit_26 : decode prog_1_method_6_code 26 = .ok (.aload_n 0, 1) := by decide +kernel
theorem d_RB_edit_27 : decode prog_1_method_6_code 27 = .ok (.getfield 21, 3) := by decide +kernel
theorem d_RB_edit_30 : decode prog_1_method_6_code 30 = .ok (.aload_n 2, 1) := by decide +kernel
theorem d_RB_edit_31 : decode prog_1_method_6_code 31 = .ok (.iload_n 1, 1) := by decide +kernel
theorem d_RB_edit_32 : decode prog_1_method_6_code 32 = .ok (.invokevirtual 117, 3) := by decide +kernel
theorem d_RB_edit_35 : decode prog_1_method_6_code 35 = .ok (.aload_n 0, 1) := by decide +kernel
theorem d_RB_edit_36 : decode prog_1_method_6_code 36 = .ok (.getfield 14, 3) := by decide +kernel
theorem d_RB_edit_39 : decode prog_1_method_6_code 39 = .ok (.invokevirtual 82, 3) := by decide +kernel
theorem d_RB_edit_42 : decode prog_1_method_6_code 42 = .ok (.aload_n 2, 1) := by decide +kernel
theorem d_RB_edit_43 : decode prog_1_method_6_code 43 = .ok (.getfield 121, 3) := by decide +kernel
theorem d_RB_edit_46 : decode prog_1_method_6_code 46 = .ok (.ireturn, 1) := by decide +kernel
noncomputable def f_RB_edit (r0 : Option Nat) (x1 : Int32) (σ : rb_St) : Option rb_Rs :=
  (rb_gR σ r0 1 1).bind fun r_1 => (rb_gR σ r0 1 0).bind fun r_2 => (rb_gR σ r0 1 0).bind fun r_3 => (rb_fc σ r_3 2).bind fun _ => rb_cI (f_Text_length (r_3)  σ) fun x_4 σ_5 => (rb_fc σ_5 r_1 3).bind fun _ => rb_cR (f_Store_meet (r_1) (r_2) ((0 : Int32)) (x_4) σ_5) fun r_6 σ_7 => if r_6 = none then (some (some (.int (-1 : Int32)), σ_7)) else ((rb_gR σ_7 r0 1 1).bind fun r_8 => (rb_fc σ_7 r_8 3).bind fun _ => rb_cV (f_Store_write (r_8) (r_6) (x1) σ_7) fun σ_9 => (rb_gR σ_9 r0 1 0).bind fun r_10 => (rb_fc σ_9 r_10 2).bind fun _ => rb_cV (f_Text_clear (r_10)  σ_9) fun σ_11 => (rb_gI σ_11 r_6 12 0).bind fun x_12 => some (some (.int x_12), σ_11))
theorem s_RB_edit {E : rb_EV} {d : Nat} (hdd : 7 ≤ d) (r0 : Option Nat) (x1 : Int32) (σ : rb_St) : rb_Does E k_RB_edit d [va_rf r0, .int x1] σ (f_RB_edit r0 x1 σ) := by
  refine rb_start (lv := [some (va_rf r0), some (.int x1), none]) (by decide) (by simp [lg_sl, rb_as, lv_args, rb_cat_r, rb_cat_i, rb_cat_l, rb_nL, k_RB_edit]) (fun res => ?_)
  unfold f_RB_edit
  refine rb_TC.mono (rk_aload_n 0 d_RB_edit_0 rfl rfl) ?_
  refine rt_gR r0 fw_RB_21 d_RB_edit_1 (fun r_1 => ?_)
  refine rb_TC.mono (rk_aload_n 0 d_RB_edit_4 rfl rfl) ?_
  refine rt_gR r0 fw_RB_14 d_RB_edit_5 (fun r_2 => ?_)
  refine rb_TC.mono (rk_iconst (0 : Int32) d_RB_edit_8 (by decide)) ?_
  refine rb_TC.mono (rk_aload_n 0 d_RB_edit_9 rfl rfl) ?_
  refine rt_gR r0 fw_RB_14 d_RB_edit_10 (fun r_3 => ?_)
  refine rt_vI (As := []) (st := [.int (0 : Int32), va_rf r_2, va_rf r_1]) (r_3) vw_RB_85 (s_Text_length (Nat.le_refl _) (r_3)  σ) (Nat.le_trans (by decide) hdd) rfl (by simp [rb_cat_r, rb_cat_i, rb_cat_l]) d_RB_edit_13 (fun x_4 σ_5 => ?_)
  refine rt_vR (As := [va_rf r_2, .int (0 : Int32), .int x_4]) (st := []) (r_1) vw_RB_113 (s_Store_meet (Nat.le_refl _) (r_1) (r_2) ((0 : Int32)) (x_4) σ_5) (Nat.le_trans (by decide) hdd) rfl (by simp [rb_cat_r, rb_cat_i, rb_cat_l]) d_RB_edit_16 (fun r_6 σ_7 => ?_)
  refine rb_TC.mono (rk_astore_n (lv2 := [some (va_rf r0), some (.int x1), some (va_rf r_6)]) 2 d_RB_edit_19 rfl (by decide) (fun _ => rb_one_i) rfl) ?_
  refine rb_TC.mono (rk_aload_n 2 d_RB_edit_20 rfl rfl) ?_
  refine rt_ifnonnull 26 d_RB_edit_21 (by decide) (fun _ => ?_) (fun _ => ?_)
  · refine rb_TC.mono (rk_iconst (-1 : Int32) d_RB_edit_24 (by decide)) ?_
    exact rt_iret (ty := .int) rfl rfl (fun h => h) d_RB_edit_25
  · refine rb_TC.mono (rk_aload_n 0 d_RB_edit_26 rfl rfl) ?_
    refine rt_gR r0 fw_RB_21 d_RB_edit_27 (fun r_8 => ?_)
    refine rb_TC.mono (rk_aload_n 2 d_RB_edit_30 rfl rfl) ?_
    refine rb_TC.mono (rk_iload_n 1 d_RB_edit_31 rfl rfl) ?_
    refine rt_vV (As := [va_rf r_6, .int x1]) (st := []) (r_8) vw_RB_117 (s_Store_write (Nat.le_refl _) (r_8) (r_6) (x1) σ_7) (Nat.le_trans (by decide) hdd) rfl (by simp [rb_cat_r, rb_cat_i, rb_cat_l]) d_RB_edit_32 (fun σ_9 => ?_)
    refine rb_TC.mono (rk_aload_n 0 d_RB_edit_35 rfl rfl) ?_
    refine rt_gR r0 fw_RB_14 d_RB_edit_36 (fun r_10 => ?_)
    refine rt_vV (As := []) (st := []) (r_10) vw_RB_82 (s_Text_clear (Nat.le_refl _) (r_10)  σ_9) (Nat.le_trans (by decide) hdd) rfl (by simp [rb_cat_r, rb_cat_i, rb_cat_l]) d_RB_edit_39 (fun σ_11 => ?_)
    refine rb_TC.mono (rk_aload_n 2 d_RB_edit_42 rfl rfl) ?_
    refine rt_gI r_6 fw_RB_121 d_RB_edit_43 (fun x_12 => ?_)
    exact rt_iret (ty := .int) rfl rfl (fun h => h) d_RB_edit_46
-- ===== RuleBuilder.erase()Z
def k_RB_erase : rb_MK := (⟨"RuleBuilder", "erase", "()Z"⟩, prog_1_method_7_code, 2, some (.boolean))
theorem mw_RB_erase : rb_Mw k_RB_erase 0 := ⟨rb_inG 1004 (by decide +kernel) rfl, rb_inG 85 (by decide +kernel) rfl, ⟨by decide, by decide, by decide +kernel⟩, by decide⟩
theorem vw_RB_127 : rb_Vw "RuleBuilder" 127 k_Store_find 3 3 := ⟨mw_Store_find, rb_inG 1005 (by decide +kernel) rfl, rb_inG 866 (by decide +kernel) rfl, rb_inG 867 (by decide +kernel) rfl, by decide, by decide, _, rfl, rfl⟩
theorem vw_RB_130 : rb_Vw "RuleBuilder" 130 k_Name_isFile 12 0 := ⟨mw_Name_isFile, rb_inG 1006 (by decide +kernel) rfl, rb_inG 1007 (by decide +kernel) rfl, rb_inG 1008 (by decide +kernel) rfl, by decide, by decide, _, rfl, rfl⟩
theorem vw_RB_134 : rb_Vw "RuleBuilder" 134 k_Name_remove 12 0 := ⟨mw_Name_remove, rb_inG 1010 (by decide +kernel) rfl, rb_inG 1011 (by decide +kernel) rfl, rb_inG 1012 (by decide +kernel) rfl, by decide, by decide, _, rfl, rfl⟩
theorem d_RB_erase_0 : decode prog_1_method_7_code 0 = .ok (.aload_n 0, 1) := by decide +kernel
theorem d_RB_erase_1 : decode prog_1_method_7_code 1 = .ok (.getfield 21, 3) := by decide +kernel
theorem d_RB_erase_4 : decode prog_1_method_7_code 4 = .ok (.aload_n 0, 1) := by decide +kernel
theorem d_RB_erase_5 : decode prog_1_method_7_code 5 = .ok (.getfield 14, 3) := by decide +kernel
theorem d_RB_erase_8 : decode prog_1_method_7_code 8 = .ok (.iconst 0, 1) := by decide +kernel
theorem d_RB_erase_9 : decode prog_1_method_7_code 9 = .ok (.aload_n 0, 1) := by decide +kernel
theorem d_RB_erase_10 : decode prog_1_method_7_code 10 = .ok (.getfield 14, 3) := by decide +kernel
theorem d_RB_erase_13 : decode prog_1_method_7_code 13 = .ok (.invokevirtual 85, 3) := by decide +kernel
theorem d_RB_erase_16 : decode prog_1_method_7_code 16 = .ok (.invokevirtual 127, 3) := by decide +kernel
theorem d_RB_erase_19 : decode prog_1_method_7_code 19 = .ok (.astore_n 1, 1) := by decide +kernel
theorem d_RB_erase_20 : decode prog_1_method_7_code 20 = .ok (.aload_n 1, 1) := by decide +kernel
theorem d_RB_erase_21 : decode prog_1_method_7_code 21 = .ok (.ifnull 10, 3) := by decide +kernel
theorem d_RB_erase_24 : decode prog_1_method_7_code 24 = .ok (.aload_n 1, 1) := by decide +kernel
theorem d_RB_erase_25 : decode prog_1_method_7_code 25 = .ok (.invokevirtual 130, 3) := by decide +kernel
theorem d_RB_erase_28 : decode prog_1_method_7_code 28 = .ok (.ifCond .ne 5, 3) := by decide +kernel
theorem d_RB_erase_31 : decode prog_1_method_7_code 31 = .ok (.iconst 0, 1) := by decide +kernel
theorem d_RB_erase_32 : decode prog_1_method_7_code 32 = .ok (.ireturn, 1) := by decide +kernel
theorem d_RB_erase_33 : decode prog_1_method_7_code 33 = .ok (.aload_n 1, 1) := by decide +kernel
theorem d_RB_erase_34 : decode prog_1_method_7_code 34 = .ok (.invokevirtual 134, 3) := by decide +kernel
theorem d_RB_erase_37 : decode prog_1_method_7_code 37 = .ok (.aload_n 0, 1) := by decide +kernel
theorem d_RB_erase_38 : decode prog_1_method_7_code 38 = .ok (.getfield 14, 3) := by decide +kernel
theorem d_RB_erase_41 : decode prog_1_method_7_code 41 = .ok (.invokevirtual 82, 3) := by decide +kernel
theorem d_RB_erase_44 : decode prog_1_method_7_code 44 = .ok (.iconst 1, 1) := by decide +kernel
theorem d_RB_erase_45 : decode prog_1_method_7_code 45 = .ok (.ireturn, 1) := by decide +kernel
noncomputable def f_RB_erase (r0 : Option Nat) (σ : rb_St) : Option rb_Rs :=
  (rb_gR σ r0 1 1).bind fun r_1 => (rb_gR σ r0 1 0).bind fun r_2 => (rb_gR σ r0 1 0).bind fun r_3 => (rb_fc σ r_3 2).bind fun _ => rb_cI (f_Text_length (r_3)  σ) fun x_4 σ_5 => (rb_fc σ_5 r_1 3).bind fun _ => rb_cR (f_Store_find (r_1) (r_2) ((0 : Int32)) (x_4) σ_5) fun r_6 σ_7 => if r_6 = none then (some (some (.int (0 : Int32)), σ_7)) else ((rb_fc σ_7 r_6 12).bind fun _ => rb_cI (f_Name_isFile (r_6)  σ_7) fun x_8 σ_9 => if x_8 = 0 then (some (some (.int (0 : Int32)), σ_9)) else ((rb_fc σ_9 r_6 12).bind fun _ => rb_cV (f_Name_remove (r_6)  σ_9) fun σ_10 => (rb_gR σ_10 r0 1 0).bind fun r_11 => (rb_fc σ_10 r_11 2).bind fun _ => rb_cV (f_Text_clear (r_11)  σ_10) fun σ_12 => some (some (.int (1 : Int32)), σ_12)))
theorem s_RB_erase {E : rb_EV} {d : Nat} (hdd : 6 ≤ d) (r0 : Option Nat) (σ : rb_St) : rb_Does E k_RB_erase d [va_rf r0] σ (f_RB_erase r0 σ) := by
  refine rb_start (lv := [some (va_rf r0), none]) (by decide) (by simp [lg_sl, rb_as, lv_args, rb_cat_r, rb_cat_i, rb_cat_l, rb_nL, k_RB_erase]) (fun res => ?_)
  unfold f_RB_erase
  refine rb_TC.mono (rk_aload_n 0 d_RB_erase_0 rfl rfl) ?_
  refine rt_gR r0 fw_RB_21 d_RB_erase_1 (fun r_1 => ?_)
  refine rb_TC.mono (rk_aload_n 0 d_RB_erase_4 rfl rfl) ?_
  refine rt_gR r0 fw_RB_14 d_RB_erase_5 (fun r_2 => ?_)
  refine rb_TC.mono (rk_iconst (0 : Int32) d_RB_erase_8 (by decide)) ?_
  refine rb_TC.mono (rk_aload_n 0 d_RB_erase_9 rfl rfl) ?_
  refine rt_gR r0 fw_RB_14 d_RB_erase_10 (fun r_3 => ?_)
  refine rt_vI (As := []) (st := [.int (0 : Int32), va_rf r_2, va_rf r_1]) (r_3) vw_RB_85 (s_Text_length (Nat.le_refl _) (r_3)  σ) (Nat.le_trans (by decide) hdd) rfl (by simp [rb_cat_r, rb_cat_i, rb_cat_l]) d_RB_erase_13 (fun x_4 σ_5 => ?_)
  refine rt_vR (As := [va_rf r_2, .int (0 : Int32), .int x_4]) (st := []) (r_1) vw_RB_127 (s_Store_find (Nat.le_refl _) (r_1) (r_2) ((0 : Int32)) (x_4) σ_5) (Nat.le_trans (by decide) hdd) rfl (by simp [rb_cat_r, rb_cat_i, rb_cat_l]) d_RB_erase_16 (fun r_6 σ_7 => ?_)
  refine rb_TC.mono (rk_astore_n (lv2 := [some (va_rf r0), some (va_rf r_6)]) 1 d_RB_erase_19 rfl (by decide) (fun _ => rb_one_r) rfl) ?_
  refine rb_TC.mono (rk_aload_n 1 d_RB_erase_20 rfl rfl) ?_
  refine rt_ifnull 31 d_RB_erase_21 (by decide) (fun _ => ?_) (fun _ => ?_)
  · refine rb_TC.mono (rk_iconst (0 : Int32) d_RB_erase_31 (by decide)) ?_
    exact rt_iret (ty := .boolean) rfl (by decide) (fun h => h) d_RB_erase_32
  · refine rb_TC.mono (rk_aload_n 1 d_RB_erase_24 rfl rfl) ?_
    refine rt_vI (As := []) (st := []) (r_6) vw_RB_130 (s_Name_isFile (Nat.le_refl _) (r_6)  σ_7) (Nat.le_trans (by decide) hdd) rfl (by simp [rb_cat_r, rb_cat_i, rb_cat_l]) d_RB_erase_25 (fun x_8 σ_9 => ?_)
    refine rt_if_ne 33 d_RB_erase_28 (by decide) (fun _ => ?_) (fun _ => ?_)
    · refine rb_TC.mono (rk_iconst (0 : Int32) d_RB_erase_31 (by decide)) ?_
      exact rt_iret (ty := .boolean) rfl (by decide) (fun h => h) d_RB_erase_32
    · refine rb_TC.mono (rk_aload_n 1 d_RB_erase_33 rfl rfl) ?_
      refine rt_vV (As := []) (st := []) (r_6) vw_RB_134 (s_Name_remove (Nat.le_refl _) (r_6)  σ_9) (Nat.le_trans (by decide) hdd) rfl (by simp [rb_cat_r, rb_cat_i, rb_cat_l]) d_RB_erase_34 (fun σ_10 => ?_)
      refine rb_TC.mono (rk_aload_n 0 d_RB_erase_37 rfl rfl) ?_
      refine rt_gR r0 fw_RB_14 d_RB_erase_38 (fun r_11 => ?_)
      refine rt_vV (As := []) (st := []) (r_11) vw_RB_82 (s_Text_clear (Nat.le_refl _) (r_11)  σ_10) (Nat.le_trans (by decide) hdd) rfl (by simp [rb_cat_r, rb_cat_i, rb_cat_l]) d_RB_erase_41 (fun σ_12 => ?_)
      refine rb_TC.mono (rk_iconst (1 : Int32) d_RB_erase_44 (by decide)) ?_
      exact rt_iret (ty := .boolean) rfl (by decide) (fun h => h) d_RB_erase_45
-- ===== RuleBuilder.build(I)I
def k_RB_build : rb_MK := (⟨"RuleBuilder", "build", "(I)I"⟩, prog_1_method_8_code, 4, some (.int))
theorem mw_RB_build : rb_Mw k_RB_build 1 := ⟨rb_inG 1017 (by decide +kernel) rfl, rb_inG 85 (by decide +kernel) rfl, ⟨by decide, by decide, by decide +kernel⟩, by decide⟩
theorem fw_RB_137 : rb_Fw "RuleBuilder" 137 4 12 := ⟨_, rfl, by decide, by decide, by decide, rfl, rb_inG 177 (by decide +kernel) rfl⟩
theorem vw_RB_141 : rb_Vw "RuleBuilder" 141 k_Bld_begin 9 1 := ⟨mw_Bld_begin, rb_inG 1018 (by decide +kernel) rfl, rb_inG 1019 (by decide +kernel) rfl, rb_inG 1020 (by decide +kernel) rfl, by decide, by decide, _, rfl, rfl⟩
theorem vw_RB_144 : rb_Vw "RuleBuilder" 144 k_Bld_update 9 2 := ⟨mw_Bld_update, rb_inG 1027 (by decide +kernel) rfl, rb_inG 1028 (by decide +kernel) rfl, rb_inG 1029 (by decide +kernel) rfl, by decide, by decide, _, rfl, rfl⟩
theorem vw_RB_148 : rb_Vw "RuleBuilder" 148 k_Bld_answerOfSuccess 9 0 := ⟨mw_Bld_answerOfSuccess, rb_inG 1164 (by decide +kernel) rfl, rb_inG 1165 (by decide +kernel) rfl, rb_inG 1166 (by decide +kernel) rfl, by decide, by decide, _, rfl, rfl⟩
theorem d_RB_build_0 : decode prog_1_method_8_code 0 = .ok (.iload_n 1, 1) := by decide +kernel
theorem d_RB_build_1 : decode prog_1_method_8_code 1 = .ok (.ifCond .lt 9, 3) := by decide +kernel
theorem d_RB_build_4 : decode prog_1_method_8_code 4 = .ok (.iload_n 1, 1) := by decide +kernel
theorem d_RB_build_5 : decode prog_1_method_8_code 5 = .ok (.bipush 63, 2) := by decide +kernel
theorem d_RB_build_7 : decode prog_1_method_8_code 7 = .ok (.if_icmp .le 5, 3) := by decide +kernel
theorem d_RB_build_10 : decode prog_1_method_8_code 10 = .ok (.iconst (-1), 1) := by decide +kernel
theorem d_RB_build_11 : decode prog_1_method_8_code 11 = .ok (.ireturn, 1) := by decide +kernel
theorem d_RB_build_12 : decode prog_1_method_8_code 12 = .ok (.aload_n 0, 1) := by decide +kernel
theorem d_RB_build_13 : decode prog_1_method_8_code 13 = .ok (.getfield 14, 3) := by decide +kernel
theorem d_RB_build_16 : decode prog_1_method_8_code 16 = .ok (.invokevirtual 85, 3) := by decide +kernel
theorem d_RB_build_19 : decode prog_1_method_8_code 19 = .ok (.ifCond .ne 13, 3) := by decide +kernel
theorem d_RB_build_22 : decode prog_1_method_8_code 22 = .ok (.aload_n 0, 1) := by decide +kernel
theorem d_RB_build_23 : decode prog_1_method_8_code 23 = .ok (.getfield 28, 3) := by decide +kernel
theorem d_RB_build_26 : decode prog_1_method_8_code 26 = .ok (.getfield 137, 3) := by decide +kernel
theorem d_RB_build_29 : decode prog_1_method_8_code 29 = .ok (.goto 22, 3) := by decide +kernel
theorem d_RB_build_32 : decode prog_1_method_8_code 32 = .ok (.aload_n 0, 1) := by decide +kernel
theorem d_RB_build_33 : decode prog_1_method_8_code 33 = .ok (.getfield 21, 3) := by decide +kernel
theorem d_RB_build_36 : decode prog_1_method_8_code 36 = .ok (.aload_n 0, 1) := by decide +kernel
theorem d_RB_build_37 : decode prog_1_method_8_code 37 = .ok (.getfield 14, 3) := by decide +kernel
theorem d_RB_build_40 : decode prog_1_method_8_code 40 = .ok (.iconst 0, 1) := by decide +kernel
theorem d_RB_build_41 : decode prog_1_method_8_code 41 = .ok (.aload_n 0, 1) := by decide +kernel
theorem d_RB_build_42 : decode prog_1_method_8_code 42 = .ok (.getfield 14, 3) := by decide +kernel
theorem d_RB_build_45 : decode prog_1_method_8_code 45 = .ok (.invokevirtual 85, 3) := by decide +kernel
theorem d_RB_build_48 : decode prog_1_method_8_code 48 = .ok (.invokevirtual 113, 3) := by decide +kernel
theorem d_RB_build_51 : decode prog_1_method_8_code 51 = .ok (.astore_n 2, 1) := by decide +kernel
theorem d_RB_build_52 : decode prog_1_method_8_code 52 = .ok (.aload_n 2, 1) := by decide +kernel
theorem d_RB_build_53 : decode prog_1_method_8_code 53 = .ok (.ifnonnull 5, 3) := by decide +kernel
theorem d_RB_build_56 : decode prog_1_method_8_code 56 = .ok (.iconst (-1), 1) := by decide +kernel
theorem d_RB_build_57 : decode prog_1_method_8_code 57 = .ok (.ireturn, 1) := by decide +kernel
theorem d_RB_build_58 : decode prog_1_method_8_code 58 = .ok (.aload_n 0, 1) := by decide +kernel
theorem d_RB_build_59 : decode prog_1_method_8_code 59 = .ok (.getfield 14, 3) := by decide +kernel
theorem d_RB_build_62 : decode prog_1_method_8_code 62 = .ok (.invokevirtual 82, 3) := by decide +kernel
theorem d_RB_build_65 : decode prog_1_method_8_code 65 = .ok (.aload_n 0, 1) := by decide +kernel
theorem d_RB_build_66 : decode prog_1_method_8_code 66 = .ok (.getfield 74, 3) := by decide +kernel
theorem d_RB_build_69 : decode prog_1_method_8_code 69 = .ok (.iload_n 1, 1) := by decide +kernel
theorem d_RB_build_70 : decode prog_1_method_8_code 70 = .ok (.invokevirtual 141, 3) := by decide +kernel
theorem d_RB_build_73 : decode prog_1_method_8_code 73 = .ok (.aload_n 0, 1) := by decide +kernel
theorem d_RB_build_74 : decode prog_1_method_8_code 74 = .ok (.getfield 74, 3) := by decide +kernel
theorem d_RB_build_77 : decode prog_1_method_8_code 77 = .ok (.aload_n 2, 1) := by decide +kernel
theorem d_RB_build_78 : decode prog_1_method_8_code 78 = .ok (.iconst 0, 1) := by decide +kernel
theorem d_RB_build_79 : decode prog_1_method_8_code 79 = .ok (.invokevirtual 144, 3) := by decide +kernel
theorem d_RB_build_82 : decode prog_1_method_8_code 82 = .ok (.istore_n 3, 1) := by decide +kernel
theorem d_RB_build_83 : decode prog_1_method_8_code 83 = .ok (.iload_n 3, 1) := by decide +kernel
theorem d_RB_build_84 : decode prog_1_method_8_code 84 = .ok (.ifCond .eq 13, 3) := by decide +kernel
theorem d_RB_build_87 : decode prog_1_method_8_code 87 = .ok (.aload_n 0, 1) := by decide +kernel
theorem d_RB_build_88 : decode prog_1_method_8_code 88 = .ok (.getfield 74, 3) := by decide +kernel
theorem d_RB_build_91 : decode prog_1_method_8_code 91 = .ok (.invokevirtual 148, 3) := by decide +kernel
theorem d_RB_build_94 : decode prog_1_method_8_code 94 = .ok (.goto 4, 3) := by decide +kernel
theorem d_RB_build_97 : decode prog_1_method_8_code 97 = .ok (.iconst 2, 1) := by decide +kernel
theorem d_RB_build_98 : decode prog_1_method_8_code 98 = .ok (.ireturn, 1) := by decide +kernel
noncomputable def f_RB_build_j51 (r0 : Option Nat) (x1 : Int32) (sr0 : Option Nat) (σ : rb_St) : Option rb_Rs :=
  if sr0 = none then (some (some (.int (-1 : Int32)), σ)) else ((rb_gR σ r0 1 0).bind fun r_6 => (rb_fc σ r_6 2).bind fun _ => rb_cV (f_Text_clear (r_6)  σ) fun σ_7 => (rb_gR σ_7 r0 1 7).bind fun r_8 => (rb_fc σ_7 r_8 9).bind fun _ => rb_cV (f_Bld_begin (r_8) (x1) σ_7) fun σ_9 => (rb_gR σ_9 r0 1 7).bind fun r_10 => (rb_fc σ_9 r_10 9).bind fun _ => rb_cI (f_Bld_update (r_10) (sr0) ((0 : Int32)) σ_9) fun x_11 σ_12 => if x_11 = 0 then (some (some (.int (2 : Int32)), σ_12)) else ((rb_gR σ_12 r0 1 7).bind fun r_13 => (rb_fc σ_12 r_13 9).bind fun _ => rb_cI (f_Bld_answerOfSuccess (r_13)  σ_12) fun x_14 σ_15 => some (some (.int x_14), σ_15)))
theorem t_RB_build_j51 {E : rb_EV} {d : Nat} {σ0 : rb_St} {res : rb_Rs} (hdd : 165 ≤ d)  (r0 : Option Nat) (x1 : Int32) (sr0 : Option Nat) (σ : rb_St) : rb_TC (f_RB_build_j51 r0 x1 sr0 σ) (fun r => r = res) (rb_WK E k_RB_build d σ0 res 51 [some (va_rf r0), some (.int x1), none, none] [va_rf sr0] σ) := by
  unfold f_RB_build_j51
  refine rb_TC.mono (rk_astore_n (lv2 := [some (va_rf r0), some (.int x1), some (va_rf sr0), none]) 2 d_RB_build_51 rfl (by decide) (fun _ => rb_one_i) rfl) ?_
  refine rb_TC.mono (rk_aload_n 2 d_RB_build_52 rfl rfl) ?_
  refine rt_ifnonnull 58 d_RB_build_53 (by decide) (fun _ => ?_) (fun _ => ?_)
  · refine rb_TC.mono (rk_iconst (-1 : Int32) d_RB_build_56 (by decide)) ?_
    exact rt_iret (ty := .int) rfl rfl (fun h => h) d_RB_build_57
  · refine rb_TC.mono (rk_aload_n 0 d_RB_build_58 rfl rfl) ?_
    refine rt_gR r0 fw_RB_14 d_RB_build_59 (fun r_6 => ?_)
    refine rt_vV (As := []) (st := []) (r_6) vw_RB_82 (s_Text_clear (Nat.le_refl _) (r_6)  σ) (Nat.le_trans (by decide) hdd) rfl (by simp [rb_cat_r, rb_cat_i, rb_cat_l]) d_RB_build_62 (fun σ_7 => ?_)
    refine rb_TC.mono (rk_aload_n 0 d_RB_build_65 rfl rfl) ?_
    refine rt_gR r0 fw_RB_74 d_RB_build_66 (fun r_8 => ?_)
    refine rb_TC.mono (rk_iload_n 1 d_RB_build_69 rfl rfl) ?_
    refine rt_vV (As := [.int x1]) (st := []) (r_8) vw_RB_141 (s_Bld_begin (Nat.le_refl _) (r_8) (x1) σ_7) (Nat.le_trans (by decide) hdd) rfl (by simp [rb_cat_r, rb_cat_i, rb_cat_l]) d_RB_build_70 (fun σ_9 => ?_)
    refine rb_TC.mono (rk_aload_n 0 d_RB_build_73 rfl rfl) ?_
    refine rt_gR r0 fw_RB_74 d_RB_build_74 (fun r_10 => ?_)
    refine rb_TC.mono (rk_aload_n 2 d_RB_build_77 rfl rfl) ?_
    refine rb_TC.mono (rk_iconst (0 : Int32) d_RB_build_78 (by decide)) ?_
    refine rt_vI (As := [va_rf sr0, .int (0 : Int32)]) (st := []) (r_10) vw_RB_144 (s_Bld_update (Nat.le_refl _) (r_10) (sr0) ((0 : Int32)) σ_9) (Nat.le_trans (by decide) hdd) rfl (by simp [rb_cat_r, rb_cat_i, rb_cat_l]) d_RB_build_79 (fun x_11 σ_12 => ?_)
    refine rb_TC.mono (rk_istore_n (lv2 := [some (va_rf r0), some (.int x1), some (va_rf sr0), some (.int x_11)]) 3 d_RB_build_82 rfl (by decide) (fun _ => rb_one_r) rfl) ?_
    refine rb_TC.mono (rk_iload_n 3 d_RB_build_83 rfl rfl) ?_
    refine rt_if_eq 97 d_RB_build_84 (by decide) (fun _ => ?_) (fun _ => ?_)
    · refine rb_TC.mono (rk_iconst (2 : Int32) d_RB_build_97 (by decide)) ?_
      exact rt_iret (ty := .int) rfl rfl (fun h => h) d_RB_build_98
    · refine rb_TC.mono (rk_aload_n 0 d_RB_build_87 rfl rfl) ?_
      refine rt_gR r0 fw_RB_74 d_RB_build_88 (fun r_13 => ?_)
      refine rt_vI (As := []) (st := []) (r_13) vw_RB_148 (s_Bld_answerOfSuccess (Nat.le_refl _) (r_13)  σ_12) (Nat.le_trans (by decide) hdd) rfl (by simp [rb_cat_r, rb_cat_i, rb_cat_l]) d_RB_build_91 (fun x_14 σ_15 => ?_)
      refine rb_TC.mono (rk_goto 98 d_RB_build_94 (by decide)) ?_
      exact rt_iret (ty := .int) rfl rfl (fun h => h) d_RB_build_98
noncomputable def f_RB_build (r0 : Option Nat) (x1 : Int32) (σ : rb_St) : Option rb_Rs :=
  if x1 < 0 then (some (some (.int (-1 : Int32)), σ)) else (if x1 ≤ (63 : Int32) then ((rb_gR σ r0 1 0).bind fun r_1 => (rb_fc σ r_1 2).bind fun _ => rb_cI (f_Text_length (r_1)  σ) fun x_2 σ_3 => if x_2 = 0 then ((rb_gR σ_3 r0 1 2).bind fun r_4 => (rb_gR σ_3 r_4 4 12).bind fun r_5 => f_RB_build_j51 (r0) (x1) (r_5) σ_3) else ((rb_gR σ_3 r0 1 1).bind fun r_16 => (rb_gR σ_3 r0 1 0).bind fun r_17 => (rb_gR σ_3 r0 1 0).bind fun r_18 => (rb_fc σ_3 r_18 2).bind fun _ => rb_cI (f_Text_length (r_18)  σ_3) fun x_19 σ_20 => (rb_fc σ_20 r_16 3).bind fun _ => rb_cR (f_Store_meet (r_16) (r_17) ((0 : Int32)) (x_19) σ_20) fun r_21 σ_22 => f_RB_build_j51 (r0) (x1) (r_21) σ_22)) else (some (some (.int (-1 : Int32)), σ)))
theorem s_RB_build {E : rb_EV} {d : Nat} (hdd : 165 ≤ d) (r0 : Option Nat) (x1 : Int32) (σ : rb_St) : rb_Does E k_RB_build d [va_rf r0, .int x1] σ (f_RB_build r0 x1 σ) := by
  refine rb_start (lv := [some (va_rf r0), some (.int x1), none, none]) (by decide) (by simp [lg_sl, rb_as, lv_args, rb_cat_r, rb_cat_i, rb_cat_l, rb_nL, k_RB_build]) (fun res => ?_)
  unfold f_RB_build
  refine rb_TC.mono (rk_iload_n 1 d_RB_build_0 rfl rfl) ?_
  refine rt_if_lt 10 d_RB_build_1 (by decide) (fun _ => ?_) (fun _ => ?_)
  · refine rb_TC.mono (rk_iconst (-1 : Int32) d_RB_build_10 (by decide)) ?_
    exact rt_iret (ty := .int) rfl rfl (fun h => h) d_RB_build_11
  · refine rb_TC.mono (rk_iload_n 1 d_RB_build_4 rfl rfl) ?_
    refine rb_TC.mono (rk_bipush (63 : Int32) d_RB_build_5 (by decide)) ?_
    refine rt_icmp_le 12 d_RB_build_7 (by decide) (fun _ => ?_) (fun _ => ?_)
    · refine rb_TC.mono (rk_aload_n 0 d_RB_build_12 rfl rfl) ?_
      refine rt_gR r0 fw_RB_14 d_RB_build_13 (fun r_1 => ?_)
      refine rt_vI (As := []) (st := []) (r_1) vw_RB_85 (s_Text_length (Nat.le_refl _) (r_1)  σ) (Nat.le_trans (by decide) hdd) rfl (by simp [rb_cat_r, rb_cat_i, rb_cat_l]) d_RB_build_16 (fun x_2 σ_3 => ?_)
      refine rt_if_ne 32 d_RB_build_19 (by decide) (fun _ => ?_) (fun _ => ?_)
      · refine rb_TC.mono (rk_aload_n 0 d_RB_build_22 rfl rfl) ?_
        refine rt_gR r0 fw_RB_28 d_RB_build_23 (fun r_4 => ?_)
        refine rt_gR r_4 fw_RB_137 d_RB_build_26 (fun r_5 => ?_)
        refine rb_TC.mono (rk_goto 51 d_RB_build_29 (by decide)) ?_
        exact t_RB_build_j51 hdd  (r0) (x1) (r_5) σ_3
      · refine rb_TC.mono (rk_aload_n 0 d_RB_build_32 rfl rfl) ?_
        refine rt_gR r0 fw_RB_21 d_RB_build_33 (fun r_16 => ?_)
        refine rb_TC.mono (rk_aload_n 0 d_RB_build_36 rfl rfl) ?_
        refine rt_gR r0 fw_RB_14 d_RB_build_37 (fun r_17 => ?_)
        refine rb_TC.mono (rk_iconst (0 : Int32) d_RB_build_40 (by decide)) ?_
        refine rb_TC.mono (rk_aload_n 0 d_RB_build_41 rfl rfl) ?_
        refine rt_gR r0 fw_RB_14 d_RB_build_42 (fun r_18 => ?_)
        refine rt_vI (As := []) (st := [.int (0 : Int32), va_rf r_17, va_rf r_16]) (r_18) vw_RB_85 (s_Text_length (Nat.le_refl _) (r_18)  σ_3) (Nat.le_trans (by decide) hdd) rfl (by simp [rb_cat_r, rb_cat_i, rb_cat_l]) d_RB_build_45 (fun x_19 σ_20 => ?_)
        refine rt_vR (As := [va_rf r_17, .int (0 : Int32), .int x_19]) (st := []) (r_16) vw_RB_113 (s_Store_meet (Nat.le_refl _) (r_16) (r_17) ((0 : Int32)) (x_19) σ_20) (Nat.le_trans (by decide) hdd) rfl (by simp [rb_cat_r, rb_cat_i, rb_cat_l]) d_RB_build_48 (fun r_21 σ_22 => ?_)
        exact t_RB_build_j51 hdd  (r0) (x1) (r_21) σ_22
    · refine rb_TC.mono (rk_iconst (-1 : Int32) d_RB_build_10 (by decide)) ?_
      exact rt_iret (ty := .int) rfl rfl (fun h => h) d_RB_build_11
-- ===== RuleBuilder.names()I
def k_RB_names : rb_MK := (⟨"RuleBuilder", "names", "()I"⟩, prog_1_method_9_code, 1, some (.int))
theorem mw_RB_names : rb_Mw k_RB_names 0 := ⟨rb_inG 1171 (by decide +kernel) rfl, rb_inG 85 (by decide +kernel) rfl, ⟨by decide, by decide, by decide +kernel⟩, by decide⟩
theorem vw_RB_151 : rb_Vw "RuleBuilder" 151 k_Store_count 3 0 := ⟨mw_Store_count, rb_inG 1172 (by decide +kernel) rfl, rb_inG 1173 (by decide +kernel) rfl, rb_inG 1174 (by decide +kernel) rfl, by decide, by decide, _, rfl, rfl⟩
theorem d_RB_names_0 : decode prog_1_method_9_code 0 = .ok (.aload_n 0, 1) := by decide +kernel
theorem d_RB_names_1 : decode prog_1_method_9_code 1 = .ok (.getfield 21, 3) := by decide +kernel
theorem d_RB_names_4 : decode prog_1_method_9_code 4 = .ok (.invokevirtual 151, 3) := by decide +kernel
theorem d_RB_names_7 : decode prog_1_method_9_code 7 = .ok (.ireturn, 1) := by decide +kernel
noncomputable def f_RB_names (r0 : Option Nat) (σ : rb_St) : Option rb_Rs :=
  (rb_gR σ r0 1 1).bind fun r_1 => (rb_fc σ r_1 3).bind fun _ => rb_cI (f_Store_count (r_1)  σ) fun x_2 σ_3 => some (some (.int x_2), σ_3)
theorem s_RB_names {E : rb_EV} {d : Nat} (hdd : 1 ≤ d) (r0 : Option Nat) (σ : rb_St) : rb_Does E k_RB_names d [va_rf r0] σ (f_RB_names r0 σ) := by
  refine rb_start (lv := [some (va_rf r0)]) (by decide) (by simp [lg_sl, rb_as, lv_args, rb_cat_r, rb_cat_i, rb_cat_l, rb_nL, k_RB_names]) (fun res => ?_)
  unfold f_RB_names
  refine rb_TC.mono (rk_aload_n 0 d_RB_names_0 rfl rfl) ?_
  refine rt_gR r0 fw_RB_21 d_RB_names_1 (fun r_1 => ?_)
  refine rt_vI (As := []) (st := []) (r_1) vw_RB_151 (s_Store_count (Nat.le_refl _) (r_1)  σ) (Nat.le_trans (by decide) hdd) rfl (by simp [rb_cat_r, rb_cat_i, rb_cat_l]) d_RB_names_4 (fun x_2 σ_3 => ?_)
  exact rt_iret (ty := .int) rfl rfl (fun h => h) d_RB_names_7
-- ===== RuleBuilder.nameAt(II)I
def k_RB_nameAt : rb_MK := (⟨"RuleBuilder", "nameAt", "(II)I"⟩, prog_1_method_10_code, 4, some (.int))
theorem mw_RB_nameAt : rb_Mw k_RB_nameAt 2 := ⟨rb_inG 1179 (by decide +kernel) rfl, rb_inG 85 (by decide +kernel) rfl, ⟨by decide, by decide, by decide +kernel⟩, by decide⟩
theorem fw_RB_157 : rb_Fw "RuleBuilder" 157 12 1 := ⟨_, rfl, by decide, by decide, by decide, rfl, rb_inG 883 (by decide +kernel) rfl⟩
theorem vw_RB_154 : rb_Vw "RuleBuilder" 154 k_Store_at 3 1 := ⟨mw_Store_at, rb_inG 1180 (by decide +kernel) rfl, rb_inG 1181 (by decide +kernel) rfl, rb_inG 1182 (by decide +kernel) rfl, by decide, by decide, _, rfl, rfl⟩
theorem vw_RB_161 : rb_Vw "RuleBuilder" 161 k_Str_length 14 0 := ⟨mw_Str_length, rb_inG 1184 (by decide +kernel) rfl, rb_inG 590 (by decide +kernel) rfl, rb_inG 591 (by decide +kernel) rfl, by decide, by decide, _, rfl, rfl⟩
theorem vw_RB_164 : rb_Vw "RuleBuilder" 164 k_Str_charAt 14 1 := ⟨mw_Str_charAt, rb_inG 1185 (by decide +kernel) rfl, rb_inG 598 (by decide +kernel) rfl, rb_inG 599 (by decide +kernel) rfl, by decide, by decide, _, rfl, rfl⟩
theorem d_RB_nameAt_0 : decode prog_1_method_10_code 0 = .ok (.aload_n 0, 1) := by decide +kernel
theorem d_RB_nameAt_1 : decode prog_1_method_10_code 1 = .ok (.getfield 21, 3) := by decide +kernel
theorem d_RB_nameAt_4 : decode prog_1_method_10_code 4 = .ok (.iload_n 1, 1) := by decide +kernel
theorem d_RB_nameAt_5 : decode prog_1_method_10_code 5 = .ok (.invokevirtual 154, 3) := by decide +kernel
theorem d_RB_nameAt_8 : decode prog_1_method_10_code 8 = .ok (.astore_n 3, 1) := by decide +kernel
theorem d_RB_nameAt_9 : decode prog_1_method_10_code 9 = .ok (.aload_n 3, 1) := by decide +kernel
theorem d_RB_nameAt_10 : decode prog_1_method_10_code 10 = .ok (.ifnull 18, 3) := by decide +kernel
theorem d_RB_nameAt_13 : decode prog_1_method_10_code 13 = .ok (.iload_n 2, 1) := by decide +kernel
theorem d_RB_nameAt_14 : decode prog_1_method_10_code 14 = .ok (.ifCond .lt 14, 3) := by decide +kernel
theorem d_RB_nameAt_17 : decode prog_1_method_10_code 17 = .ok (.iload_n 2, 1) := by decide +kernel
theorem d_RB_nameAt_18 : decode prog_1_method_10_code 18 = .ok (.aload_n 3, 1) := by decide +kernel
theorem d_RB_nameAt_19 : decode prog_1_method_10_code 19 = .ok (.getfield 157, 3) := by decide +kernel
theorem d_RB_nameAt_22 : decode prog_1_method_10_code 22 = .ok (.invokevirtual 161, 3) := by decide +kernel
theorem d_RB_nameAt_25 : decode prog_1_method_10_code 25 = .ok (.if_icmp .lt 5, 3) := by decide +kernel
theorem d_RB_nameAt_28 : decode prog_1_method_10_code 28 = .ok (.iconst (-1), 1) := by decide +kernel
theorem d_RB_nameAt_29 : decode prog_1_method_10_code 29 = .ok (.ireturn, 1) := by decide +kernel
theorem d_RB_nameAt_30 : decode prog_1_method_10_code 30 = .ok (.aload_n 3, 1) := by decide +kernel
theorem d_RB_nameAt_31 : decode prog_1_method_10_code 31 = .ok (.getfield 157, 3) := by decide +kernel
theorem d_RB_nameAt_34 : decode prog_1_method_10_code 34 = .ok (.iload_n 2, 1) := by decide +kernel
theorem d_RB_nameAt_35 : decode prog_1_method_10_code 35 = .ok (.invokevirtual 164, 3) := by decide +kernel
theorem d_RB_nameAt_38 : decode prog_1_method_10_code 38 = .ok (.ireturn, 1) := by decide +kernel
noncomputable def f_RB_nameAt (r0 : Option Nat) (x1 : Int32) (x2 : Int32) (σ : rb_St) : Option rb_Rs :=
  (rb_gR σ r0 1 1).bind fun r_1 => (rb_fc σ r_1 3).bind fun _ => rb_cR (f_Store_at (r_1) (x1) σ) fun r_2 σ_3 => if r_2 = none then (some (some (.int (-1 : Int32)), σ_3)) else (if x2 < 0 then (some (some (.int (-1 : Int32)), σ_3)) else ((rb_gR σ_3 r_2 12 1).bind fun r_4 => (rb_fc σ_3 r_4 14).bind fun _ => rb_cI (f_Str_length (r_4)  σ_3) fun x_5 σ_6 => if x2 < x_5 then ((rb_gR σ_6 r_2 12 1).bind fun r_7 => (rb_fc σ_6 r_7 14).bind fun _ => rb_cI (f_Str_charAt (r_7) (x2) σ_6) fun x_8 σ_9 => some (some (.int x_8), σ_9)) else (some (some (.int (-1 : Int32)), σ_6))))
theorem s_RB_nameAt {E : rb_EV} {d : Nat} (hdd : 4 ≤ d) (r0 : Option Nat) (x1 : Int32) (x2 : Int32) (σ : rb_St) : rb_Does E k_RB_nameAt d [va_rf r0, .int x1, .int x2] σ (f_RB_nameAt r0 x1 x2 σ) := by
  refine rb_start (lv := [some (va_rf r0), some (.int x1), some (.int x2), none]) (by decide) (by simp [lg_sl, rb_as, lv_args, rb_cat_r, rb_cat_i, rb_cat_l, rb_nL, k_RB_nameAt]) (fun res => ?_)
  unfold f_RB_nameAt
  refine rb_TC.mono (rk_aload_n 0 d_RB_nameAt_0 rfl rfl) ?_
  refine rt_gR r0 fw_RB_21 d_RB_nameAt_1 (fun r_1 => ?_)
  refine rb_TC.mono (rk_iload_n 1 d_RB_nameAt_4 rfl rfl) ?_
  refine rt_vR (As := [.int x1]) (st := []) (r_1) vw_RB_154 (s_Store_at (Nat.le_refl _) (r_1) (x1) σ) (Nat.le_trans (by decide) hdd) rfl (by simp [rb_cat_r, rb_cat_i, rb_cat_l]) d_RB_nameAt_5 (fun r_2 σ_3 => ?_)
  refine rb_TC.mono (rk_astore_n (lv2 := [some (va_rf r0), some (.int x1), some (.int x2), some (va_rf r_2)]) 3 d_RB_nameAt_8 rfl (by decide) (fun _ => rb_one_i) rfl) ?_
  refine rb_TC.mono (rk_aload_n 3 d_RB_nameAt_9 rfl rfl) ?_
  refine rt_ifnull 28 d_RB_nameAt_10 (by decide) (fun _ => ?_) (fun _ => ?_)
  · refine rb_TC.mono (rk_iconst (-1 : Int32) d_RB_nameAt_28 (by decide)) ?_
    exact rt_iret (ty := .int) rfl rfl (fun h => h) d_RB_nameAt_29
  · refine rb_TC.mono (rk_iload_n 2 d_RB_nameAt_13 rfl rfl) ?_
    refine rt_if_lt 28 d_RB_nameAt_14 (by decide) (fun _ => ?_) (fun _ => ?_)
    · refine rb_TC.mono (rk_iconst (-1 : Int32) d_RB_nameAt_28 (by decide)) ?_
      exact rt_iret (ty := .int) rfl rfl (fun h => h) d_RB_nameAt_29
    · refine rb_TC.mono (rk_iload_n 2 d_RB_nameAt_17 rfl rfl) ?_
      refine rb_TC.mono (rk_aload_n 3 d_RB_nameAt_18 rfl rfl) ?_
      refine rt_gR r_2 fw_RB_157 d_RB_nameAt_19 (fun r_4 => ?_)
      refine rt_vI (As := []) (st := [.int x2]) (r_4) vw_RB_161 (s_Str_length (Nat.le_refl _) (r_4)  σ_3) (Nat.le_trans (by decide) hdd) rfl (by simp [rb_cat_r, rb_cat_i, rb_cat_l]) d_RB_nameAt_22 (fun x_5 σ_6 => ?_)
      refine rt_icmp_lt 30 d_RB_nameAt_25 (by decide) (fun _ => ?_) (fun _ => ?_)
      · refine rb_TC.mono (rk_aload_n 3 d_RB_nameAt_30 rfl rfl) ?_
        refine rt_gR r_2 fw_RB_157 d_RB_nameAt_31 (fun r_7 => ?_)
        refine rb_TC.mono (rk_iload_n 2 d_RB_nameAt_34 rfl rfl) ?_
        refine rt_vI (As := [.int x2]) (st := []) (r_7) vw_RB_164 (s_Str_charAt (Nat.le_refl _) (r_7) (x2) σ_6) (Nat.le_trans (by decide) hdd) rfl (by simp [rb_cat_r, rb_cat_i, rb_cat_l]) d_RB_nameAt_35 (fun x_8 σ_9 => ?_)
        exact rt_iret (ty := .int) rfl rfl (fun h => h) d_RB_nameAt_38
      · refine rb_TC.mono (rk_iconst (-1 : Int32) d_RB_nameAt_28 (by decide)) ?_
        exact rt_iret (ty := .int) rfl rfl (fun h => h) d_RB_nameAt_29
-- ===== RuleBuilder.time(I)I
def k_RB_time : rb_MK := (⟨"RuleBuilder", "time", "(I)I"⟩, prog_1_method_11_code, 3, some (.int))
theorem mw_RB_time : rb_Mw k_RB_time 1 := ⟨rb_inG 1189 (by decide +kernel) rfl, rb_inG 85 (by decide +kernel) rfl, ⟨by decide, by decide, by decide +kernel⟩, by decide⟩
theorem fw_RB_167 : rb_Fw "RuleBuilder" 167 12 2 := ⟨_, rfl, by decide, by decide, by decide, rfl, rb_inG 887 (by decide +kernel) rfl⟩
theorem d_RB_time_0 : decode prog_1_method_11_code 0 = .ok (.aload_n 0, 1) := by decide +kernel
theorem d_RB_time_1 : decode prog_1_method_11_code 1 = .ok (.getfield 21, 3) := by decide +kernel
theorem d_RB_time_4 : decode prog_1_method_11_code 4 = .ok (.iload_n 1, 1) := by decide +kernel
theorem d_RB_time_5 : decode prog_1_method_11_code 5 = .ok (.invokevirtual 154, 3) := by decide +kernel
theorem d_RB_time_8 : decode prog_1_method_11_code 8 = .ok (.astore_n 2, 1) := by decide +kernel
theorem d_RB_time_9 : decode prog_1_method_11_code 9 = .ok (.aload_n 2, 1) := by decide +kernel
theorem d_RB_time_10 : decode prog_1_method_11_code 10 = .ok (.ifnonnull 7, 3) := by decide +kernel
theorem d_RB_time_13 : decode prog_1_method_11_code 13 = .ok (.iconst (-1), 1) := by decide +kernel
theorem d_RB_time_14 : decode prog_1_method_11_code 14 = .ok (.goto 7, 3) := by decide +kernel
theorem d_RB_time_17 : decode prog_1_method_11_code 17 = .ok (.aload_n 2, 1) := by decide +kernel
theorem d_RB_time_18 : decode prog_1_method_11_code 18 = .ok (.getfield 167, 3) := by decide +kernel
theorem d_RB_time_21 : decode prog_1_method_11_code 21 = .ok (.ireturn, 1) := by decide +kernel
noncomputable def f_RB_time (r0 : Option Nat) (x1 : Int32) (σ : rb_St) : Option rb_Rs :=
  (rb_gR σ r0 1 1).bind fun r_1 => (rb_fc σ r_1 3).bind fun _ => rb_cR (f_Store_at (r_1) (x1) σ) fun r_2 σ_3 => if r_2 = none then (some (some (.int (-1 : Int32)), σ_3)) else ((rb_gI σ_3 r_2 12 2).bind fun x_4 => some (some (.int x_4), σ_3))
theorem s_RB_time {E : rb_EV} {d : Nat} (hdd : 1 ≤ d) (r0 : Option Nat) (x1 : Int32) (σ : rb_St) : rb_Does E k_RB_time d [va_rf r0, .int x1] σ (f_RB_time r0 x1 σ) := by
  refine rb_start (lv := [some (va_rf r0), some (.int x1), none]) (by decide) (by simp [lg_sl, rb_as, lv_args, rb_cat_r, rb_cat_i, rb_cat_l, rb_nL, k_RB_time]) (fun res => ?_)
  unfold f_RB_time
  refine rb_TC.mono (rk_aload_n 0 d_RB_time_0 rfl rfl) ?_
  refine rt_gR r0 fw_RB_21 d_RB_time_1 (fun r_1 => ?_)
  refine rb_TC.mono (rk_iload_n 1 d_RB_time_4 rfl rfl) ?_
  refine rt_vR (As := [.int x1]) (st := []) (r_1) vw_RB_154 (s_Store_at (Nat.le_refl _) (r_1) (x1) σ) (Nat.le_trans (by decide) hdd) rfl (by simp [rb_cat_r, rb_cat_i, rb_cat_l]) d_RB_time_5 (fun r_2 σ_3 => ?_)
  refine rb_TC.mono (rk_astore_n (lv2 := [some (va_rf r0), some (.int x1), some (va_rf r_2)]) 2 d_RB_time_8 rfl (by decide) (fun _ => rb_one_i) rfl) ?_
  refine rb_TC.mono (rk_aload_n 2 d_RB_time_9 rfl rfl) ?_
  refine rt_ifnonnull 17 d_RB_time_10 (by decide) (fun _ => ?_) (fun _ => ?_)
  · refine rb_TC.mono (rk_iconst (-1 : Int32) d_RB_time_13 (by decide)) ?_
    refine rb_TC.mono (rk_goto 21 d_RB_time_14 (by decide)) ?_
    exact rt_iret (ty := .int) rfl rfl (fun h => h) d_RB_time_21
  · refine rb_TC.mono (rk_aload_n 2 d_RB_time_17 rfl rfl) ?_
    refine rt_gI r_2 fw_RB_167 d_RB_time_18 (fun x_4 => ?_)
    exact rt_iret (ty := .int) rfl rfl (fun h => h) d_RB_time_21
-- ===== RuleBuilder.content(I)I
def k_RB_content : rb_MK := (⟨"RuleBuilder", "content", "(I)I"⟩, prog_1_method_12_code, 3, some (.int))
theorem mw_RB_content : rb_Mw k_RB_content 1 := ⟨rb_inG 1193 (by decide +kernel) rfl, rb_inG 85 (by decide +kernel) rfl, ⟨by decide, by decide, by decide +kernel⟩, by decide⟩
theorem fw_RB_170 : rb_Fw "RuleBuilder" 170 12 3 := ⟨_, rfl, by decide, by decide, by decide, rfl, rb_inG 892 (by decide +kernel) rfl⟩
theorem d_RB_content_0 : decode prog_1_method_12_code 0 = .ok (.aload_n 0, 1) := by decide +kernel
theorem d_RB_content_1 : decode prog_1_method_12_code 1 = .ok (.getfield 21, 3) := by decide +kernel
theorem d_RB_content_4 : decode prog_1_method_12_code 4 = .ok (.iload_n 1, 1) := by decide +kernel
theorem d_RB_content_5 : decode prog_1_method_12_code 5 = .ok (.invokevirtual 154, 3) := by decide +kernel
theorem d_RB_content_8 : decode prog_1_method_12_code 8 = .ok (.astore_n 2, 1) := by decide +kernel
theorem d_RB_content_9 : decode prog_1_method_12_code 9 = .ok (.aload_n 2, 1) := by decide +kernel
theorem d_RB_content_10 : decode prog_1_method_12_code 10 = .ok (.ifnonnull 7, 3) := by decide +kernel
theorem d_RB_content_13 : decode prog_1_method_12_code 13 = .ok (.iconst 0, 1) := by decide +kernel
theorem d_RB_content_14 : decode prog_1_method_12_code 14 = .ok (.goto 7, 3) := by decide +kernel
theorem d_RB_content_17 : decode prog_1_method_12_code 17 = .ok (.aload_n 2, 1) := by decide +kernel
theorem d_RB_content_18 : decode prog_1_method_12_code 18 = .ok (.getfield 170, 3) := by decide +kernel
theorem d_RB_content_21 : decode prog_1_method_12_code 21 = .ok (.ireturn, 1) := by decide +kernel
noncomputable def f_RB_content (r0 : Option Nat) (x1 : Int32) (σ : rb_St) : Option rb_Rs :=
  (rb_gR σ r0 1 1).bind fun r_1 => (rb_fc σ r_1 3).bind fun _ => rb_cR (f_Store_at (r_1) (x1) σ) fun r_2 σ_3 => if r_2 = none then (some (some (.int (0 : Int32)), σ_3)) else ((rb_gI σ_3 r_2 12 3).bind fun x_4 => some (some (.int x_4), σ_3))
theorem s_RB_content {E : rb_EV} {d : Nat} (hdd : 1 ≤ d) (r0 : Option Nat) (x1 : Int32) (σ : rb_St) : rb_Does E k_RB_content d [va_rf r0, .int x1] σ (f_RB_content r0 x1 σ) := by
  refine rb_start (lv := [some (va_rf r0), some (.int x1), none]) (by decide) (by simp [lg_sl, rb_as, lv_args, rb_cat_r, rb_cat_i, rb_cat_l, rb_nL, k_RB_content]) (fun res => ?_)
  unfold f_RB_content
  refine rb_TC.mono (rk_aload_n 0 d_RB_content_0 rfl rfl) ?_
  refine rt_gR r0 fw_RB_21 d_RB_content_1 (fun r_1 => ?_)
  refine rb_TC.mono (rk_iload_n 1 d_RB_content_4 rfl rfl) ?_
  refine rt_vR (As := [.int x1]) (st := []) (r_1) vw_RB_154 (s_Store_at (Nat.le_refl _) (r_1) (x1) σ) (Nat.le_trans (by decide) hdd) rfl (by simp [rb_cat_r, rb_cat_i, rb_cat_l]) d_RB_content_5 (fun r_2 σ_3 => ?_)
  refine rb_TC.mono (rk_astore_n (lv2 := [some (va_rf r0), some (.int x1), some (va_rf r_2)]) 2 d_RB_content_8 rfl (by decide) (fun _ => rb_one_i) rfl) ?_
  refine rb_TC.mono (rk_aload_n 2 d_RB_content_9 rfl rfl) ?_
  refine rt_ifnonnull 17 d_RB_content_10 (by decide) (fun _ => ?_) (fun _ => ?_)
  · refine rb_TC.mono (rk_iconst (0 : Int32) d_RB_content_13 (by decide)) ?_
    refine rb_TC.mono (rk_goto 21 d_RB_content_14 (by decide)) ?_
    exact rt_iret (ty := .int) rfl rfl (fun h => h) d_RB_content_21
  · refine rb_TC.mono (rk_aload_n 2 d_RB_content_17 rfl rfl) ?_
    refine rt_gI r_2 fw_RB_170 d_RB_content_18 (fun x_4 => ?_)
    exact rt_iret (ty := .int) rfl rfl (fun h => h) d_RB_content_21
-- ===== RuleBuilder.fate(I)I
def k_RB_fate : rb_MK := (⟨"RuleBuilder", "fate", "(I)I"⟩, prog_1_method_13_code, 3, some (.int))
theorem mw_RB_fate : rb_Mw k_RB_fate 1 := ⟨rb_inG 1197 (by decide +kernel) rfl, rb_inG 85 (by decide +kernel) rfl, ⟨by decide, by decide, by decide +kernel⟩, by decide⟩
theorem fw_RB_173 : rb_Fw "RuleBuilder" 173 12 10 := ⟨_, rfl, by decide, by decide, by decide, rfl, rb_inG 914 (by decide +kernel) rfl⟩
theorem d_RB_fate_0 : decode prog_1_method_13_code 0 = .ok (.aload_n 0, 1) := by decide +kernel
theorem d_RB_fate_1 : decode prog_1_method_13_code 1 = .ok (.getfield 21, 3) := by decide +kernel
theorem d_RB_fate_4 : decode prog_1_method_13_code 4 = .ok (.iload_n 1, 1) := by decide +kernel
theorem d_RB_fate_5 : decode prog_1_method_13_code 5 = .ok (.invokevirtual 154, 3) := by decide +kernel
theorem d_RB_fate_8 : decode prog_1_method_13_code 8 = .ok (.astore_n 2, 1) := by decide +kernel
theorem d_RB_fate_9 : decode prog_1_method_13_code 9 = .ok (.aload_n 2, 1) := by decide +kernel
theorem d_RB_fate_10 : decode prog_1_method_13_code 10 = .ok (.ifnonnull 7, 3) := by decide +kernel
theorem d_RB_fate_13 : decode prog_1_method_13_code 13 = .ok (.iconst (-1), 1) := by decide +kernel
theorem d_RB_fate_14 : decode prog_1_method_13_code 14 = .ok (.goto 7, 3) := by decide +kernel
theorem d_RB_fate_17 : decode prog_1_method_13_code 17 = .ok (.aload_n 2, 1) := by decide +kernel
theorem d_RB_fate_18 : decode prog_1_method_13_code 18 = .ok (.getfield 173, 3) := by decide +kernel
theorem d_RB_fate_21 : decode prog_1_method_13_code 21 = .ok (.ireturn, 1) := by decide +kernel
noncomputable def f_RB_fate (r0 : Option Nat) (x1 : Int32) (σ : rb_St) : Option rb_Rs :=
  (rb_gR σ r0 1 1).bind fun r_1 => (rb_fc σ r_1 3).bind fun _ => rb_cR (f_Store_at (r_1) (x1) σ) fun r_2 σ_3 => if r_2 = none then (some (some (.int (-1 : Int32)), σ_3)) else ((rb_gI σ_3 r_2 12 10).bind fun x_4 => some (some (.int x_4), σ_3))
theorem s_RB_fate {E : rb_EV} {d : Nat} (hdd : 1 ≤ d) (r0 : Option Nat) (x1 : Int32) (σ : rb_St) : rb_Does E k_RB_fate d [va_rf r0, .int x1] σ (f_RB_fate r0 x1 σ) := by
  refine rb_start (lv := [some (va_rf r0), some (.int x1), none]) (by decide) (by simp [lg_sl, rb_as, lv_args, rb_cat_r, rb_cat_i, rb_cat_l, rb_nL, k_RB_fate]) (fun res => ?_)
  unfold f_RB_fate
  refine rb_TC.mono (rk_aload_n 0 d_RB_fate_0 rfl rfl) ?_
  refine rt_gR r0 fw_RB_21 d_RB_fate_1 (fun r_1 => ?_)
  refine rb_TC.mono (rk_iload_n 1 d_RB_fate_4 rfl rfl) ?_
  refine rt_vR (As := [.int x1]) (st := []) (r_1) vw_RB_154 (s_Store_at (Nat.le_refl _) (r_1) (x1) σ) (Nat.le_trans (by decide) hdd) rfl (by simp [rb_cat_r, rb_cat_i, rb_cat_l]) d_RB_fate_5 (fun r_2 σ_3 => ?_)
  refine rb_TC.mono (rk_astore_n (lv2 := [some (va_rf r0), some (.int x1), some (va_rf r_2)]) 2 d_RB_fate_8 rfl (by decide) (fun _ => rb_one_i) rfl) ?_
  refine rb_TC.mono (rk_aload_n 2 d_RB_fate_9 rfl rfl) ?_
  refine rt_ifnonnull 17 d_RB_fate_10 (by decide) (fun _ => ?_) (fun _ => ?_)
  · refine rb_TC.mono (rk_iconst (-1 : Int32) d_RB_fate_13 (by decide)) ?_
    refine rb_TC.mono (rk_goto 21 d_RB_fate_14 (by decide)) ?_
    exact rt_iret (ty := .int) rfl rfl (fun h => h) d_RB_fate_21
  · refine rb_TC.mono (rk_aload_n 2 d_RB_fate_17 rfl rfl) ?_
    refine rt_gI r_2 fw_RB_173 d_RB_fate_18 (fun x_4 => ?_)
    exact rt_iret (ty := .int) rfl rfl (fun h => h) d_RB_fate_21
-- ===== RuleBuilder.done()I
def k_RB_done : rb_MK := (⟨"RuleBuilder", "done", "()I"⟩, prog_1_method_14_code, 1, some (.int))
theorem mw_RB_done : rb_Mw k_RB_done 0 := ⟨rb_inG 1201 (by decide +kernel) rfl, rb_inG 85 (by decide +kernel) rfl, ⟨by decide, by decide, by decide +kernel⟩, by decide⟩
theorem fw_RB_176 : rb_Fw "RuleBuilder" 176 9 7 := ⟨_, rfl, by decide, by decide, by decide, rfl, rb_inG 344 (by decide +kernel) rfl⟩
theorem d_RB_done_0 : decode prog_1_method_14_code 0 = .ok (.aload_n 0, 1) := by decide +kernel
theorem d_RB_done_1 : decode prog_1_method_14_code 1 = .ok (.getfield 74, 3) := by decide +kernel
theorem d_RB_done_4 : decode prog_1_method_14_code 4 = .ok (.getfield 176, 3) := by decide +kernel
theorem d_RB_done_7 : decode prog_1_method_14_code 7 = .ok (.ireturn, 1) := by decide +kernel
noncomputable def f_RB_done (r0 : Option Nat) (σ : rb_St) : Option rb_Rs :=
  (rb_gR σ r0 1 7).bind fun r_1 => (rb_gI σ r_1 9 7).bind fun x_2 => some (some (.int x_2), σ)
theorem s_RB_done {E : rb_EV} {d : Nat} (hdd : 0 ≤ d) (r0 : Option Nat) (σ : rb_St) : rb_Does E k_RB_done d [va_rf r0] σ (f_RB_done r0 σ) := by
  refine rb_start (lv := [some (va_rf r0)]) (by decide) (by simp [lg_sl, rb_as, lv_args, rb_cat_r, rb_cat_i, rb_cat_l, rb_nL, k_RB_done]) (fun res => ?_)
  unfold f_RB_done
  refine rb_TC.mono (rk_aload_n 0 d_RB_done_0 rfl rfl) ?_
  refine rt_gR r0 fw_RB_74 d_RB_done_1 (fun r_1 => ?_)
  refine rt_gI r_1 fw_RB_176 d_RB_done_4 (fun x_2 => ?_)
  exact rt_iret (ty := .int) rfl rfl (fun h => h) d_RB_done_7
-- ===== RuleBuilder.printed()I
def k_RB_printed : rb_MK := (⟨"RuleBuilder", "printed", "()I"⟩, prog_1_method_15_code, 1, some (.int))
theorem mw_RB_printed : rb_Mw k_RB_printed 0 := ⟨rb_inG 1205 (by decide +kernel) rfl, rb_inG 85 (by decide +kernel) rfl, ⟨by decide, by decide, by decide +kernel⟩, by decide⟩
theorem fw_RB_179 : rb_Fw "RuleBuilder" 179 7 0 := ⟨_, rfl, by decide, by decide, by decide, rfl, rb_inG 285 (by decide +kernel) rfl⟩
theorem d_RB_printed_0 : decode prog_1_method_15_code 0 = .ok (.aload_n 0, 1) := by decide +kernel
theorem d_RB_printed_1 : decode prog_1_method_15_code 1 = .ok (.getfield 56, 3) := by decide +kernel
theorem d_RB_printed_4 : decode prog_1_method_15_code 4 = .ok (.getfield 179, 3) := by decide +kernel
theorem d_RB_printed_7 : decode prog_1_method_15_code 7 = .ok (.invokevirtual 85, 3) := by decide +kernel
theorem d_RB_printed_10 : decode prog_1_method_15_code 10 = .ok (.ireturn, 1) := by decide +kernel
noncomputable def f_RB_printed (r0 : Option Nat) (σ : rb_St) : Option rb_Rs :=
  (rb_gR σ r0 1 5).bind fun r_1 => (rb_gR σ r_1 7 0).bind fun r_2 => (rb_fc σ r_2 2).bind fun _ => rb_cI (f_Text_length (r_2)  σ) fun x_3 σ_4 => some (some (.int x_3), σ_4)
theorem s_RB_printed {E : rb_EV} {d : Nat} (hdd : 1 ≤ d) (r0 : Option Nat) (σ : rb_St) : rb_Does E k_RB_printed d [va_rf r0] σ (f_RB_printed r0 σ) := by
  refine rb_start (lv := [some (va_rf r0)]) (by decide) (by simp [lg_sl, rb_as, lv_args, rb_cat_r, rb_cat_i, rb_cat_l, rb_nL, k_RB_printed]) (fun res => ?_)
  unfold f_RB_printed
  refine rb_TC.mono (rk_aload_n 0 d_RB_printed_0 rfl rfl) ?_
  refine rt_gR r0 fw_RB_56 d_RB_printed_1 (fun r_1 => ?_)
  refine rt_gR r_1 fw_RB_179 d_RB_printed_4 (fun r_2 => ?_)
  refine rt_vI (As := []) (st := []) (r_2) vw_RB_85 (s_Text_length (Nat.le_refl _) (r_2)  σ) (Nat.le_trans (by decide) hdd) rfl (by simp [rb_cat_r, rb_cat_i, rb_cat_l]) d_RB_printed_7 (fun x_3 σ_4 => ?_)
  exact rt_iret (ty := .int) rfl rfl (fun h => h) d_RB_printed_10
-- ===== RuleBuilder.printedAt(I)I
def k_RB_printedAt : rb_MK := (⟨"RuleBuilder", "printedAt", "(I)I"⟩, prog_1_method_16_code, 2, some (.int))
theorem mw_RB_printedAt : rb_Mw k_RB_printedAt 1 := ⟨rb_inG 1209 (by decide +kernel) rfl, rb_inG 85 (by decide +kernel) rfl, ⟨by decide, by decide, by decide +kernel⟩, by decide⟩
theorem d_RB_printedAt_0 : decode prog_1_method_16_code 0 = .ok (.iload_n 1, 1) := by decide +kernel
theorem d_RB_printedAt_1 : decode prog_1_method_16_code 1 = .ok (.ifCond .lt 17, 3) := by decide +kernel
theorem d_RB_printedAt_4 : decode prog_1_method_16_code 4 = .ok (.iload_n 1, 1) := by decide +kernel
theorem d_RB_printedAt_5 : decode prog_1_method_16_code 5 = .ok (.aload_n 0, 1) := by decide +kernel
theorem d_RB_printedAt_6 : decode prog_1_method_16_code 6 = .ok (.getfield 56, 3) := by decide +kernel
theorem d_RB_printedAt_9 : decode prog_1_method_16_code 9 = .ok (.getfield 179, 3) := by decide +kernel
theorem d_RB_printedAt_12 : decode prog_1_method_16_code 12 = .ok (.invokevirtual 85, 3) := by decide +kernel
theorem d_RB_printedAt_15 : decode prog_1_method_16_code 15 = .ok (.if_icmp .lt 7, 3) := by decide +kernel
theorem d_RB_printedAt_18 : decode prog_1_method_16_code 18 = .ok (.iconst (-1), 1) := by decide +kernel
theorem d_RB_printedAt_19 : decode prog_1_method_16_code 19 = .ok (.goto 14, 3) := by decide +kernel
theorem d_RB_printedAt_22 : decode prog_1_method_16_code 22 = .ok (.aload_n 0, 1) := by decide +kernel
theorem d_RB_printedAt_23 : decode prog_1_method_16_code 23 = .ok (.getfield 56, 3) := by decide +kernel
theorem d_RB_printedAt_26 : decode prog_1_method_16_code 26 = .ok (.getfield 179, 3) := by decide +kernel
theorem d_RB_printedAt_29 : decode prog_1_method_16_code 29 = .ok (.iload_n 1, 1) := by decide +kernel
theorem d_RB_printedAt_30 : decode prog_1_method_16_code 30 = .ok (.invokevirtual 97, 3) := by decide +kernel
theorem d_RB_printedAt_33 : decode prog_1_method_16_code 33 = .ok (.ireturn, 1) := by decide +kernel
noncomputable def f_RB_printedAt (r0 : Option Nat) (x1 : Int32) (σ : rb_St) : Option rb_Rs :=
  if x1 < 0 then (some (some (.int (-1 : Int32)), σ)) else ((rb_gR σ r0 1 5).bind fun r_1 => (rb_gR σ r_1 7 0).bind fun r_2 => (rb_fc σ r_2 2).bind fun _ => rb_cI (f_Text_length (r_2)  σ) fun x_3 σ_4 => if x1 < x_3 then ((rb_gR σ_4 r0 1 5).bind fun r_5 => (rb_gR σ_4 r_5 7 0).bind fun r_6 => (rb_fc σ_4 r_6 2).bind fun _ => rb_cI (f_Text_at (r_6) (x1) σ_4) fun x_7 σ_8 => some (some (.int x_7), σ_8)) else (some (some (.int (-1 : Int32)), σ_4)))
theorem s_RB_printedAt {E : rb_EV} {d : Nat} (hdd : 1 ≤ d) (r0 : Option Nat) (x1 : Int32) (σ : rb_St) : rb_Does E k_RB_printedAt d [va_rf r0, .int x1] σ (f_RB_printedAt r0 x1 σ) := by
  refine rb_start (lv := [some (va_rf r0), some (.int x1)]) (by decide) (by simp [lg_sl, rb_as, lv_args, rb_cat_r, rb_cat_i, rb_cat_l, rb_nL, k_RB_printedAt]) (fun res => ?_)
  unfold f_RB_printedAt
  refine rb_TC.mono (rk_iload_n 1 d_RB_printedAt_0 rfl rfl) ?_
  refine rt_if_lt 18 d_RB_printedAt_1 (by decide) (fun _ => ?_) (fun _ => ?_)
  · refine rb_TC.mono (rk_iconst (-1 : Int32) d_RB_printedAt_18 (by decide)) ?_
    refine rb_TC.mono (rk_goto 33 d_RB_printedAt_19 (by decide)) ?_
    exact rt_iret (ty := .int) rfl rfl (fun h => h) d_RB_printedAt_33
  · refine rb_TC.mono (rk_iload_n 1 d_RB_printedAt_4 rfl rfl) ?_
    refine rb_TC.mono (rk_aload_n 0 d_RB_printedAt_5 rfl rfl) ?_
    refine rt_gR r0 fw_RB_56 d_RB_printedAt_6 (fun r_1 => ?_)
    refine rt_gR r_1 fw_RB_179 d_RB_printedAt_9 (fun r_2 => ?_)
    refine rt_vI (As := []) (st := [.int x1]) (r_2) vw_RB_85 (s_Text_length (Nat.le_refl _) (r_2)  σ) (Nat.le_trans (by decide) hdd) rfl (by simp [rb_cat_r, rb_cat_i, rb_cat_l]) d_RB_printedAt_12 (fun x_3 σ_4 => ?_)
    refine rt_icmp_lt 22 d_RB_printedAt_15 (by decide) (fun _ => ?_) (fun _ => ?_)
    · refine rb_TC.mono (rk_aload_n 0 d_RB_printedAt_22 rfl rfl) ?_
      refine rt_gR r0 fw_RB_56 d_RB_printedAt_23 (fun r_5 => ?_)
      refine rt_gR r_5 fw_RB_179 d_RB_printedAt_26 (fun r_6 => ?_)
      refine rb_TC.mono (rk_iload_n 1 d_RB_printedAt_29 rfl rfl) ?_
      refine rt_vI (As := [.int x1]) (st := []) (r_6) vw_RB_97 (s_Text_at (Nat.le_refl _) (r_6) (x1) σ_4) (Nat.le_trans (by decide) hdd) rfl (by simp [rb_cat_r, rb_cat_i, rb_cat_l]) d_RB_printedAt_30 (fun x_7 σ_8 => ?_)
      exact rt_iret (ty := .int) rfl rfl (fun h => h) d_RB_printedAt_33
    · refine rb_TC.mono (rk_iconst (-1 : Int32) d_RB_printedAt_18 (by decide)) ?_
      refine rb_TC.mono (rk_goto 33 d_RB_printedAt_19 (by decide)) ?_
      exact rt_iret (ty := .int) rfl rfl (fun h => h) d_RB_printedAt_33
