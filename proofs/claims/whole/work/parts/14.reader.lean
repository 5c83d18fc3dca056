-- ===== java/util/Arrays.fill([II)V
def k_Arr_fill : rb_MK := (⟨"java/util/Arrays", "fill", "([II)V"⟩, prog_21_method_103_code, 4, none)
theorem mw_Arr_fill : rb_Mw k_Arr_fill 2 := ⟨rb_inG 726 (by decide +kernel) rfl, rb_inG 102 (by decide +kernel) rfl, ⟨by decide, by decide, by decide +kernel⟩, by decide⟩
theorem d_Arr_fill_0 : decode prog_21_method_103_code 0 = .ok (.iconst 0, 1) := by decide +kernel
theorem d_Arr_fill_1 : decode prog_21_method_103_code 1 = .ok (.istore_n 2, 1) := by decide +kernel
theorem d_Arr_fill_2 : decode prog_21_method_103_code 2 = .ok (.aload_n 0, 1) := by decide +kernel
theorem d_Arr_fill_3 : decode prog_21_method_103_code 3 = .ok (.arraylength, 1) := by decide +kernel
theorem d_Arr_fill_4 : decode prog_21_method_103_code 4 = .ok (.istore_n 3, 1) := by decide +kernel
theorem d_Arr_fill_5 : decode prog_21_method_103_code 5 = .ok (.iload_n 2, 1) := by decide +kernel
theorem d_Arr_fill_6 : decode prog_21_method_103_code 6 = .ok (.iload_n 3, 1) := by decide +kernel
theorem d_Arr_fill_7 : decode prog_21_method_103_code 7 = .ok (.if_icmp .ge 13, 3) := by decide +kernel
theorem d_Arr_fill_10 : decode prog_21_method_103_code 10 = .ok (.aload_n 0, 1) := by decide +kernel
theorem d_Arr_fill_11 : decode prog_21_method_103_code 11 = .ok (.iload_n 2, 1) := by decide +kernel
theorem d_Arr_fill_12 : decode prog_21_method_103_code 12 = .ok (.iload_n 1, 1) := by decide +kernel
theorem d_Arr_fill_13 : decode prog_21_method_103_code 13 = .ok (.iastore, 1) := by decide +kernel
theorem d_Arr_fill_14 : decode prog_21_method_103_code 14 = .ok (.iinc 2 1, 3) := by decide +kernel
theorem d_Arr_fill_17 : decode prog_21_method_103_code 17 = .ok (.goto (-12), 3) := by decide +kernel
theorem d_Arr_fill_20 : decode prog_21_method_103_code 20 = .ok (.return_, 1) := by decide +kernel
noncomputable def f_Arr_fill_b5 (r0 : Option Nat) (x1 : Int32) (x2 : Int32) (x3 : Int32) (σ : rb_St) : Option ((Int32 × rb_St) ⊕ rb_Rs) :=
  if x3 ≤ x2 then ((some (none, σ)).map Sum.inr) else ((rb_sI σ r0 102 x2 x1).bind fun σ_2 => some (.inl ((x2 + 1), σ_2)))
theorem t_Arr_fill_b5 {E : rb_EV} {d : Nat} {σ0 : rb_St} {res : rb_Rs} (hdd : 0 ≤ d)  (r0 : Option Nat) (x1 : Int32) (x2 : Int32) (x3 : Int32) (σ : rb_St) : rb_TC (f_Arr_fill_b5 r0 x1 x2 x3 σ) (Sum.elim (fun z : (Int32 × rb_St) => rb_WK E k_Arr_fill d σ0 res 5 [some (va_rf r0), some (.int x1), some (.int z.1), some (.int x3)] [] z.2) (fun r => r = res)) (rb_WK E k_Arr_fill d σ0 res 5 [some (va_rf r0), some (.int x1), some (.int x2), some (.int x3)] [] σ) := by
  unfold f_Arr_fill_b5
  refine rb_TC.mono (rk_iload_n 2 d_Arr_fill_5 rfl rfl) ?_
  refine rb_TC.mono (rk_iload_n 3 d_Arr_fill_6 rfl rfl) ?_
  refine rt_icmp_ge 20 d_Arr_fill_7 (by decide) (fun _ => ?_) (fun _ => ?_)
  · refine rb_TC.out ?_
    exact rt_vret rfl (fun h => h) d_Arr_fill_20
  · refine rb_TC.mono (rk_aload_n 0 d_Arr_fill_10 rfl rfl) ?_
    refine rb_TC.mono (rk_iload_n 2 d_Arr_fill_11 rfl rfl) ?_
    refine rb_TC.mono (rk_iload_n 1 d_Arr_fill_12 rfl rfl) ?_
    refine rt_iast r0 d_Arr_fill_13 (fun σ_2 => ?_)
    refine rb_TC.mono (rk_iinc (lv2 := [some (va_rf r0), some (.int x1), some (.int (x2 + 1)), some (.int x3)]) (x2 + 1) d_Arr_fill_14 rfl rfl (by decide) (fun _ => rb_one_i) rfl) ?_
    refine rb_TC.mono (rk_goto 5 d_Arr_fill_17 (by decide)) ?_
    exact rb_back
noncomputable def f_Arr_fill (r0 : Option Nat) (x1 : Int32) (σ : rb_St) : Option rb_Rs :=
  (rb_len σ r0 102).bind fun x_1 => rb_it (fun z : (Int32 × rb_St) => f_Arr_fill_b5 (r0) (x1) (z.1) (x_1) z.2) ((0 : Int32), σ)
theorem s_Arr_fill {E : rb_EV} {d : Nat} (hdd : 0 ≤ d) (r0 : Option Nat) (x1 : Int32) (σ : rb_St) : rb_Does E k_Arr_fill d [va_rf r0, .int x1] σ (f_Arr_fill r0 x1 σ) := by
  refine rb_start (lv := [some (va_rf r0), some (.int x1), none, none]) (by decide) (by simp [lg_sl, rb_as, lv_args, rb_cat_r, rb_cat_i, rb_cat_l, rb_nL, k_Arr_fill]) (fun res => ?_)
  unfold f_Arr_fill
  refine rb_TC.mono (rk_iconst (0 : Int32) d_Arr_fill_0 (by decide)) ?_
  refine rb_TC.mono (rk_istore_n (lv2 := [some (va_rf r0), some (.int x1), some (.int (0 : Int32)), none]) 2 d_Arr_fill_1 rfl (by decide) (fun _ => rb_one_i) rfl) ?_
  refine rb_TC.mono (rk_aload_n 0 d_Arr_fill_2 rfl rfl) ?_
  refine rt_len (t := 102) r0 (by decide) d_Arr_fill_3 (fun x_1 => ?_)
  refine rb_TC.mono (rk_istore_n (lv2 := [some (va_rf r0), some (.int x1), some (.int (0 : Int32)), some (.int x_1)]) 3 d_Arr_fill_4 rfl (by decide) (fun _ => rb_one_i) rfl) ?_
  exact rb_TC.loop2 (A := (fun z : (Int32 × rb_St) => rb_WK E k_Arr_fill d σ res 5 [some (va_rf r0), some (.int x1), some (.int z.1), some (.int x_1)] [] z.2)) ((0 : Int32), σ) (fun z => t_Arr_fill_b5 hdd  (r0) (x1) (z.1) (x_1) z.2)
-- ===== RuleBuilder$Expander.expand(Ljava/lang/String;LRuleBuilder$Name;)Z
def k_Exp_expand : rb_MK := (⟨"RuleBuilder$Expander", "expand", "(Ljava/lang/String;LRuleBuilder$Name;)Z"⟩, prog_4_method_7_code, 3, some (.boolean))
theorem mw_Exp_expand : rb_Mw k_Exp_expand 2 := ⟨rb_inG 722 (by decide +kernel) rfl, rb_inG 89 (by decide +kernel) rfl, ⟨by decide, by decide, by decide +kernel⟩, by decide⟩
theorem fp_Exp_expand_45 : rb_Fp k_Exp_expand 45 5 6 (.object "RuleBuilder$Name") ∧ ((∃ n, (.object "RuleBuilder$Name" : FieldType) = .object n) ∨ ∃ t, (.object "RuleBuilder$Name" : FieldType) = .array t) := ⟨⟨fw_Exp_45, rfl, fun q h => by cases h; exact Or.inl rfl⟩, Or.inl ⟨_, rfl⟩⟩
theorem sw_Exp_52 : rb_Sw "RuleBuilder$Expander" 52 k_Arr_fill 2 := ⟨mw_Arr_fill, rb_inG 724 (by decide +kernel) rfl, rb_inG 725 (by decide +kernel) rfl⟩
theorem vw_Exp_49 : rb_Vw "RuleBuilder$Expander" 49 k_Text_clear 2 0 := ⟨mw_Text_clear, rb_inG 723 (by decide +kernel) rfl, rb_inG 400 (by decide +kernel) rfl, rb_inG 401 (by decide +kernel) rfl, by decide, by decide, _, rfl, rfl⟩
theorem d_Exp_expand_0 : decode prog_4_method_7_code 0 = .ok (.aload_n 0, 1) := by decide +kernel
theorem d_Exp_expand_1 : decode prog_4_method_7_code 1 = .ok (.aload_n 2, 1) := by decide +kernel
theorem d_Exp_expand_2 : decode prog_4_method_7_code 2 = .ok (.putfield 45, 3) := by decide +kernel
theorem d_Exp_expand_5 : decode prog_4_method_7_code 5 = .ok (.aload_n 0, 1) := by decide +kernel
theorem d_Exp_expand_6 : decode prog_4_method_7_code 6 = .ok (.getfield 14, 3) := by decide +kernel
theorem d_Exp_expand_9 : decode prog_4_method_7_code 9 = .ok (.invokevirtual 49, 3) := by decide +kernel
theorem d_Exp_expand_12 : decode prog_4_method_7_code 12 = .ok (.aload_n 0, 1) := by decide +kernel
theorem d_Exp_expand_13 : decode prog_4_method_7_code 13 = .ok (.getfield 30, 3) := by decide +kernel
theorem d_Exp_expand_16 : decode prog_4_method_7_code 16 = .ok (.iconst (-1), 1) := by decide +kernel
theorem d_Exp_expand_17 : decode prog_4_method_7_code 17 = .ok (.invokestatic 52, 3) := by decide +kernel
theorem d_Exp_expand_20 : decode prog_4_method_7_code 20 = .ok (.aload_n 0, 1) := by decide +kernel
theorem d_Exp_expand_21 : decode prog_4_method_7_code 21 = .ok (.aload_n 1, 1) := by decide +kernel
theorem d_Exp_expand_22 : decode prog_4_method_7_code 22 = .ok (.iconst 0, 1) := by decide +kernel
theorem d_Exp_expand_23 : decode prog_4_method_7_code 23 = .ok (.invokevirtual 58, 3) := by decide +kernel
theorem d_Exp_expand_26 : decode prog_4_method_7_code 26 = .ok (.ireturn, 1) := by decide +kernel
noncomputable def f_Exp_expand (r0 : Option Nat) (r1 : Option Nat) (r2 : Option Nat) (σ : rb_St) : Option rb_Rs :=
  (rb_pR σ r0 5 6 r2).bind fun σ_1 => (rb_gR σ_1 r0 5 0).bind fun r_2 => (rb_fc σ_1 r_2 2).bind fun _ => rb_cV (f_Text_clear (r_2)  σ_1) fun σ_3 => (rb_gR σ_3 r0 5 4).bind fun r_4 => rb_cV (f_Arr_fill (r_4) ((-1 : Int32)) σ_3) fun σ_5 => (rb_fc σ_5 r0 5).bind fun _ => rb_cI (f_Exp_expandText (r0) (r1) ((0 : Int32)) σ_5) fun x_6 σ_7 => if rb_isZ x_6 then some (some (.int x_6), σ_7) else none
theorem s_Exp_expand {E : rb_EV} {d : Nat} (hdd : 41 ≤ d) (r0 : Option Nat) (r1 : Option Nat) (r2 : Option Nat) (σ : rb_St) : rb_Does E k_Exp_expand d [va_rf r0, va_rf r1, va_rf r2] σ (f_Exp_expand r0 r1 r2 σ) := by
  refine rb_start (lv := [some (va_rf r0), some (va_rf r1), some (va_rf r2)]) (by decide) (by simp [lg_sl, rb_as, lv_args, rb_cat_r, rb_cat_i, rb_cat_l, rb_nL, k_Exp_expand]) (fun res => ?_)
  unfold f_Exp_expand
  refine rb_TC.mono (rk_aload_n 0 d_Exp_expand_0 rfl rfl) ?_
  refine rb_TC.mono (rk_aload_n 2 d_Exp_expand_1 rfl rfl) ?_
  refine rt_pR r0 fp_Exp_expand_45 d_Exp_expand_2 (fun σ_1 => ?_)
  refine rb_TC.mono (rk_aload_n 0 d_Exp_expand_5 rfl rfl) ?_
  refine rt_gR r0 fw_Exp_14 d_Exp_expand_6 (fun r_2 => ?_)
  refine rt_vV (As := []) (st := []) (r_2) vw_Exp_49 (s_Text_clear (Nat.le_refl _) (r_2)  σ_1) (Nat.le_trans (by decide) hdd) rfl (by simp [rb_cat_r, rb_cat_i, rb_cat_l]) d_Exp_expand_9 (fun σ_3 => ?_)
  refine rb_TC.mono (rk_aload_n 0 d_Exp_expand_12 rfl rfl) ?_
  refine rt_gR r0 fw_Exp_30 d_Exp_expand_13 (fun r_4 => ?_)
  refine rb_TC.mono (rk_iconst (-1 : Int32) d_Exp_expand_16 (by decide)) ?_
  refine rt_sV (As := [va_rf r_4, .int (-1 : Int32)]) (st := []) sw_Exp_52 (s_Arr_fill (Nat.le_refl _) (r_4) ((-1 : Int32)) σ_3) (Nat.le_trans (by decide) hdd) rfl (by simp [rb_cat_r, rb_cat_i, rb_cat_l]) d_Exp_expand_17 (fun σ_5 => ?_)
  refine rb_TC.mono (rk_aload_n 0 d_Exp_expand_20 rfl rfl) ?_
  refine rb_TC.mono (rk_aload_n 1 d_Exp_expand_21 rfl rfl) ?_
  refine rb_TC.mono (rk_iconst (0 : Int32) d_Exp_expand_22 (by decide)) ?_
  refine rt_vI (As := [va_rf r1, .int (0 : Int32)]) (st := []) (r0) vw_Exp_58 (s_Exp_expandText (Nat.le_refl _) (r0) (r1) ((0 : Int32)) σ_5) (Nat.le_trans (by decide) hdd) rfl (by simp [rb_cat_r, rb_cat_i, rb_cat_l]) d_Exp_expand_23 (fun x_6 σ_7 => ?_)
  refine rb_TC.ite (fun hn => ?_) (fun _ => rb_TC.none)
  exact rt_iret (ty := .boolean) rfl (rb_nar_Z hn) (fun h => h) d_Exp_expand_26
-- ===== RuleBuilder$Shell.<init>(LRuleBuilder$Store;LRuleBuilder$Words;)V
def k_Shell_init : rb_MK := (⟨"RuleBuilder$Shell", "<init>", "(LRuleBuilder$Store;LRuleBuilder$Words;)V"⟩, prog_9_method_1_code, 3, none)
theorem mw_Shell_init : rb_Mw k_Shell_init 2 := ⟨rb_inG 279 (by decide +kernel) rfl, rb_inG 91 (by decide +kernel) rfl, ⟨by decide, by decide, by decide +kernel⟩, by decide⟩
theorem fw_Shell_14 : rb_Fw "RuleBuilder$Shell" 14 7 0 := ⟨_, rfl, by decide, by decide, by decide, rfl, rb_inG 283 (by decide +kernel) rfl⟩
theorem fp_Shell_init_14 : rb_Fp k_Shell_init 14 7 0 (.object "RuleBuilder$Text") ∧ ((∃ n, (.object "RuleBuilder$Text" : FieldType) = .object n) ∨ ∃ t, (.object "RuleBuilder$Text" : FieldType) = .array t) := ⟨⟨fw_Shell_14, rfl, fun q h => by cases h; exact Or.inr ⟨rfl, rfl, rfl⟩⟩, Or.inl ⟨_, rfl⟩⟩
theorem fw_Shell_18 : rb_Fw "RuleBuilder$Shell" 18 7 1 := ⟨_, rfl, by decide, by decide, by decide, rfl, rb_inG 286 (by decide +kernel) rfl⟩
theorem fp_Shell_init_18 : rb_Fp k_Shell_init 18 7 1 (.object "RuleBuilder$Store") ∧ ((∃ n, (.object "RuleBuilder$Store" : FieldType) = .object n) ∨ ∃ t, (.object "RuleBuilder$Store" : FieldType) = .array t) := ⟨⟨fw_Shell_18, rfl, fun q h => by cases h; exact Or.inr ⟨rfl, rfl, rfl⟩⟩, Or.inl ⟨_, rfl⟩⟩
theorem fw_Shell_22 : rb_Fw "RuleBuilder$Shell" 22 7 2 := ⟨_, rfl, by decide, by decide, by decide, rfl, rb_inG 287 (by decide +kernel) rfl⟩
theorem fp_Shell_init_22 : rb_Fp k_Shell_init 22 7 2 (.object "RuleBuilder$Words") ∧ ((∃ n, (.object "RuleBuilder$Words" : FieldType) = .object n) ∨ ∃ t, (.object "RuleBuilder$Words" : FieldType) = .array t) := ⟨⟨fw_Shell_22, rfl, fun q h => by cases h; exact Or.inr ⟨rfl, rfl, rfl⟩⟩, Or.inl ⟨_, rfl⟩⟩
theorem iw_Shell_11 : rb_Iw "RuleBuilder$Shell" 11 k_Text_init 1 := ⟨mw_Text_init, rfl, rfl, rb_inG 116 (by decide +kernel) rfl, Or.inl (rb_inG 282 (by decide +kernel) rfl)⟩
theorem w_ml_Shell_1 : Cond.methodLink "RuleBuilder$Shell" 1 Lib.objectInit ∈ rb_G := rb_inG 280 (by decide +kernel) rfl
theorem ow_Shell_7 : rb_Ow "RuleBuilder$Shell" 7 2 := ⟨_, rfl, by decide, by decide, rb_inG 281 (by decide +kernel) rfl, rb_ins2, rb_ini2, rfl, by decide⟩
theorem d_Shell_init_0 : decode prog_9_method_1_code 0 = .ok (.aload_n 0, 1) := by decide +kernel
theorem d_Shell_init_1 : decode prog_9_method_1_code 1 = .ok (.invokespecial 1, 3) := by decide +kernel
theorem d_Shell_init_4 : decode prog_9_method_1_code 4 = .ok (.aload_n 0, 1) := by decide +kernel
theorem d_Shell_init_5 : decode prog_9_method_1_code 5 = .ok (.new 7, 3) := by decide +kernel
theorem d_Shell_init_8 : decode prog_9_method_1_code 8 = .ok (.dup, 1) := by decide +kernel
theorem d_Shell_init_9 : decode prog_9_method_1_code 9 = .ok (.sipush 400, 3) := by decide +kernel
theorem d_Shell_init_12 : decode prog_9_method_1_code 12 = .ok (.invokespecial 11, 3) := by decide +kernel
theorem d_Shell_init_15 : decode prog_9_method_1_code 15 = .ok (.putfield 14, 3) := by decide +kernel
theorem d_Shell_init_18 : decode prog_9_method_1_code 18 = .ok (.aload_n 0, 1) := by decide +kernel
theorem d_Shell_init_19 : decode prog_9_method_1_code 19 = .ok (.aload_n 1, 1) := by decide +kernel
theorem d_Shell_init_20 : decode prog_9_method_1_code 20 = .ok (.putfield 18, 3) := by decide +kernel
theorem d_Shell_init_23 : decode prog_9_method_1_code 23 = .ok (.aload_n 0, 1) := by decide +kernel
theorem d_Shell_init_24 : decode prog_9_method_1_code 24 = .ok (.aload_n 2, 1) := by decide +kernel
theorem d_Shell_init_25 : decode prog_9_method_1_code 25 = .ok (.putfield 22, 3) := by decide +kernel
theorem d_Shell_init_28 : decode prog_9_method_1_code 28 = .ok (.return_, 1) := by decide +kernel
noncomputable def f_Shell_init (a0 : Nat) (r1 : Option Nat) (r2 : Option Nat) (σ : rb_St) : Option rb_Rs :=
  rb_cV (f_Text_init ((rb_n σ)) ((400 : Int32)) (rb_nO σ 2)) fun σ_1 => (rb_pR σ_1 (some a0) 7 0 (some (rb_n σ))).bind fun σ_2 => (rb_pR σ_2 (some a0) 7 1 r1).bind fun σ_3 => (rb_pR σ_3 (some a0) 7 2 r2).bind fun σ_4 => some (none, σ_4)
theorem s_Shell_init {E : rb_EV} {d : Nat} (hdd : 2 ≤ d) (a0 : Nat) (r1 : Option Nat) (r2 : Option Nat) (σ : rb_St) : rb_Does E k_Shell_init d [va_rf (some a0), va_rf r1, va_rf r2] σ (f_Shell_init a0 r1 r2 σ) := by
  refine rb_start (lv := [some (va_rf (some a0)), some (va_rf r1), some (va_rf r2)]) (by decide) (by simp [lg_sl, rb_as, lv_args, rb_cat_r, rb_cat_i, rb_cat_l, rb_nL, k_Shell_init]) (fun res => ?_)
  unfold f_Shell_init
  refine rb_TC.mono (rk_aload_n 0 d_Shell_init_0 rfl rfl) ?_
  refine rb_TC.mono (rk_objInit w_ml_Shell_1 w_oi w_oc (Nat.le_trans (by decide) hdd) (by simp [rb_cat_r, rb_cat_i, rb_cat_l]) d_Shell_init_1 rfl) ?_
  refine rb_TC.mono (rk_aload_n 0 d_Shell_init_4 rfl rfl) ?_
  refine rb_TC.mono (rk_new ow_Shell_7 d_Shell_init_5) ?_
  refine rb_TC.mono (rk_dupr d_Shell_init_8) ?_
  refine rb_TC.mono (rk_sipush (400 : Int32) d_Shell_init_9 (by decide)) ?_
  refine rt_i (As := [.int (400 : Int32)]) (st := [va_rf (some (rb_n σ)), va_rf (some a0)]) iw_Shell_11 (s_Text_init (Nat.le_refl _) ((rb_n σ)) ((400 : Int32)) (rb_nO σ 2)) (Nat.le_trans (by decide) hdd) rfl (by simp [rb_cat_r, rb_cat_i, rb_cat_l]) d_Shell_init_12 (fun σ_1 => ?_)
  refine rt_pR (some a0) fp_Shell_init_14 d_Shell_init_15 (fun σ_2 => ?_)
  refine rb_TC.mono (rk_aload_n 0 d_Shell_init_18 rfl rfl) ?_
  refine rb_TC.mono (rk_aload_n 1 d_Shell_init_19 rfl rfl) ?_
  refine rt_pR (some a0) fp_Shell_init_18 d_Shell_init_20 (fun σ_3 => ?_)
  refine rb_TC.mono (rk_aload_n 0 d_Shell_init_23 rfl rfl) ?_
  refine rb_TC.mono (rk_aload_n 2 d_Shell_init_24 rfl rfl) ?_
  refine rt_pR (some a0) fp_Shell_init_22 d_Shell_init_25 (fun σ_4 => ?_)
  exact rt_vret rfl (fun h => h) d_Shell_init_28
-- ===== RuleBuilder$Shell.printTouch(Ljava/lang/String;)V
def k_Shell_printTouch : rb_MK := (⟨"RuleBuilder$Shell", "printTouch", "(Ljava/lang/String;)V"⟩, prog_9_method_2_code, 3, none)
theorem mw_Shell_printTouch : rb_Mw k_Shell_printTouch 1 := ⟨rb_inG 1092 (by decide +kernel) rfl, rb_inG 91 (by decide +kernel) rfl, ⟨by decide, by decide, by decide +kernel⟩, by decide⟩
theorem vw_Shell_28 : rb_Vw "RuleBuilder$Shell" 28 k_Str_length 14 0 := ⟨mw_Str_length, rb_inG 1094 (by decide +kernel) rfl, rb_inG 590 (by decide +kernel) rfl, rb_inG 591 (by decide +kernel) rfl, by decide, by decide, _, rfl, rfl⟩
theorem vw_Shell_34 : rb_Vw "RuleBuilder$Shell" 34 k_Text_addPart 2 3 := ⟨mw_Text_addPart, rb_inG 1095 (by decide +kernel) rfl, rb_inG 777 (by decide +kernel) rfl, rb_inG 778 (by decide +kernel) rfl, by decide, by decide, _, rfl, rfl⟩
theorem vw_Shell_38 : rb_Vw "RuleBuilder$Shell" 38 k_Text_add 2 1 := ⟨mw_Text_add, rb_inG 1096 (by decide +kernel) rfl, rb_inG 392 (by decide +kernel) rfl, rb_inG 393 (by decide +kernel) rfl, by decide, by decide, _, rfl, rfl⟩
theorem d_Shell_printTouch_0 : decode prog_9_method_2_code 0 = .ok (.ldc 26, 2) := by decide +kernel
theorem d_Shell_printTouch_2 : decode prog_9_method_2_code 2 = .ok (.astore_n 2, 1) := by decide +kernel
theorem d_Shell_printTouch_3 : decode prog_9_method_2_code 3 = .ok (.aload_n 0, 1) := by decide +kernel
theorem d_Shell_printTouch_4 : decode prog_9_method_2_code 4 = .ok (.getfield 14, 3) := by decide +kernel
theorem d_Shell_printTouch_7 : decode prog_9_method_2_code 7 = .ok (.aload_n 2, 1) := by decide +kernel
theorem d_Shell_printTouch_8 : decode prog_9_method_2_code 8 = .ok (.iconst 0, 1) := by decide +kernel
theorem d_Shell_printTouch_9 : decode prog_9_method_2_code 9 = .ok (.aload_n 2, 1) := by decide +kernel
theorem d_Shell_printTouch_10 : decode prog_9_method_2_code 10 = .ok (.invokevirtual 28, 3) := by decide +kernel
theorem d_Shell_printTouch_13 : decode prog_9_method_2_code 13 = .ok (.invokevirtual 34, 3) := by decide +kernel
theorem d_Shell_printTouch_16 : decode prog_9_method_2_code 16 = .ok (.pop, 1) := by decide +kernel
theorem d_Shell_printTouch_17 : decode prog_9_method_2_code 17 = .ok (.aload_n 0, 1) := by decide +kernel
theorem d_Shell_printTouch_18 : decode prog_9_method_2_code 18 = .ok (.getfield 14, 3) := by decide +kernel
theorem d_Shell_printTouch_21 : decode prog_9_method_2_code 21 = .ok (.aload_n 1, 1) := by decide +kernel
theorem d_Shell_printTouch_22 : decode prog_9_method_2_code 22 = .ok (.iconst 0, 1) := by decide +kernel
theorem d_Shell_printTouch_23 : decode prog_9_method_2_code 23 = .ok (.aload_n 1, 1) := by decide +kernel
theorem d_Shell_printTouch_24 : decode prog_9_method_2_code 24 = .ok (.invokevirtual 28, 3) := by decide +kernel
theorem d_Shell_printTouch_27 : decode prog_9_method_2_code 27 = .ok (.invokevirtual 34, 3) := by decide +kernel
theorem d_Shell_printTouch_30 : decode prog_9_method_2_code 30 = .ok (.pop, 1) := by decide +kernel
theorem d_Shell_printTouch_31 : decode prog_9_method_2_code 31 = .ok (.aload_n 0, 1) := by decide +kernel
theorem d_Shell_printTouch_32 : decode prog_9_method_2_code 32 = .ok (.getfield 14, 3) := by decide +kernel
theorem d_Shell_printTouch_35 : decode prog_9_method_2_code 35 = .ok (.bipush 10, 2) := by decide +kernel
theorem d_Shell_printTouch_37 : decode prog_9_method_2_code 37 = .ok (.invokevirtual 38, 3) := by decide +kernel
theorem d_Shell_printTouch_40 : decode prog_9_method_2_code 40 = .ok (.pop, 1) := by decide +kernel
theorem d_Shell_printTouch_41 : decode prog_9_method_2_code 41 = .ok (.return_, 1) := by decide +kernel
noncomputable def f_Shell_printTouch (r0 : Option Nat) (r1 : Option Nat) (σ : rb_St) : Option rb_Rs :=
  (rb_gR σ r0 7 0).bind fun r_1 => (rb_fc σ (some (rb_k σ 6)) 14).bind fun _ => rb_cI (f_Str_length ((some (rb_k σ 6)))  σ) fun x_2 σ_3 => (rb_fc σ_3 r_1 2).bind fun _ => rb_cI (f_Text_addPart (r_1) ((some (rb_k σ 6))) ((0 : Int32)) (x_2) σ_3) fun x_4 σ_5 => (rb_gR σ_5 r0 7 0).bind fun r_6 => (rb_fc σ_5 r1 14).bind fun _ => rb_cI (f_Str_length (r1)  σ_5) fun x_7 σ_8 => (rb_fc σ_8 r_6 2).bind fun _ => rb_cI (f_Text_addPart (r_6) (r1) ((0 : Int32)) (x_7) σ_8) fun x_9 σ_10 => (rb_gR σ_10 r0 7 0).bind fun r_11 => (rb_fc σ_10 r_11 2).bind fun _ => rb_cI (f_Text_add (r_11) ((10 : Int32)) σ_10) fun x_12 σ_13 => some (none, σ_13)
theorem s_Shell_printTouch {E : rb_EV} {d : Nat} (hdd : 5 ≤ d) (r0 : Option Nat) (r1 : Option Nat) (σ : rb_St) : rb_Does E k_Shell_printTouch d [va_rf r0, va_rf r1] σ (f_Shell_printTouch r0 r1 σ) := by
  refine rb_start (lv := [some (va_rf r0), some (va_rf r1), none]) (by decide) (by simp [lg_sl, rb_as, lv_args, rb_cat_r, rb_cat_i, rb_cat_l, rb_nL, k_Shell_printTouch]) (fun res => ?_)
  unfold f_Shell_printTouch
  refine rb_TC.mono (rk_ldcs (no := 6) (by decide) d_Shell_printTouch_0) ?_
  refine rb_TC.mono (rk_astore_n (lv2 := [some (va_rf r0), some (va_rf r1), some (va_rf (some (rb_k σ 6)))]) 2 d_Shell_printTouch_2 rfl (by decide) (fun _ => rb_one_r) rfl) ?_
  refine rb_TC.mono (rk_aload_n 0 d_Shell_printTouch_3 rfl rfl) ?_
  refine rt_gR r0 fw_Shell_14 d_Shell_printTouch_4 (fun r_1 => ?_)
  refine rb_TC.mono (rk_aload_n 2 d_Shell_printTouch_7 rfl rfl) ?_
  refine rb_TC.mono (rk_iconst (0 : Int32) d_Shell_printTouch_8 (by decide)) ?_
  refine rb_TC.mono (rk_aload_n 2 d_Shell_printTouch_9 rfl rfl) ?_
  refine rt_vI (As := []) (st := [.int (0 : Int32), va_rf (some (rb_k σ 6)), va_rf r_1]) ((some (rb_k σ 6))) vw_Shell_28 (s_Str_length (Nat.le_refl _) ((some (rb_k σ 6)))  σ) (Nat.le_trans (by decide) hdd) rfl (by simp [rb_cat_r, rb_cat_i, rb_cat_l]) d_Shell_printTouch_10 (fun x_2 σ_3 => ?_)
  refine rt_vI (As := [va_rf (some (rb_k σ 6)), .int (0 : Int32), .int x_2]) (st := []) (r_1) vw_Shell_34 (s_Text_addPart (Nat.le_refl _) (r_1) ((some (rb_k σ 6))) ((0 : Int32)) (x_2) σ_3) (Nat.le_trans (by decide) hdd) rfl (by simp [rb_cat_r, rb_cat_i, rb_cat_l]) d_Shell_printTouch_13 (fun x_4 σ_5 => ?_)
  refine rb_TC.mono (rk_popi d_Shell_printTouch_16) ?_
  refine rb_TC.mono (rk_aload_n 0 d_Shell_printTouch_17 rfl rfl) ?_
  refine rt_gR r0 fw_Shell_14 d_Shell_printTouch_18 (fun r_6 => ?_)
  refine rb_TC.mono (rk_aload_n 1 d_Shell_printTouch_21 rfl rfl) ?_
  refine rb_TC.mono (rk_iconst (0 : Int32) d_Shell_printTouch_22 (by decide)) ?_
  refine rb_TC.mono (rk_aload_n 1 d_Shell_printTouch_23 rfl rfl) ?_
  refine rt_vI (As := []) (st := [.int (0 : Int32), va_rf r1, va_rf r_6]) (r1) vw_Shell_28 (s_Str_length (Nat.le_refl _) (r1)  σ_5) (Nat.le_trans (by decide) hdd) rfl (by simp [rb_cat_r, rb_cat_i, rb_cat_l]) d_Shell_printTouch_24 (fun x_7 σ_8 => ?_)
  refine rt_vI (As := [va_rf r1, .int (0 : Int32), .int x_7]) (st := []) (r_6) vw_Shell_34 (s_Text_addPart (Nat.le_refl _) (r_6) (r1) ((0 : Int32)) (x_7) σ_8) (Nat.le_trans (by decide) hdd) rfl (by simp [rb_cat_r, rb_cat_i, rb_cat_l]) d_Shell_printTouch_27 (fun x_9 σ_10 => ?_)
  refine rb_TC.mono (rk_popi d_Shell_printTouch_30) ?_
  refine rb_TC.mono (rk_aload_n 0 d_Shell_printTouch_31 rfl rfl) ?_
  refine rt_gR r0 fw_Shell_14 d_Shell_printTouch_32 (fun r_11 => ?_)
  refine rb_TC.mono (rk_bipush (10 : Int32) d_Shell_printTouch_35 (by decide)) ?_
  refine rt_vI (As := [.int (10 : Int32)]) (st := []) (r_11) vw_Shell_38 (s_Text_add (Nat.le_refl _) (r_11) ((10 : Int32)) σ_10) (Nat.le_trans (by decide) hdd) rfl (by simp [rb_cat_r, rb_cat_i, rb_cat_l]) d_Shell_printTouch_37 (fun x_12 σ_13 => ?_)
  refine rb_TC.mono (rk_popi d_Shell_printTouch_40) ?_
  exact rt_vret rfl (fun h => h) d_Shell_printTouch_41
-- ===== RuleBuilder$Shell.printLine(LRuleBuilder$Text;)V
def k_Shell_printLine : rb_MK := (⟨"RuleBuilder$Shell", "printLine", "(LRuleBuilder$Text;)V"⟩, prog_9_method_3_code, 2, none)
theorem mw_Shell_printLine : rb_Mw k_Shell_printLine 1 := ⟨rb_inG 1111 (by decide +kernel) rfl, rb_inG 91 (by decide +kernel) rfl, ⟨by decide, by decide, by decide +kernel⟩, by decide⟩
theorem vw_Shell_42 : rb_Vw "RuleBuilder$Shell" 42 k_Text_length 2 0 := ⟨mw_Text_length, rb_inG 1112 (by decide +kernel) rfl, rb_inG 408 (by decide +kernel) rfl, rb_inG 409 (by decide +kernel) rfl, by decide, by decide, _, rfl, rfl⟩
theorem vw_Shell_43 : rb_Vw "RuleBuilder$Shell" 43 k_Text_addText 2 3 := ⟨mw_Text_addText, rb_inG 1113 (by decide +kernel) rfl, rb_inG 782 (by decide +kernel) rfl, rb_inG 783 (by decide +kernel) rfl, by decide, by decide, _, rfl, rfl⟩
theorem d_Shell_printLine_0 : decode prog_9_method_3_code 0 = .ok (.aload_n 0, 1) := by decide +kernel
theorem d_Shell_printLine_1 : decode prog_9_method_3_code 1 = .ok (.getfield 14, 3) := by decide +kernel
theorem d_Shell_printLine_4 : decode prog_9_method_3_code 4 = .ok (.aload_n 1, 1) := by decide +kernel
theorem d_Shell_printLine_5 : decode prog_9_method_3_code 5 = .ok (.iconst 0, 1) := by decide +kernel
theorem d_Shell_printLine_6 : decode prog_9_method_3_code 6 = .ok (.aload_n 1, 1) := by decide +kernel
theorem d_Shell_printLine_7 : decode prog_9_method_3_code 7 = .ok (.invokevirtual 42, 3) := by decide +kernel
theorem d_Shell_printLine_10 : decode prog_9_method_3_code 10 = .ok (.invokevirtual 43, 3) := by decide +kernel
theorem d_Shell_printLine_13 : decode prog_9_method_3_code 13 = .ok (.pop, 1) := by decide +kernel
theorem d_Shell_printLine_14 : decode prog_9_method_3_code 14 = .ok (.aload_n 0, 1) := by decide +kernel
theorem d_Shell_printLine_15 : decode prog_9_method_3_code 15 = .ok (.getfield 14, 3) := by decide +kernel
theorem d_Shell_printLine_18 : decode prog_9_method_3_code 18 = .ok (.bipush 10, 2) := by decide +kernel
theorem d_Shell_printLine_20 : decode prog_9_method_3_code 20 = .ok (.invokevirtual 38, 3) := by decide +kernel
theorem d_Shell_printLine_23 : decode prog_9_method_3_code 23 = .ok (.pop, 1) := by decide +kernel
theorem d_Shell_printLine_24 : decode prog_9_method_3_code 24 = .ok (.return_, 1) := by decide +kernel
noncomputable def f_Shell_printLine (r0 : Option Nat) (r1 : Option Nat) (σ : rb_St) : Option rb_Rs :=
  (rb_gR σ r0 7 0).bind fun r_1 => (rb_fc σ r1 2).bind fun _ => rb_cI (f_Text_length (r1)  σ) fun x_2 σ_3 => (rb_fc σ_3 r_1 2).bind fun _ => rb_cI (f_Text_addText (r_1) (r1) ((0 : Int32)) (x_2) σ_3) fun x_4 σ_5 => (rb_gR σ_5 r0 7 0).bind fun r_6 => (rb_fc σ_5 r_6 2).bind fun _ => rb_cI (f_Text_add (r_6) ((10 : Int32)) σ_5) fun x_7 σ_8 => some (none, σ_8)
theorem s_Shell_printLine {E : rb_EV} {d : Nat} (hdd : 2 ≤ d) (r0 : Option Nat) (r1 : Option Nat) (σ : rb_St) : rb_Does E k_Shell_printLine d [va_rf r0, va_rf r1] σ (f_Shell_printLine r0 r1 σ) := by
  refine rb_start (lv := [some (va_rf r0), some (va_rf r1)]) (by decide) (by simp [lg_sl, rb_as, lv_args, rb_cat_r, rb_cat_i, rb_cat_l, rb_nL, k_Shell_printLine]) (fun res => ?_)
  unfold f_Shell_printLine
  refine rb_TC.mono (rk_aload_n 0 d_Shell_printLine_0 rfl rfl) ?_
  refine rt_gR r0 fw_Shell_14 d_Shell_printLine_1 (fun r_1 => ?_)
  refine rb_TC.mono (rk_aload_n 1 d_Shell_printLine_4 rfl rfl) ?_
  refine rb_TC.mono (rk_iconst (0 : Int32) d_Shell_printLine_5 (by decide)) ?_
  refine rb_TC.mono (rk_aload_n 1 d_Shell_printLine_6 rfl rfl) ?_
  refine rt_vI (As := []) (st := [.int (0 : Int32), va_rf r1, va_rf r_1]) (r1) vw_Shell_42 (s_Text_length (Nat.le_refl _) (r1)  σ) (Nat.le_trans (by decide) hdd) rfl (by simp [rb_cat_r, rb_cat_i, rb_cat_l]) d_Shell_printLine_7 (fun x_2 σ_3 => ?_)
  refine rt_vI (As := [va_rf r1, .int (0 : Int32), .int x_2]) (st := []) (r_1) vw_Shell_43 (s_Text_addText (Nat.le_refl _) (r_1) (r1) ((0 : Int32)) (x_2) σ_3) (Nat.le_trans (by decide) hdd) rfl (by simp [rb_cat_r, rb_cat_i, rb_cat_l]) d_Shell_printLine_10 (fun x_4 σ_5 => ?_)
  refine rb_TC.mono (rk_popi d_Shell_printLine_13) ?_
  refine rb_TC.mono (rk_aload_n 0 d_Shell_printLine_14 rfl rfl) ?_
  refine rt_gR r0 fw_Shell_14 d_Shell_printLine_15 (fun r_6 => ?_)
  refine rb_TC.mono (rk_bipush (10 : Int32) d_Shell_printLine_18 (by decide)) ?_
  refine rt_vI (As := [.int (10 : Int32)]) (st := []) (r_6) vw_Shell_38 (s_Text_add (Nat.le_refl _) (r_6) ((10 : Int32)) σ_5) (Nat.le_trans (by decide) hdd) rfl (by simp [rb_cat_r, rb_cat_i, rb_cat_l]) d_Shell_printLine_20 (fun x_7 σ_8 => ?_)
  refine rb_TC.mono (rk_popi d_Shell_printLine_23) ?_
  exact rt_vret rfl (fun h => h) d_Shell_printLine_24
-- ===== RuleBuilder$Shell.echo()Z
def k_Shell_echo : rb_MK := (⟨"RuleBuilder$Shell", "echo", "()Z"⟩, prog_9_method_5_code, 2, some (.boolean))
theorem mw_Shell_echo : rb_Mw k_Shell_echo 0 := ⟨rb_inG 1132 (by decide +kernel) rfl, rb_inG 91 (by decide +kernel) rfl, ⟨by decide, by decide, by decide +kernel⟩, by decide⟩
theorem vw_Shell_56 : rb_Vw "RuleBuilder$Shell" 56 k_Words_count 6 0 := ⟨mw_Words_count, rb_inG 1120 (by decide +kernel) rfl, rb_inG 795 (by decide +kernel) rfl, rb_inG 796 (by decide +kernel) rfl, by decide, by decide, _, rfl, rfl⟩
theorem vw_Shell_95 : rb_Vw "RuleBuilder$Shell" 95 k_Words_addTo 6 2 := ⟨mw_Words_addTo, rb_inG 1133 (by decide +kernel) rfl, rb_inG 1134 (by decide +kernel) rfl, rb_inG 1135 (by decide +kernel) rfl, by decide, by decide, _, rfl, rfl⟩
theorem d_Shell_echo_0 : decode prog_9_method_5_code 0 = .ok (.iconst 1, 1) := by decide +kernel
theorem d_Shell_echo_1 : decode prog_9_method_5_code 1 = .ok (.istore_n 1, 1) := by decide +kernel
theorem d_Shell_echo_2 : decode prog_9_method_5_code 2 = .ok (.iload_n 1, 1) := by decide +kernel
theorem d_Shell_echo_3 : decode prog_9_method_5_code 3 = .ok (.aload_n 0, 1) := by decide +kernel
theorem d_Shell_echo_4 : decode prog_9_method_5_code 4 = .ok (.getfield 22, 3) := by decide +kernel
theorem d_Shell_echo_7 : decode prog_9_method_5_code 7 = .ok (.invokevirtual 56, 3) := by decide +kernel
theorem d_Shell_echo_10 : decode prog_9_method_5_code 10 = .ok (.if_icmp .ge 36, 3) := by decide +kernel
theorem d_Shell_echo_13 : decode prog_9_method_5_code 13 = .ok (.iload_n 1, 1) := by decide +kernel
theorem d_Shell_echo_14 : decode prog_9_method_5_code 14 = .ok (.iconst 1, 1) := by decide +kernel
theorem d_Shell_echo_15 : decode prog_9_method_5_code 15 = .ok (.if_icmp .le 13, 3) := by decide +kernel
theorem d_Shell_echo_18 : decode prog_9_method_5_code 18 = .ok (.aload_n 0, 1) := by decide +kernel
theorem d_Shell_echo_19 : decode prog_9_method_5_code 19 = .ok (.getfield 14, 3) := by decide +kernel
theorem d_Shell_echo_22 : decode prog_9_method_5_code 22 = .ok (.bipush 32, 2) := by decide +kernel
theorem d_Shell_echo_24 : decode prog_9_method_5_code 24 = .ok (.invokevirtual 38, 3) := by decide +kernel
theorem d_Shell_echo_27 : decode prog_9_method_5_code 27 = .ok (.pop, 1) := by decide +kernel
theorem d_Shell_echo_28 : decode prog_9_method_5_code 28 = .ok (.aload_n 0, 1) := by decide +kernel
theorem d_Shell_echo_29 : decode prog_9_method_5_code 29 = .ok (.getfield 22, 3) := by decide +kernel
theorem d_Shell_echo_32 : decode prog_9_method_5_code 32 = .ok (.aload_n 0, 1) := by decide +kernel
theorem d_Shell_echo_33 : decode prog_9_method_5_code 33 = .ok (.getfield 14, 3) := by decide +kernel
theorem d_Shell_echo_36 : decode prog_9_method_5_code 36 = .ok (.iload_n 1, 1) := by decide +kernel
theorem d_Shell_echo_37 : decode prog_9_method_5_code 37 = .ok (.invokevirtual 95, 3) := by decide +kernel
theorem d_Shell_echo_40 : decode prog_9_method_5_code 40 = .ok (.iinc 1 1, 3) := by decide +kernel
theorem d_Shell_echo_43 : decode prog_9_method_5_code 43 = .ok (.goto (-41), 3) := by decide +kernel
theorem d_Shell_echo_46 : decode prog_9_method_5_code 46 = .ok (.aload_n 0, 1) := by decide +kernel
theorem d_Shell_echo_47 : decode prog_9_method_5_code 47 = .ok (.getfield 14, 3) := by decide +kernel
theorem d_Shell_echo_50 : decode prog_9_method_5_code 50 = .ok (.bipush 10, 2) := by decide +kernel
theorem d_Shell_echo_52 : decode prog_9_method_5_code 52 = .ok (.invokevirtual 38, 3) := by decide +kernel
theorem d_Shell_echo_55 : decode prog_9_method_5_code 55 = .ok (.pop, 1) := by decide +kernel
theorem d_Shell_echo_56 : decode prog_9_method_5_code 56 = .ok (.iconst 1, 1) := by decide +kernel
theorem d_Shell_echo_57 : decode prog_9_method_5_code 57 = .ok (.ireturn, 1) := by decide +kernel
noncomputable def f_Shell_echo_j28 (r0 : Option Nat) (x1 : Int32) (σ : rb_St) : Option ((Int32 × rb_St) ⊕ rb_Rs) :=
  (rb_gR σ r0 7 2).bind fun r_7 => (rb_gR σ r0 7 0).bind fun r_8 => (rb_fc σ r_7 6).bind fun _ => rb_cV (f_Words_addTo (r_7) (r_8) (x1) σ) fun σ_9 => some (.inl ((x1 + 1), σ_9))
theorem t_Shell_echo_j28 {E : rb_EV} {d : Nat} {σ0 : rb_St} {res : rb_Rs} (hdd : 3 ≤ d)  (r0 : Option Nat) (x1 : Int32) (σ : rb_St) : rb_TC (f_Shell_echo_j28 r0 x1 σ) (Sum.elim (fun z : (Int32 × rb_St) => rb_WK E k_Shell_echo d σ0 res 2 [some (va_rf r0), some (.int z.1)] [] z.2) (fun r => r = res)) (rb_WK E k_Shell_echo d σ0 res 28 [some (va_rf r0), some (.int x1)] [] σ) := by
  unfold f_Shell_echo_j28
  refine rb_TC.mono (rk_aload_n 0 d_Shell_echo_28 rfl rfl) ?_
  refine rt_gR r0 fw_Shell_22 d_Shell_echo_29 (fun r_7 => ?_)
  refine rb_TC.mono (rk_aload_n 0 d_Shell_echo_32 rfl rfl) ?_
  refine rt_gR r0 fw_Shell_14 d_Shell_echo_33 (fun r_8 => ?_)
  refine rb_TC.mono (rk_iload_n 1 d_Shell_echo_36 rfl rfl) ?_
  refine rt_vV (As := [va_rf r_8, .int x1]) (st := []) (r_7) vw_Shell_95 (s_Words_addTo (Nat.le_refl _) (r_7) (r_8) (x1) σ) (Nat.le_trans (by decide) hdd) rfl (by simp [rb_cat_r, rb_cat_i, rb_cat_l]) d_Shell_echo_37 (fun σ_9 => ?_)
  refine rb_TC.mono (rk_iinc (lv2 := [some (va_rf r0), some (.int (x1 + 1))]) (x1 + 1) d_Shell_echo_40 rfl rfl (by decide) (fun _ => rb_one_r) rfl) ?_
  refine rb_TC.mono (rk_goto 2 d_Shell_echo_43 (by decide)) ?_
  exact rb_back
noncomputable def f_Shell_echo_b2 (r0 : Option Nat) (x1 : Int32) (σ : rb_St) : Option ((Int32 × rb_St) ⊕ rb_Rs) :=
  (rb_gR σ r0 7 2).bind fun r_1 => (rb_fc σ r_1 6).bind fun _ => rb_cI (f_Words_count (r_1)  σ) fun x_2 σ_3 => if x_2 ≤ x1 then (((rb_gR σ_3 r0 7 0).bind fun r_4 => (rb_fc σ_3 r_4 2).bind fun _ => rb_cI (f_Text_add (r_4) ((10 : Int32)) σ_3) fun x_5 σ_6 => some (some (.int (1 : Int32)), σ_6)).map Sum.inr) else (if x1 ≤ (1 : Int32) then (f_Shell_echo_j28 (r0) (x1) σ_3) else ((rb_gR σ_3 r0 7 0).bind fun r_10 => (rb_fc σ_3 r_10 2).bind fun _ => rb_cI (f_Text_add (r_10) ((32 : Int32)) σ_3) fun x_11 σ_12 => f_Shell_echo_j28 (r0) (x1) σ_12))
theorem t_Shell_echo_b2 {E : rb_EV} {d : Nat} {σ0 : rb_St} {res : rb_Rs} (hdd : 3 ≤ d)  (r0 : Option Nat) (x1 : Int32) (σ : rb_St) : rb_TC (f_Shell_echo_b2 r0 x1 σ) (Sum.elim (fun z : (Int32 × rb_St) => rb_WK E k_Shell_echo d σ0 res 2 [some (va_rf r0), some (.int z.1)] [] z.2) (fun r => r = res)) (rb_WK E k_Shell_echo d σ0 res 2 [some (va_rf r0), some (.int x1)] [] σ) := by
  unfold f_Shell_echo_b2
  refine rb_TC.mono (rk_iload_n 1 d_Shell_echo_2 rfl rfl) ?_
  refine rb_TC.mono (rk_aload_n 0 d_Shell_echo_3 rfl rfl) ?_
  refine rt_gR r0 fw_Shell_22 d_Shell_echo_4 (fun r_1 => ?_)
  refine rt_vI (As := []) (st := [.int x1]) (r_1) vw_Shell_56 (s_Words_count (Nat.le_refl _) (r_1)  σ) (Nat.le_trans (by decide) hdd) rfl (by simp [rb_cat_r, rb_cat_i, rb_cat_l]) d_Shell_echo_7 (fun x_2 σ_3 => ?_)
  refine rt_icmp_ge 46 d_Shell_echo_10 (by decide) (fun _ => ?_) (fun _ => ?_)
  · refine rb_TC.out ?_
    refine rb_TC.mono (rk_aload_n 0 d_Shell_echo_46 rfl rfl) ?_
    refine rt_gR r0 fw_Shell_14 d_Shell_echo_47 (fun r_4 => ?_)
    refine rb_TC.mono (rk_bipush (10 : Int32) d_Shell_echo_50 (by decide)) ?_
    refine rt_vI (As := [.int (10 : Int32)]) (st := []) (r_4) vw_Shell_38 (s_Text_add (Nat.le_refl _) (r_4) ((10 : Int32)) σ_3) (Nat.le_trans (by decide) hdd) rfl (by simp [rb_cat_r, rb_cat_i, rb_cat_l]) d_Shell_echo_52 (fun x_5 σ_6 => ?_)
    refine rb_TC.mono (rk_popi d_Shell_echo_55) ?_
    refine rb_TC.mono (rk_iconst (1 : Int32) d_Shell_echo_56 (by decide)) ?_
    exact rt_iret (ty := .boolean) rfl (by decide) (fun h => h) d_Shell_echo_57
  · refine rb_TC.mono (rk_iload_n 1 d_Shell_echo_13 rfl rfl) ?_
    refine rb_TC.mono (rk_iconst (1 : Int32) d_Shell_echo_14 (by decide)) ?_
    refine rt_icmp_le 28 d_Shell_echo_15 (by decide) (fun _ => ?_) (fun _ => ?_)
    · exact t_Shell_echo_j28 hdd  (r0) (x1) σ_3
    · refine rb_TC.mono (rk_aload_n 0 d_Shell_echo_18 rfl rfl) ?_
      refine rt_gR r0 fw_Shell_14 d_Shell_echo_19 (fun r_10 => ?_)
      refine rb_TC.mono (rk_bipush (32 : Int32) d_Shell_echo_22 (by decide)) ?_
      refine rt_vI (As := [.int (32 : Int32)]) (st := []) (r_10) vw_Shell_38 (s_Text_add (Nat.le_refl _) (r_10) ((32 : Int32)) σ_3) (Nat.le_trans (by decide) hdd) rfl (by simp [rb_cat_r, rb_cat_i, rb_cat_l]) d_Shell_echo_24 (fun x_11 σ_12 => ?_)
      refine rb_TC.mono (rk_popi d_Shell_echo_27) ?_
      exact t_Shell_echo_j28 hdd  (r0) (x1) σ_12
noncomputable def f_Shell_echo (r0 : Option Nat) (σ : rb_St) : Option rb_Rs :=
  rb_it (fun z : (Int32 × rb_St) => f_Shell_echo_b2 (r0) (z.1) z.2) ((1 : Int32), σ)
theorem s_Shell_echo {E : rb_EV} {d : Nat} (hdd : 3 ≤ d) (r0 : Option Nat) (σ : rb_St) : rb_Does E k_Shell_echo d [va_rf r0] σ (f_Shell_echo r0 σ) := by
  refine rb_start (lv := [some (va_rf r0), none]) (by decide) (by simp [lg_sl, rb_as, lv_args, rb_cat_r, rb_cat_i, rb_cat_l, rb_nL, k_Shell_echo]) (fun res => ?_)
  unfold f_Shell_echo
  refine rb_TC.mono (rk_iconst (1 : Int32) d_Shell_echo_0 (by decide)) ?_
  refine rb_TC.mono (rk_istore_n (lv2 := [some (va_rf r0), some (.int (1 : Int32))]) 1 d_Shell_echo_1 rfl (by decide) (fun _ => rb_one_r) rfl) ?_
  exact rb_TC.loop2 (A := (fun z : (Int32 × rb_St) => rb_WK E k_Shell_echo d σ res 2 [some (va_rf r0), some (.int z.1)] [] z.2)) ((1 : Int32), σ) (fun z => t_Shell_echo_b2 hdd  (r0) (z.1) z.2)
-- ===== RuleBuilder$Shell.touch()Z
def k_Shell_touch : rb_MK := (⟨"RuleBuilder$Shell", "touch", "()Z"⟩, prog_9_method_6_code, 3, some (.boolean))
theorem mw_Shell_touch : rb_Mw k_Shell_touch 0 := ⟨rb_inG 1143 (by decide +kernel) rfl, rb_inG 91 (by decide +kernel) rfl, ⟨by decide, by decide, by decide +kernel⟩, by decide⟩
theorem fw_Shell_103 : rb_Fw "RuleBuilder$Shell" 103 12 3 := ⟨_, rfl, by decide, by decide, by decide, rfl, rb_inG 891 (by decide +kernel) rfl⟩
theorem vw_Shell_109 : rb_Vw "RuleBuilder$Shell" 109 k_Store_write 3 2 := ⟨mw_Store_write, rb_inG 1145 (by decide +kernel) rfl, rb_inG 998 (by decide +kernel) rfl, rb_inG 999 (by decide +kernel) rfl, by decide, by decide, _, rfl, rfl⟩
theorem vw_Shell_99 : rb_Vw "RuleBuilder$Shell" 99 k_Words_name 6 1 := ⟨mw_Words_name, rb_inG 1144 (by decide +kernel) rfl, rb_inG 962 (by decide +kernel) rfl, rb_inG 963 (by decide +kernel) rfl, by decide, by decide, _, rfl, rfl⟩
theorem d_Shell_touch_0 : decode prog_9_method_6_code 0 = .ok (.iconst 1, 1) := by decide +kernel
theorem d_Shell_touch_1 : decode prog_9_method_6_code 1 = .ok (.istore_n 1, 1) := by decide +kernel
theorem d_Shell_touch_2 : decode prog_9_method_6_code 2 = .ok (.iload_n 1, 1) := by decide +kernel
theorem d_Shell_touch_3 : decode prog_9_method_6_code 3 = .ok (.aload_n 0, 1) := by decide +kernel
theorem d_Shell_touch_4 : decode prog_9_method_6_code 4 = .ok (.getfield 22, 3) := by decide +kernel
theorem d_Shell_touch_7 : decode prog_9_method_6_code 7 = .ok (.invokevirtual 56, 3) := by decide +kernel
theorem d_Shell_touch_10 : decode prog_9_method_6_code 10 = .ok (.if_icmp .ge 34, 3) := by decide +kernel
theorem d_Shell_touch_13 : decode prog_9_method_6_code 13 = .ok (.aload_n 0, 1) := by decide +kernel
theorem d_Shell_touch_14 : decode prog_9_method_6_code 14 = .ok (.getfield 22, 3) := by decide +kernel
theorem d_Shell_touch_17 : decode prog_9_method_6_code 17 = .ok (.iload_n 1, 1) := by decide +kernel
theorem d_Shell_touch_18 : decode prog_9_method_6_code 18 = .ok (.invokevirtual 99, 3) := by decide +kernel
theorem d_Shell_touch_21 : decode prog_9_method_6_code 21 = .ok (.astore_n 2, 1) := by decide +kernel
theorem d_Shell_touch_22 : decode prog_9_method_6_code 22 = .ok (.aload_n 2, 1) := by decide +kernel
theorem d_Shell_touch_23 : decode prog_9_method_6_code 23 = .ok (.ifnull 15, 3) := by decide +kernel
theorem d_Shell_touch_26 : decode prog_9_method_6_code 26 = .ok (.aload_n 0, 1) := by decide +kernel
theorem d_Shell_touch_27 : decode prog_9_method_6_code 27 = .ok (.getfield 18, 3) := by decide +kernel
theorem d_Shell_touch_30 : decode prog_9_method_6_code 30 = .ok (.aload_n 2, 1) := by decide +kernel
theorem d_Shell_touch_31 : decode prog_9_method_6_code 31 = .ok (.aload_n 2, 1) := by decide +kernel
theorem d_Shell_touch_32 : decode prog_9_method_6_code 32 = .ok (.getfield 103, 3) := by decide +kernel
theorem d_Shell_touch_35 : decode prog_9_method_6_code 35 = .ok (.invokevirtual 109, 3) := by decide +kernel
theorem d_Shell_touch_38 : decode prog_9_method_6_code 38 = .ok (.iinc 1 1, 3) := by decide +kernel
theorem d_Shell_touch_41 : decode prog_9_method_6_code 41 = .ok (.goto (-39), 3) := by decide +kernel
theorem d_Shell_touch_44 : decode prog_9_method_6_code 44 = .ok (.iconst 1, 1) := by decide +kernel
theorem d_Shell_touch_45 : decode prog_9_method_6_code 45 = .ok (.ireturn, 1) := by decide +kernel
noncomputable def f_Shell_touch_b2 (r0 : Option Nat) (x1 : Int32) (σ : rb_St) : Option ((Int32 × rb_St) ⊕ rb_Rs) :=
  (rb_gR σ r0 7 2).bind fun r_1 => (rb_fc σ r_1 6).bind fun _ => rb_cI (f_Words_count (r_1)  σ) fun x_2 σ_3 => if x_2 ≤ x1 then ((some (some (.int (1 : Int32)), σ_3)).map Sum.inr) else ((rb_gR σ_3 r0 7 2).bind fun r_4 => (rb_fc σ_3 r_4 6).bind fun _ => rb_cR (f_Words_name (r_4) (x1) σ_3) fun r_5 σ_6 => if r_5 = none then (some (.inl ((x1 + 1), σ_6))) else ((rb_gR σ_6 r0 7 1).bind fun r_7 => (rb_gI σ_6 r_5 12 3).bind fun x_8 => (rb_fc σ_6 r_7 3).bind fun _ => rb_cV (f_Store_write (r_7) (r_5) (x_8) σ_6) fun σ_9 => some (.inl ((x1 + 1), σ_9))))
theorem t_Shell_touch_b2 {E : rb_EV} {d : Nat} {σ0 : rb_St} {res : rb_Rs} (hdd : 1 ≤ d)  (r0 : Option Nat) (x1 : Int32) (σ : rb_St) : rb_TC (f_Shell_touch_b2 r0 x1 σ) (Sum.elim (fun z : (Int32 × rb_St) => rb_WK E k_Shell_touch d σ0 res 2 [some (va_rf r0), some (.int z.1), none] [] z.2) (fun r => r = res)) (rb_WK E k_Shell_touch d σ0 res 2 [some (va_rf r0), some (.int x1), none] [] σ) := by
  unfold f_Shell_touch_b2
  refine rb_TC.mono (rk_iload_n 1 d_Shell_touch_2 rfl rfl) ?_
  refine rb_TC.mono (rk_aload_n 0 d_Shell_touch_3 rfl rfl) ?_
  refine rt_gR r0 fw_Shell_22 d_Shell_touch_4 (fun r_1 => ?_)
  refine rt_vI (As := []) (st := [.int x1]) (r_1) vw_Shell_56 (s_Words_count (Nat.le_refl _) (r_1)  σ) (Nat.le_trans (by decide) hdd) rfl (by simp [rb_cat_r, rb_cat_i, rb_cat_l]) d_Shell_touch_7 (fun x_2 σ_3 => ?_)
  refine rt_icmp_ge 44 d_Shell_touch_10 (by decide) (fun _ => ?_) (fun _ => ?_)
  · refine rb_TC.out ?_
    refine rb_TC.mono (rk_iconst (1 : Int32) d_Shell_touch_44 (by decide)) ?_
    exact rt_iret (ty := .boolean) rfl (by decide) (fun h => h) d_Shell_touch_45
  · refine rb_TC.mono (rk_aload_n 0 d_Shell_touch_13 rfl rfl) ?_
    refine rt_gR r0 fw_Shell_22 d_Shell_touch_14 (fun r_4 => ?_)
    refine rb_TC.mono (rk_iload_n 1 d_Shell_touch_17 rfl rfl) ?_
    refine rt_vR (As := [.int x1]) (st := []) (r_4) vw_Shell_99 (s_Words_name (Nat.le_refl _) (r_4) (x1) σ_3) (Nat.le_trans (by decide) hdd) rfl (by simp [rb_cat_r, rb_cat_i, rb_cat_l]) d_Shell_touch_18 (fun r_5 σ_6 => ?_)
    refine rb_TC.mono (rk_astore_n (lv2 := [some (va_rf r0), some (.int x1), some (va_rf r_5)]) 2 d_Shell_touch_21 rfl (by decide) (fun _ => rb_one_i) rfl) ?_
    refine rb_TC.mono (rk_aload_n 2 d_Shell_touch_22 rfl rfl) ?_
    refine rt_ifnull 38 d_Shell_touch_23 (by decide) (fun _ => ?_) (fun _ => ?_)
    · refine rb_TC.mono (rk_iinc (lv2 := [some (va_rf r0), some (.int (x1 + 1)), some (va_rf r_5)]) (x1 + 1) d_Shell_touch_38 rfl rfl (by decide) (fun _ => rb_one_r) rfl) ?_
      refine rb_TC.mono (rk_goto 2 d_Shell_touch_41 (by decide)) ?_
      refine rb_TC.mono (rk_less (lv2 := [some (va_rf r0), some (.int (x1 + 1)), none]) (rb_le_ok (rb_leS (rb_leS (rb_leN rb_le0))))) ?_
      exact rb_back
    · refine rb_TC.mono (rk_aload_n 0 d_Shell_touch_26 rfl rfl) ?_
      refine rt_gR r0 fw_Shell_18 d_Shell_touch_27 (fun r_7 => ?_)
      refine rb_TC.mono (rk_aload_n 2 d_Shell_touch_30 rfl rfl) ?_
      refine rb_TC.mono (rk_aload_n 2 d_Shell_touch_31 rfl rfl) ?_
      refine rt_gI r_5 fw_Shell_103 d_Shell_touch_32 (fun x_8 => ?_)
      refine rt_vV (As := [va_rf r_5, .int x_8]) (st := []) (r_7) vw_Shell_109 (s_Store_write (Nat.le_refl _) (r_7) (r_5) (x_8) σ_6) (Nat.le_trans (by decide) hdd) rfl (by simp [rb_cat_r, rb_cat_i, rb_cat_l]) d_Shell_touch_35 (fun σ_9 => ?_)
      refine rb_TC.mono (rk_iinc (lv2 := [some (va_rf r0), some (.int (x1 + 1)), some (va_rf r_5)]) (x1 + 1) d_Shell_touch_38 rfl rfl (by decide) (fun _ => rb_one_r) rfl) ?_
      refine rb_TC.mono (rk_goto 2 d_Shell_touch_41 (by decide)) ?_
      refine rb_TC.mono (rk_less (lv2 := [some (va_rf r0), some (.int (x1 + 1)), none]) (rb_le_ok (rb_leS (rb_leS (rb_leN rb_le0))))) ?_
      exact rb_back
noncomputable def f_Shell_touch (r0 : Option Nat) (σ : rb_St) : Option rb_Rs :=
  rb_it (fun z : (Int32 × rb_St) => f_Shell_touch_b2 (r0) (z.1) z.2) ((1 : Int32), σ)
theorem s_Shell_touch {E : rb_EV} {d : Nat} (hdd : 1 ≤ d) (r0 : Option Nat) (σ : rb_St) : rb_Does E k_Shell_touch d [va_rf r0] σ (f_Shell_touch r0 σ) := by
  refine rb_start (lv := [some (va_rf r0), none, none]) (by decide) (by simp [lg_sl, rb_as, lv_args, rb_cat_r, rb_cat_i, rb_cat_l, rb_nL, k_Shell_touch]) (fun res => ?_)
  unfold f_Shell_touch
  refine rb_TC.mono (rk_iconst (1 : Int32) d_Shell_touch_0 (by decide)) ?_
  refine rb_TC.mono (rk_istore_n (lv2 := [some (va_rf r0), some (.int (1 : Int32)), none]) 1 d_Shell_touch_1 rfl (by decide) (fun _ => rb_one_r) rfl) ?_
  exact rb_TC.loop2 (A := (fun z : (Int32 × rb_St) => rb_WK E k_Shell_touch d σ res 2 [some (va_rf r0), some (.int z.1), none] [] z.2)) ((1 : Int32), σ) (fun z => t_Shell_touch_b2 hdd  (r0) (z.1) z.2)
-- ===== RuleBuilder$Shell.remove()Z
def k_Shell_remove : rb_MK := (⟨"RuleBuilder$Shell", "remove", "()Z"⟩, prog_9_method_7_code, 3, some (.boolean))
theorem mw_Shell_remove : rb_Mw k_Shell_remove 0 := ⟨rb_inG 1150 (by decide +kernel) rfl, rb_inG 91 (by decide +kernel) rfl, ⟨by decide, by decide, by decide +kernel⟩, by decide⟩
theorem vw_Shell_115 : rb_Vw "RuleBuilder$Shell" 115 k_Name_remove 12 0 := ⟨mw_Name_remove, rb_inG 1151 (by decide +kernel) rfl, rb_inG 1011 (by decide +kernel) rfl, rb_inG 1012 (by decide +kernel) rfl, by decide, by decide, _, rfl, rfl⟩
theorem d_Shell_remove_0 : decode prog_9_method_7_code 0 = .ok (.iconst 1, 1) := by decide +kernel
theorem d_Shell_remove_1 : decode prog_9_method_7_code 1 = .ok (.istore_n 1, 1) := by decide +kernel
theorem d_Shell_remove_2 : decode prog_9_method_7_code 2 = .ok (.iload_n 1, 1) := by decide +kernel
theorem d_Shell_remove_3 : decode prog_9_method_7_code 3 = .ok (.aload_n 0, 1) := by decide +kernel
theorem d_Shell_remove_4 : decode prog_9_method_7_code 4 = .ok (.getfield 22, 3) := by decide +kernel
theorem d_Shell_remove_7 : decode prog_9_method_7_code 7 = .ok (.invokevirtual 56, 3) := by decide +kernel
theorem d_Shell_remove_10 : decode prog_9_method_7_code 10 = .ok (.if_icmp .ge 26, 3) := by decide +kernel
theorem d_Shell_remove_13 : decode prog_9_method_7_code 13 = .ok (.aload_n 0, 1) := by decide +kernel
theorem d_Shell_remove_14 : decode prog_9_method_7_code 14 = .ok (.getfield 22, 3) := by decide +kernel
theorem d_Shell_remove_17 : decode prog_9_method_7_code 17 = .ok (.iload_n 1, 1) := by decide +kernel
theorem d_Shell_remove_18 : decode prog_9_method_7_code 18 = .ok (.invokevirtual 99, 3) := by decide +kernel
theorem d_Shell_remove_21 : decode prog_9_method_7_code 21 = .ok (.astore_n 2, 1) := by decide +kernel
theorem d_Shell_remove_22 : decode prog_9_method_7_code 22 = .ok (.aload_n 2, 1) := by decide +kernel
theorem d_Shell_remove_23 : decode prog_9_method_7_code 23 = .ok (.ifnull 7, 3) := by decide +kernel
theorem d_Shell_remove_26 : decode prog_9_method_7_code 26 = .ok (.aload_n 2, 1) := by decide +kernel
theorem d_Shell_remove_27 : decode prog_9_method_7_code 27 = .ok (.invokevirtual 115, 3) := by decide +kernel
theorem d_Shell_remove_30 : decode prog_9_method_7_code 30 = .ok (.iinc 1 1, 3) := by decide +kernel
theorem d_Shell_remove_33 : decode prog_9_method_7_code 33 = .ok (.goto (-31), 3) := by decide +kernel
theorem d_Shell_remove_36 : decode prog_9_method_7_code 36 = .ok (.iconst 1, 1) := by decide +kernel
theorem d_Shell_remove_37 : decode prog_9_method_7_code 37 = .ok (.ireturn, 1) := by decide +kernel
noncomputable def f_Shell_remove_b2 (r0 : Option Nat) (x1 : Int32) (σ : rb_St) : Option ((Int32 × rb_St) ⊕ rb_Rs) :=
  (rb_gR σ r0 7 2).bind fun r_1 => (rb_fc σ r_1 6).bind fun _ => rb_cI (f_Words_count (r_1)  σ) fun x_2 σ_3 => if x_2 ≤ x1 then ((some (some (.int (1 : Int32)), σ_3)).map Sum.inr) else ((rb_gR σ_3 r0 7 2).bind fun r_4 => (rb_fc σ_3 r_4 6).bind fun _ => rb_cR (f_Words_name (r_4) (x1) σ_3) fun r_5 σ_6 => if r_5 = none then (some (.inl ((x1 + 1), σ_6))) else ((rb_fc σ_6 r_5 12).bind fun _ => rb_cV (f_Name_remove (r_5)  σ_6) fun σ_7 => some (.inl ((x1 + 1), σ_7))))
theorem t_Shell_remove_b2 {E : rb_EV} {d : Nat} {σ0 : rb_St} {res : rb_Rs} (hdd : 1 ≤ d)  (r0 : Option Nat) (x1 : Int32) (σ : rb_St) : rb_TC (f_Shell_remove_b2 r0 x1 σ) (Sum.elim (fun z : (Int32 × rb_St) => rb_WK E k_Shell_remove d σ0 res 2 [some (va_rf r0), some (.int z.1), none] [] z.2) (fun r => r = res)) (rb_WK E k_Shell_remove d σ0 res 2 [some (va_rf r0), some (.int x1), none] [] σ) := by
  unfold f_Shell_remove_b2
  refine rb_TC.mono (rk_iload_n 1 d_Shell_remove_2 rfl rfl) ?_
  refine rb_TC.mono (rk_aload_n 0 d_Shell_remove_3 rfl rfl) ?_
  refine rt_gR r0 fw_Shell_22 d_Shell_remove_4 (fun r_1 => ?_)
  refine rt_vI (As := []) (st := [.int x1]) (r_1) vw_Shell_56 (s_Words_count (Nat.le_refl _) (r_1)  σ) (Nat.le_trans (by decide) hdd) rfl (by simp [rb_cat_r, rb_cat_i, rb_cat_l]) d_Shell_remove_7 (fun x_2 σ_3 => ?_)
  refine rt_icmp_ge 36 d_Shell_remove_10 (by decide) (fun _ => ?_) (fun _ => ?_)
  · refine rb_TC.out ?_
    refine rb_TC.mono (rk_iconst (1 : Int32) d_Shell_remove_36 (by decide)) ?_
    exact rt_iret (ty := .boolean) rfl (by decide) (fun h => h) d_Shell_remove_37
  · refine rb_TC.mono (rk_aload_n 0 d_Shell_remove_13 rfl rfl) ?_
    refine rt_gR r0 fw_Shell_22 d_Shell_remove_14 (fun r_4 => ?_)
    refine rb_TC.mono (rk_iload_n 1 d_Shell_remove_17 rfl rfl) ?_
    refine rt_vR (As := [.int x1]) (st := []) (r_4) vw_Shell_99 (s_Words_name (Nat.le_refl _) (r_4) (x1) σ_3) (Nat.le_trans (by decide) hdd) rfl (by simp [rb_cat_r, rb_cat_i, rb_cat_l]) d_Shell_remove_18 (fun r_5 σ_6 => ?_)
    refine rb_TC.mono (rk_astore_n (lv2 := [some (va_rf r0), some (.int x1), some (va_rf r_5)]) 2 d_Shell_remove_21 rfl (by decide) (fun _ => rb_one_i) rfl) ?_
    refine rb_TC.mono (rk_aload_n 2 d_Shell_remove_22 rfl rfl) ?_
    refine rt_ifnull 30 d_Shell_remove_23 (by decide) (fun _ => ?_) (fun _ => ?_)
    · refine rb_TC.mono (rk_iinc (lv2 := [some (va_rf r0), some (.int (x1 + 1)), some (va_rf r_5)]) (x1 + 1) d_Shell_remove_30 rfl rfl (by decide) (fun _ => rb_one_r) rfl) ?_
      refine rb_TC.mono (rk_goto 2 d_Shell_remove_33 (by decide)) ?_
      refine rb_TC.mono (rk_less (lv2 := [some (va_rf r0), some (.int (x1 + 1)), none]) (rb_le_ok (rb_leS (rb_leS (rb_leN rb_le0))))) ?_
      exact rb_back
    · refine rb_TC.mono (rk_aload_n 2 d_Shell_remove_26 rfl rfl) ?_
      refine rt_vV (As := []) (st := []) (r_5) vw_Shell_115 (s_Name_remove (Nat.le_refl _) (r_5)  σ_6) (Nat.le_trans (by decide) hdd) rfl (by simp [rb_cat_r, rb_cat_i, rb_cat_l]) d_Shell_remove_27 (fun σ_7 => ?_)
      refine rb_TC.mono (rk_iinc (lv2 := [some (va_rf r0), some (.int (x1 + 1)), some (va_rf r_5)]) (x1 + 1) d_Shell_remove_30 rfl rfl (by decide) (fun _ => rb_one_r) rfl) ?_
      refine rb_TC.mono (rk_goto 2 d_Shell_remove_33 (by decide)) ?_
      refine rb_TC.mono (rk_less (lv2 := [some (va_rf r0), some (.int (x1 + 1)), none]) (rb_le_ok (rb_leS (rb_leS (rb_leN rb_le0))))) ?_
      exact rb_back
noncomputable def f_Shell_remove (r0 : Option Nat) (σ : rb_St) : Option rb_Rs :=
  rb_it (fun z : (Int32 × rb_St) => f_Shell_remove_b2 (r0) (z.1) z.2) ((1 : Int32), σ)
theorem s_Shell_remove {E : rb_EV} {d : Nat} (hdd : 1 ≤ d) (r0 : Option Nat) (σ : rb_St) : rb_Does E k_Shell_remove d [va_rf r0] σ (f_Shell_remove r0 σ) := by
  refine rb_start (lv := [some (va_rf r0), none, none]) (by decide) (by simp [lg_sl, rb_as, lv_args, rb_cat_r, rb_cat_i, rb_cat_l, rb_nL, k_Shell_remove]) (fun res => ?_)
  unfold f_Shell_remove
  refine rb_TC.mono (rk_iconst (1 : Int32) d_Shell_remove_0 (by decide)) ?_
  refine rb_TC.mono (rk_istore_n (lv2 := [some (va_rf r0), some (.int (1 : Int32)), none]) 1 d_Shell_remove_1 rfl (by decide) (fun _ => rb_one_r) rfl) ?_
  exact rb_TC.loop2 (A := (fun z : (Int32 × rb_St) => rb_WK E k_Shell_remove d σ res 2 [some (va_rf r0), some (.int z.1), none] [] z.2)) ((1 : Int32), σ) (fun z => t_Shell_remove_b2 hdd  (r0) (z.1) z.2)
-- ===== RuleBuilder$Shell.copy()Z
def k_Shell_copy : rb_MK := (⟨"RuleBuilder$Shell", "copy", "()Z"⟩, prog_9_method_8_code, 3, some (.boolean))
theorem mw_Shell_copy : rb_Mw k_Shell_copy 0 := ⟨rb_inG 1156 (by decide +kernel) rfl, rb_inG 91 (by decide +kernel) rfl, ⟨by decide, by decide, by decide +kernel⟩, by decide⟩
theorem vw_Shell_117 : rb_Vw "RuleBuilder$Shell" 117 k_Name_isFile 12 0 := ⟨mw_Name_isFile, rb_inG 1157 (by decide +kernel) rfl, rb_inG 1007 (by decide +kernel) rfl, rb_inG 1008 (by decide +kernel) rfl, by decide, by decide, _, rfl, rfl⟩
theorem d_Shell_copy_0 : decode prog_9_method_8_code 0 = .ok (.aload_n 0, 1) := by decide +kernel
theorem d_Shell_copy_1 : decode prog_9_method_8_code 1 = .ok (.getfield 22, 3) := by decide +kernel
theorem d_Shell_copy_4 : decode prog_9_method_8_code 4 = .ok (.iconst 1, 1) := by decide +kernel
theorem d_Shell_copy_5 : decode prog_9_method_8_code 5 = .ok (.invokevirtual 99, 3) := by decide +kernel
theorem d_Shell_copy_8 : decode prog_9_method_8_code 8 = .ok (.astore_n 1, 1) := by decide +kernel
theorem d_Shell_copy_9 : decode prog_9_method_8_code 9 = .ok (.aload_n 0, 1) := by decide +kernel
theorem d_Shell_copy_10 : decode prog_9_method_8_code 10 = .ok (.getfield 22, 3) := by decide +kernel
theorem d_Shell_copy_13 : decode prog_9_method_8_code 13 = .ok (.iconst 2, 1) := by decide +kernel
theorem d_Shell_copy_14 : decode prog_9_method_8_code 14 = .ok (.invokevirtual 99, 3) := by decide +kernel
theorem d_Shell_copy_17 : decode prog_9_method_8_code 17 = .ok (.astore_n 2, 1) := by decide +kernel
theorem d_Shell_copy_18 : decode prog_9_method_8_code 18 = .ok (.aload_n 1, 1) := by decide +kernel
theorem d_Shell_copy_19 : decode prog_9_method_8_code 19 = .ok (.ifnull 14, 3) := by decide +kernel
theorem d_Shell_copy_22 : decode prog_9_method_8_code 22 = .ok (.aload_n 2, 1) := by decide +kernel
theorem d_Shell_copy_23 : decode prog_9_method_8_code 23 = .ok (.ifnull 10, 3) := by decide +kernel
theorem d_Shell_copy_26 : decode prog_9_method_8_code 26 = .ok (.aload_n 1, 1) := by decide +kernel
theorem d_Shell_copy_27 : decode prog_9_method_8_code 27 = .ok (.invokevirtual 117, 3) := by decide +kernel
theorem d_Shell_copy_30 : decode prog_9_method_8_code 30 = .ok (.ifCond .ne 5, 3) := by decide +kernel
theorem d_Shell_copy_33 : decode prog_9_method_8_code 33 = .ok (.iconst 0, 1) := by decide +kernel
theorem d_Shell_copy_34 : decode prog_9_method_8_code 34 = .ok (.ireturn, 1) := by decide +kernel
theorem d_Shell_copy_35 : decode prog_9_method_8_code 35 = .ok (.aload_n 0, 1) := by decide +kernel
theorem d_Shell_copy_36 : decode prog_9_method_8_code 36 = .ok (.getfield 18, 3) := by decide +kernel
theorem d_Shell_copy_39 : decode prog_9_method_8_code 39 = .ok (.aload_n 2, 1) := by decide +kernel
theorem d_Shell_copy_40 : decode prog_9_method_8_code 40 = .ok (.aload_n 1, 1) := by decide +kernel
theorem d_Shell_copy_41 : decode prog_9_method_8_code 41 = .ok (.getfield 103, 3) := by decide +kernel
theorem d_Shell_copy_44 : decode prog_9_method_8_code 44 = .ok (.invokevirtual 109, 3) := by decide +kernel
theorem d_Shell_copy_47 : decode prog_9_method_8_code 47 = .ok (.iconst 1, 1) := by decide +kernel
theorem d_Shell_copy_48 : decode prog_9_method_8_code 48 = .ok (.ireturn, 1) := by decide +kernel
noncomputable def f_Shell_copy (r0 : Option Nat) (σ : rb_St) : Option rb_Rs :=
  (rb_gR σ r0 7 2).bind fun r_1 => (rb_fc σ r_1 6).bind fun _ => rb_cR (f_Words_name (r_1) ((1 : Int32)) σ) fun r_2 σ_3 => (rb_gR σ_3 r0 7 2).bind fun r_4 => (rb_fc σ_3 r_4 6).bind fun _ => rb_cR (f_Words_name (r_4) ((2 : Int32)) σ_3) fun r_5 σ_6 => if r_2 = none then (some (some (.int (0 : Int32)), σ_6)) else (if r_5 = none then (some (some (.int (0 : Int32)), σ_6)) else ((rb_fc σ_6 r_2 12).bind fun _ => rb_cI (f_Name_isFile (r_2)  σ_6) fun x_7 σ_8 => if x_7 = 0 then (some (some (.int (0 : Int32)), σ_8)) else ((rb_gR σ_8 r0 7 1).bind fun r_9 => (rb_gI σ_8 r_2 12 3).bind fun x_10 => (rb_fc σ_8 r_9 3).bind fun _ => rb_cV (f_Store_write (r_9) (r_5) (x_10) σ_8) fun σ_11 => some (some (.int (1 : Int32)), σ_11))))
theorem s_Shell_copy {E : rb_EV} {d : Nat} (hdd : 1 ≤ d) (r0 : Option Nat) (σ : rb_St) : rb_Does E k_Shell_copy d [va_rf r0] σ (f_Shell_copy r0 σ) := by
  refine rb_start (lv := [some (va_rf r0), none, none]) (by decide) (by simp [lg_sl, rb_as, lv_args, rb_cat_r, rb_cat_i, rb_cat_l, rb_nL, k_Shell_copy]) (fun res => ?_)
  unfold f_Shell_copy
  refine rb_TC.mono (rk_aload_n 0 d_Shell_copy_0 rfl rfl) ?_
  refine rt_gR r0 fw_Shell_22 d_Shell_copy_1 (fun r_1 => ?_)
  refine rb_TC.mono (rk_iconst (1 : Int32) d_Shell_copy_4 (by decide)) ?_
  refine rt_vR (As := [.int (1 : Int32)]) (st := []) (r_1) vw_Shell_99 (s_Words_name (Nat.le_refl _) (r_1) ((1 : Int32)) σ) (Nat.le_trans (by decide) hdd) rfl (by simp [rb_cat_r, rb_cat_i, rb_cat_l]) d_Shell_copy_5 (fun r_2 σ_3 => ?_)
  refine rb_TC.mono (rk_astore_n (lv2 := [some (va_rf r0), some (va_rf r_2), none]) 1 d_Shell_copy_8 rfl (by decide) (fun _ => rb_one_r) rfl) ?_
  refine rb_TC.mono (rk_aload_n 0 d_Shell_copy_9 rfl rfl) ?_
  refine rt_gR r0 fw_Shell_22 d_Shell_copy_10 (fun r_4 => ?_)
  refine rb_TC.mono (rk_iconst (2 : Int32) d_Shell_copy_13 (by decide)) ?_
  refine rt_vR (As := [.int (2 : Int32)]) (st := []) (r_4) vw_Shell_99 (s_Words_name (Nat.le_refl _) (r_4) ((2 : Int32)) σ_3) (Nat.le_trans (by decide) hdd) rfl (by simp [rb_cat_r, rb_cat_i, rb_cat_l]) d_Shell_copy_14 (fun r_5 σ_6 => ?_)
  refine rb_TC.mono (rk_astore_n (lv2 := [some (va_rf r0), some (va_rf r_2), some (va_rf r_5)]) 2 d_Shell_copy_17 rfl (by decide) (fun _ => rb_one_r) rfl) ?_
  refine rb_TC.mono (rk_aload_n 1 d_Shell_copy_18 rfl rfl) ?_
  refine rt_ifnull 33 d_Shell_copy_19 (by decide) (fun _ => ?_) (fun _ => ?_)
  · refine rb_TC.mono (rk_iconst (0 : Int32) d_Shell_copy_33 (by decide)) ?_
    exact rt_iret (ty := .boolean) rfl (by decide) (fun h => h) d_Shell_copy_34
  · refine rb_TC.mono (rk_aload_n 2 d_Shell_copy_22 rfl rfl) ?_
    refine rt_ifnull 33 d_Shell_copy_23 (by decide) (fun _ => ?_) (fun _ => ?_)
    · refine rb_TC.mono (rk_iconst (0 : Int32) d_Shell_copy_33 (by decide)) ?_
      exact rt_iret (ty := .boolean) rfl (by decide) (fun h => h) d_Shell_copy_34
    · refine rb_TC.mono (rk_aload_n 1 d_Shell_copy_26 rfl rfl) ?_
      refine rt_vI (As := []) (st := []) (r_2) vw_Shell_117 (s_Name_isFile (Nat.le_refl _) (r_2)  σ_6) (Nat.le_trans (by decide) hdd) rfl (by simp [rb_cat_r, rb_cat_i, rb_cat_l]) d_Shell_copy_27 (fun x_7 σ_8 => ?_)
      refine rt_if_ne 35 d_Shell_copy_30 (by decide) (fun _ => ?_) (fun _ => ?_)
      · refine rb_TC.mono (rk_iconst (0 : Int32) d_Shell_copy_33 (by decide)) ?_
        exact rt_iret (ty := .boolean) rfl (by decide) (fun h => h) d_Shell_copy_34
      · refine rb_TC.mono (rk_aload_n 0 d_Shell_copy_35 rfl rfl) ?_
        refine rt_gR r0 fw_Shell_18 d_Shell_copy_36 (fun r_9 => ?_)
        refine rb_TC.mono (rk_aload_n 2 d_Shell_copy_39 rfl rfl) ?_
        refine rb_TC.mono (rk_aload_n 1 d_Shell_copy_40 rfl rfl) ?_
        refine rt_gI r_2 fw_Shell_103 d_Shell_copy_41 (fun x_10 => ?_)
        refine rt_vV (As := [va_rf r_5, .int x_10]) (st := []) (r_9) vw_Shell_109 (s_Store_write (Nat.le_refl _) (r_9) (r_5) (x_10) σ_8) (Nat.le_trans (by decide) hdd) rfl (by simp [rb_cat_r, rb_cat_i, rb_cat_l]) d_Shell_copy_44 (fun σ_11 => ?_)
        refine rb_TC.mono (rk_iconst (1 : Int32) d_Shell_copy_47 (by decide)) ?_
        exact rt_iret (ty := .boolean) rfl (by decide) (fun h => h) d_Shell_copy_48
-- ===== RuleBuilder$Shell.concatenate()Z
def k_Shell_concatenate : rb_MK := (⟨"RuleBuilder$Shell", "concatenate", "()Z"⟩, prog_9_method_9_code, 4, some (.boolean))
theorem mw_Shell_concatenate : rb_Mw k_Shell_concatenate 0 := ⟨rb_inG 1163 (by decide +kernel) rfl, rb_inG 91 (by decide +kernel) rfl, ⟨by decide, by decide, by decide +kernel⟩, by decide⟩
theorem d_Shell_concatenate_0 : decode prog_9_method_9_code 0 = .ok (.iconst 0, 1) := by decide +kernel
theorem d_Shell_concatenate_1 : decode prog_9_method_9_code 1 = .ok (.istore_n 1, 1) := by decide +kernel
theorem d_Shell_concatenate_2 : decode prog_9_method_9_code 2 = .ok (.iconst 1, 1) := by decide +kernel
theorem d_Shell_concatenate_3 : decode prog_9_method_9_code 3 = .ok (.istore_n 2, 1) := by decide +kernel
theorem d_Shell_concatenate_4 : decode prog_9_method_9_code 4 = .ok (.iload_n 2, 1) := by decide +kernel
theorem d_Shell_concatenate_5 : decode prog_9_method_9_code 5 = .ok (.aload_n 0, 1) := by decide +kernel
theorem d_Shell_concatenate_6 : decode prog_9_method_9_code 6 = .ok (.getfield 22, 3) := by decide +kernel
theorem d_Shell_concatenate_9 : decode prog_9_method_9_code 9 = .ok (.invokevirtual 56, 3) := by decide +kernel
theorem d_Shell_concatenate_12 : decode prog_9_method_9_code 12 = .ok (.iconst 2, 1) := by decide +kernel
theorem d_Shell_concatenate_13 : decode prog_9_method_9_code 13 = .ok (.isub, 1) := by decide +kernel
theorem d_Shell_concatenate_14 : decode prog_9_method_9_code 14 = .ok (.if_icmp .ge 43, 3) := by decide +kernel
theorem d_Shell_concatenate_17 : decode prog_9_method_9_code 17 = .ok (.aload_n 0, 1) := by decide +kernel
theorem d_Shell_concatenate_18 : decode prog_9_method_9_code 18 = .ok (.getfield 22, 3) := by decide +kernel
theorem d_Shell_concatenate_21 : decode prog_9_method_9_code 21 = .ok (.iload_n 2, 1) := by decide +kernel
theorem d_Shell_concatenate_22 : decode prog_9_method_9_code 22 = .ok (.invokevirtual 99, 3) := by decide +kernel
theorem d_Shell_concatenate_25 : decode prog_9_method_9_code 25 = .ok (.astore_n 3, 1) := by decide +kernel
theorem d_Shell_concatenate_26 : decode prog_9_method_9_code 26 = .ok (.aload_n 3, 1) := by decide +kernel
theorem d_Shell_concatenate_27 : decode prog_9_method_9_code 27 = .ok (.ifnull 10, 3) := by decide +kernel
theorem d_Shell_concatenate_30 : decode prog_9_method_9_code 30 = .ok (.aload_n 3, 1) := by decide +kernel
theorem d_Shell_concatenate_31 : decode prog_9_method_9_code 31 = .ok (.invokevirtual 117, 3) := by decide +kernel
theorem d_Shell_concatenate_34 : decode prog_9_method_9_code 34 = .ok (.ifCond .ne 5, 3) := by decide +kernel
theorem d_Shell_concatenate_37 : decode prog_9_method_9_code 37 = .ok (.iconst 0, 1) := by decide +kernel
theorem d_Shell_concatenate_38 : decode prog_9_method_9_code 38 = .ok (.ireturn, 1) := by decide +kernel
theorem d_Shell_concatenate_39 : decode prog_9_method_9_code 39 = .ok (.bipush 31, 2) := by decide +kernel
theorem d_Shell_concatenate_41 : decode prog_9_method_9_code 41 = .ok (.iload_n 1, 1) := by decide +kernel
theorem d_Shell_concatenate_42 : decode prog_9_method_9_code 42 = .ok (.imul, 1) := by decide +kernel
theorem d_Shell_concatenate_43 : decode prog_9_method_9_code 43 = .ok (.aload_n 3, 1) := by decide +kernel
theorem d_Shell_concatenate_44 : decode prog_9_method_9_code 44 = .ok (.getfield 103, 3) := by decide +kernel
theorem d_Shell_concatenate_47 : decode prog_9_method_9_code 47 = .ok (.iadd, 1) := by decide +kernel
theorem d_Shell_concatenate_48 : decode prog_9_method_9_code 48 = .ok (.iconst 1, 1) := by decide +kernel
theorem d_Shell_concatenate_49 : decode prog_9_method_9_code 49 = .ok (.iadd, 1) := by decide +kernel
theorem d_Shell_concatenate_50 : decode prog_9_method_9_code 50 = .ok (.istore_n 1, 1) := by decide +kernel
theorem d_Shell_concatenate_51 : decode prog_9_method_9_code 51 = .ok (.iinc 2 1, 3) := by decide +kernel
theorem d_Shell_concatenate_54 : decode prog_9_method_9_code 54 = .ok (.goto (-50), 3) := by decide +kernel
theorem d_Shell_concatenate_57 : decode prog_9_method_9_code 57 = .ok (.aload_n 0, 1) := by decide +kernel
theorem d_Shell_concatenate_58 : decode prog_9_method_9_code 58 = .ok (.getfield 22, 3) := by decide +kernel
theorem d_Shell_concatenate_61 : decode prog_9_method_9_code 61 = .ok (.aload_n 0, 1) := by decide +kernel
theorem d_Shell_concatenate_62 : decode prog_9_method_9_code 62 = .ok (.getfield 22, 3) := by decide +kernel
theorem d_Shell_concatenate_65 : decode prog_9_method_9_code 65 = .ok (.invokevirtual 56, 3) := by decide +kernel
theorem d_Shell_concatenate_68 : decode prog_9_method_9_code 68 = .ok (.iconst 1, 1) := by decide +kernel
theorem d_Shell_concatenate_69 : decode prog_9_method_9_code 69 = .ok (.isub, 1) := by decide +kernel
theorem d_Shell_concatenate_70 : decode prog_9_method_9_code 70 = .ok (.invokevirtual 99, 3) := by decide +kernel
theorem d_Shell_concatenate_73 : decode prog_9_method_9_code 73 = .ok (.astore_n 2, 1) := by decide +kernel
theorem d_Shell_concatenate_74 : decode prog_9_method_9_code 74 = .ok (.aload_n 2, 1) := by decide +kernel
theorem d_Shell_concatenate_75 : decode prog_9_method_9_code 75 = .ok (.ifnonnull 5, 3) := by decide +kernel
theorem d_Shell_concatenate_78 : decode prog_9_method_9_code 78 = .ok (.iconst 0, 1) := by decide +kernel
theorem d_Shell_concatenate_79 : decode prog_9_method_9_code 79 = .ok (.ireturn, 1) := by decide +kernel
theorem d_Shell_concatenate_80 : decode prog_9_method_9_code 80 = .ok (.aload_n 0, 1) := by decide +kernel
theorem d_Shell_concatenate_81 : decode prog_9_method_9_code 81 = .ok (.getfield 18, 3) := by decide +kernel
theorem d_Shell_concatenate_84 : decode prog_9_method_9_code 84 = .ok (.aload_n 2, 1) := by decide +kernel
theorem d_Shell_concatenate_85 : decode prog_9_method_9_code 85 = .ok (.iload_n 1, 1) := by decide +kernel
theorem d_Shell_concatenate_86 : decode prog_9_method_9_code 86 = .ok (.invokevirtual 109, 3) := by decide +kernel
theorem d_Shell_concatenate_89 : decode prog_9_method_9_code 89 = .ok (.iconst 1, 1) := by decide +kernel
theorem d_Shell_concatenate_90 : decode prog_9_method_9_code 90 = .ok (.ireturn, 1) := by decide +kernel
noncomputable def f_Shell_concatenate_j37  (σ : rb_St) : Option rb_Rs :=
  some (some (.int (0 : Int32)), σ)
theorem t_Shell_concatenate_j37 {E : rb_EV} {d : Nat} {σ0 : rb_St} {res : rb_Rs} (hdd : 1 ≤ d)   (σ : rb_St) : rb_TC (f_Shell_concatenate_j37  σ) (fun r => r = res) (rb_WK E k_Shell_concatenate d σ0 res 37 [none, none, none, none] [] σ) := by
  unfold f_Shell_concatenate_j37
  refine rb_TC.mono (rk_iconst (0 : Int32) d_Shell_concatenate_37 (by decide)) ?_
  exact rt_iret (ty := .boolean) rfl (by decide) (fun h => h) d_Shell_concatenate_38
noncomputable def f_Shell_concatenate_b4 (r0 : Option Nat) (x1 : Int32) (x2 : Int32) (σ : rb_St) : Option ((Int32 × Int32 × rb_St) ⊕ rb_Rs) :=
  (rb_gR σ r0 7 2).bind fun r_1 => (rb_fc σ r_1 6).bind fun _ => rb_cI (f_Words_count (r_1)  σ) fun x_2 σ_3 => if (x_2 - (2 : Int32)) ≤ x2 then (((rb_gR σ_3 r0 7 2).bind fun r_4 => (rb_gR σ_3 r0 7 2).bind fun r_5 => (rb_fc σ_3 r_5 6).bind fun _ => rb_cI (f_Words_count (r_5)  σ_3) fun x_6 σ_7 => (rb_fc σ_7 r_4 6).bind fun _ => rb_cR (f_Words_name (r_4) ((x_6 - (1 : Int32))) σ_7) fun r_8 σ_9 => if r_8 = none then (some (some (.int (0 : Int32)), σ_9)) else ((rb_gR σ_9 r0 7 1).bind fun r_10 => (rb_fc σ_9 r_10 3).bind fun _ => rb_cV (f_Store_write (r_10) (r_8) (x1) σ_9) fun σ_11 => some (some (.int (1 : Int32)), σ_11))).map Sum.inr) else ((rb_gR σ_3 r0 7 2).bind fun r_12 => (rb_fc σ_3 r_12 6).bind fun _ => rb_cR (f_Words_name (r_12) (x2) σ_3) fun r_13 σ_14 => if r_13 = none then ((f_Shell_concatenate_j37  σ_14).map Sum.inr) else ((rb_fc σ_14 r_13 12).bind fun _ => rb_cI (f_Name_isFile (r_13)  σ_14) fun x_15 σ_16 => if x_15 = 0 then ((f_Shell_concatenate_j37  σ_16).map Sum.inr) else ((rb_gI σ_16 r_13 12 3).bind fun x_17 => some (.inl (((((31 : Int32) * x1) + x_17) + (1 : Int32)), (x2 + 1), σ_16)))))
theorem t_Shell_concatenate_b4 {E : rb_EV} {d : Nat} {σ0 : rb_St} {res : rb_Rs} (hdd : 1 ≤ d)  (r0 : Option Nat) (x1 : Int32) (x2 : Int32) (σ : rb_St) : rb_TC (f_Shell_concatenate_b4 r0 x1 x2 σ) (Sum.elim (fun z : (Int32 × Int32 × rb_St) => rb_WK E k_Shell_concatenate d σ0 res 4 [some (va_rf r0), some (.int z.1), some (.int z.2.1), none] [] z.2.2) (fun r => r = res)) (rb_WK E k_Shell_concatenate d σ0 res 4 [some (va_rf r0), some (.int x1), some (.int x2), none] [] σ) := by
  unfold f_Shell_concatenate_b4
  refine rb_TC.mono (rk_iload_n 2 d_Shell_concatenate_4 rfl rfl) ?_
  refine rb_TC.mono (rk_aload_n 0 d_Shell_concatenate_5 rfl rfl) ?_
  refine rt_gR r0 fw_Shell_22 d_Shell_concatenate_6 (fun r_1 => ?_)
  refine rt_vI (As := []) (st := [.int x2]) (r_1) vw_Shell_56 (s_Words_count (Nat.le_refl _) (r_1)  σ) (Nat.le_trans (by decide) hdd) rfl (by simp [rb_cat_r, rb_cat_i, rb_cat_l]) d_Shell_concatenate_9 (fun x_2 σ_3 => ?_)
  refine rb_TC.mono (rk_iconst (2 : Int32) d_Shell_concatenate_12 (by decide)) ?_
  refine rb_TC.mono (rk_isub d_Shell_concatenate_13) ?_
  refine rt_icmp_ge 57 d_Shell_concatenate_14 (by decide) (fun _ => ?_) (fun _ => ?_)
  · refine rb_TC.out ?_
    refine rb_TC.mono (rk_aload_n 0 d_Shell_concatenate_57 rfl rfl) ?_
    refine rt_gR r0 fw_Shell_22 d_Shell_concatenate_58 (fun r_4 => ?_)
    refine rb_TC.mono (rk_aload_n 0 d_Shell_concatenate_61 rfl rfl) ?_
    refine rt_gR r0 fw_Shell_22 d_Shell_concatenate_62 (fun r_5 => ?_)
    refine rt_vI (As := []) (st := [va_rf r_4]) (r_5) vw_Shell_56 (s_Words_count (Nat.le_refl _) (r_5)  σ_3) (Nat.le_trans (by decide) hdd) rfl (by simp [rb_cat_r, rb_cat_i, rb_cat_l]) d_Shell_concatenate_65 (fun x_6 σ_7 => ?_)
    refine rb_TC.mono (rk_iconst (1 : Int32) d_Shell_concatenate_68 (by decide)) ?_
    refine rb_TC.mono (rk_isub d_Shell_concatenate_69) ?_
    refine rt_vR (As := [.int (x_6 - (1 : Int32))]) (st := []) (r_4) vw_Shell_99 (s_Words_name (Nat.le_refl _) (r_4) ((x_6 - (1 : Int32))) σ_7) (Nat.le_trans (by decide) hdd) rfl (by simp [rb_cat_r, rb_cat_i, rb_cat_l]) d_Shell_concatenate_70 (fun r_8 σ_9 => ?_)
    refine rb_TC.mono (rk_astore_n (lv2 := [some (va_rf r0), some (.int x1), some (va_rf r_8), none]) 2 d_Shell_concatenate_73 rfl (by decide) (fun _ => rb_one_i) rfl) ?_
    refine rb_TC.mono (rk_aload_n 2 d_Shell_concatenate_74 rfl rfl) ?_
    refine rt_ifnonnull 80 d_Shell_concatenate_75 (by decide) (fun _ => ?_) (fun _ => ?_)
    · refine rb_TC.mono (rk_iconst (0 : Int32) d_Shell_concatenate_78 (by decide)) ?_
      exact rt_iret (ty := .boolean) rfl (by decide) (fun h => h) d_Shell_concatenate_79
    · refine rb_TC.mono (rk_aload_n 0 d_Shell_concatenate_80 rfl rfl) ?_
      refine rt_gR r0 fw_Shell_18 d_Shell_concatenate_81 (fun r_10 => ?_)
      refine rb_TC.mono (rk_aload_n 2 d_Shell_concatenate_84 rfl rfl) ?_
      refine rb_TC.mono (rk_iload_n 1 d_Shell_concatenate_85 rfl rfl) ?_
      refine rt_vV (As := [va_rf r_8, .int x1]) (st := []) (r_10) vw_Shell_109 (s_Store_write (Nat.le_refl _) (r_10) (r_8) (x1) σ_9) (Nat.le_trans (by decide) hdd) rfl (by simp [rb_cat_r, rb_cat_i, rb_cat_l]) d_Shell_concatenate_86 (fun σ_11 => ?_)
      refine rb_TC.mono (rk_iconst (1 : Int32) d_Shell_concatenate_89 (by decide)) ?_
      exact rt_iret (ty := .boolean) rfl (by decide) (fun h => h) d_Shell_concatenate_90
  · refine rb_TC.mono (rk_aload_n 0 d_Shell_concatenate_17 rfl rfl) ?_
    refine rt_gR r0 fw_Shell_22 d_Shell_concatenate_18 (fun r_12 => ?_)
    refine rb_TC.mono (rk_iload_n 2 d_Shell_concatenate_21 rfl rfl) ?_
    refine rt_vR (As := [.int x2]) (st := []) (r_12) vw_Shell_99 (s_Words_name (Nat.le_refl _) (r_12) (x2) σ_3) (Nat.le_trans (by decide) hdd) rfl (by simp [rb_cat_r, rb_cat_i, rb_cat_l]) d_Shell_concatenate_22 (fun r_13 σ_14 => ?_)
    refine rb_TC.mono (rk_astore_n (lv2 := [some (va_rf r0), some (.int x1), some (.int x2), some (va_rf r_13)]) 3 d_Shell_concatenate_25 rfl (by decide) (fun _ => rb_one_i) rfl) ?_
    refine rb_TC.mono (rk_aload_n 3 d_Shell_concatenate_26 rfl rfl) ?_
    refine rt_ifnull 37 d_Shell_concatenate_27 (by decide) (fun _ => ?_) (fun _ => ?_)
    · refine rb_TC.out ?_
      refine rb_TC.mono (rk_less (lv2 := [none, none, none, none]) (rb_le_ok (rb_leN (rb_leN (rb_leN (rb_leN rb_le0)))))) ?_
      exact t_Shell_concatenate_j37 hdd   σ_14
    · refine rb_TC.mono (rk_aload_n 3 d_Shell_concatenate_30 rfl rfl) ?_
      refine rt_vI (As := []) (st := []) (r_13) vw_Shell_117 (s_Name_isFile (Nat.le_refl _) (r_13)  σ_14) (Nat.le_trans (by decide) hdd) rfl (by simp [rb_cat_r, rb_cat_i, rb_cat_l]) d_Shell_concatenate_31 (fun x_15 σ_16 => ?_)
      refine rt_if_ne 39 d_Shell_concatenate_34 (by decide) (fun _ => ?_) (fun _ => ?_)
      · refine rb_TC.out ?_
        refine rb_TC.mono (rk_less (lv2 := [none, none, none, none]) (rb_le_ok (rb_leN (rb_leN (rb_leN (rb_leN rb_le0)))))) ?_
        exact t_Shell_concatenate_j37 hdd   σ_16
      · refine rb_TC.mono (rk_bipush (31 : Int32) d_Shell_concatenate_39 (by decide)) ?_
        refine rb_TC.mono (rk_iload_n 1 d_Shell_concatenate_41 rfl rfl) ?_
        refine rb_TC.mono (rk_imul d_Shell_concatenate_42) ?_
        refine rb_TC.mono (rk_aload_n 3 d_Shell_concatenate_43 rfl rfl) ?_
        refine rt_gI r_13 fw_Shell_103 d_Shell_concatenate_44 (fun x_17 => ?_)
        refine rb_TC.mono (rk_iadd d_Shell_concatenate_47) ?_
        refine rb_TC.mono (rk_iconst (1 : Int32) d_Shell_concatenate_48 (by decide)) ?_
        refine rb_TC.mono (rk_iadd d_Shell_concatenate_49) ?_
        refine rb_TC.mono (rk_istore_n (lv2 := [some (va_rf r0), some (.int ((((31 : Int32) * x1) + x_17) + (1 : Int32))), some (.int x2), some (va_rf r_13)]) 1 d_Shell_concatenate_50 rfl (by decide) (fun _ => rb_one_r) rfl) ?_
        refine rb_TC.mono (rk_iinc (lv2 := [some (va_rf r0), some (.int ((((31 : Int32) * x1) + x_17) + (1 : Int32))), some (.int (x2 + 1)), some (va_rf r_13)]) (x2 + 1) d_Shell_concatenate_51 rfl rfl (by decide) (fun _ => rb_one_i) rfl) ?_
        refine rb_TC.mono (rk_goto 4 d_Shell_concatenate_54 (by decide)) ?_
        refine rb_TC.mono (rk_less (lv2 := [some (va_rf r0), some (.int ((((31 : Int32) * x1) + x_17) + (1 : Int32))), some (.int (x2 + 1)), none]) (rb_le_ok (rb_leS (rb_leS (rb_leS (rb_leN rb_le0)))))) ?_
        exact rb_back
noncomputable def f_Shell_concatenate (r0 : Option Nat) (σ : rb_St) : Option rb_Rs :=
  rb_it (fun z : (Int32 × Int32 × rb_St) => f_Shell_concatenate_b4 (r0) (z.1) (z.2.1) z.2.2) ((0 : Int32), (1 : Int32), σ)
theorem s_Shell_concatenate {E : rb_EV} {d : Nat} (hdd : 1 ≤ d) (r0 : Option Nat) (σ : rb_St) : rb_Does E k_Shell_concatenate d [va_rf r0] σ (f_Shell_concatenate r0 σ) := by
  refine rb_start (lv := [some (va_rf r0), none, none, none]) (by decide) (by simp [lg_sl, rb_as, lv_args, rb_cat_r, rb_cat_i, rb_cat_l, rb_nL, k_Shell_concatenate]) (fun res => ?_)
  unfold f_Shell_concatenate
  refine rb_TC.mono (rk_iconst (0 : Int32) d_Shell_concatenate_0 (by decide)) ?_
  refine rb_TC.mono (rk_istore_n (lv2 := [some (va_rf r0), some (.int (0 : Int32)), none, none]) 1 d_Shell_concatenate_1 rfl (by decide) (fun _ => rb_one_r) rfl) ?_
  refine rb_TC.mono (rk_iconst (1 : Int32) d_Shell_concatenate_2 (by decide)) ?_
  refine rb_TC.mono (rk_istore_n (lv2 := [some (va_rf r0), some (.int (0 : Int32)), some (.int (1 : Int32)), none]) 2 d_Shell_concatenate_3 rfl (by decide) (fun _ => rb_one_i) rfl) ?_
  exact rb_TC.loop2 (A := (fun z : (Int32 × Int32 × rb_St) => rb_WK E k_Shell_concatenate d σ res 4 [some (va_rf r0), some (.int z.1), some (.int z.2.1), none] [] z.2.2)) ((0 : Int32), (1 : Int32), σ) (fun z => t_Shell_concatenate_b4 hdd  (r0) (z.1) (z.2.1) z.2.2)
-- ===== RuleBuilder$Shell.act(LRuleBuilder$Text;)Z
def k_Shell_act : rb_MK := (⟨"RuleBuilder$Shell", "act", "(LRuleBuilder$Text;)Z"⟩, prog_9_method_4_code, 3, some (.boolean))
theorem mw_Shell_act : rb_Mw k_Shell_act 1 := ⟨rb_inG 1117 (by decide +kernel) rfl, rb_inG 91 (by decide +kernel) rfl, ⟨by decide, by decide, by decide +kernel⟩, by decide⟩
theorem vw_Shell_47 : rb_Vw "RuleBuilder$Shell" 47 k_Words_clear 6 0 := ⟨mw_Words_clear, rb_inG 1118 (by decide +kernel) rfl, rb_inG 786 (by decide +kernel) rfl, rb_inG 787 (by decide +kernel) rfl, by decide, by decide, _, rfl, rfl⟩
theorem vw_Shell_52 : rb_Vw "RuleBuilder$Shell" 52 k_Words_addWords 6 2 := ⟨mw_Words_addWords, rb_inG 1119 (by decide +kernel) rfl, rb_inG 790 (by decide +kernel) rfl, rb_inG 791 (by decide +kernel) rfl, by decide, by decide, _, rfl, rfl⟩
theorem vw_Shell_61 : rb_Vw "RuleBuilder$Shell" 61 k_Words_is 6 2 := ⟨mw_Words_is, rb_inG 1122 (by decide +kernel) rfl, rb_inG 1123 (by decide +kernel) rfl, rb_inG 1124 (by decide +kernel) rfl, by decide, by decide, _, rfl, rfl⟩
theorem vw_Shell_67 : rb_Vw "RuleBuilder$Shell" 67 k_Shell_echo 7 0 := ⟨mw_Shell_echo, rb_inG 1129 (by decide +kernel) rfl, rb_inG 1131 (by decide +kernel) rfl, rb_inG 29 (by decide +kernel) rfl, by decide, by decide, _, rfl, rfl⟩
theorem vw_Shell_72 : rb_Vw "RuleBuilder$Shell" 72 k_Words_meet 6 3 := ⟨mw_Words_meet, rb_inG 1139 (by decide +kernel) rfl, rb_inG 857 (by decide +kernel) rfl, rb_inG 858 (by decide +kernel) rfl, by decide, by decide, _, rfl, rfl⟩
theorem vw_Shell_76 : rb_Vw "RuleBuilder$Shell" 76 k_Shell_touch 7 0 := ⟨mw_Shell_touch, rb_inG 1140 (by decide +kernel) rfl, rb_inG 1142 (by decide +kernel) rfl, rb_inG 30 (by decide +kernel) rfl, by decide, by decide, _, rfl, rfl⟩
theorem vw_Shell_80 : rb_Vw "RuleBuilder$Shell" 80 k_Shell_remove 7 0 := ⟨mw_Shell_remove, rb_inG 1147 (by decide +kernel) rfl, rb_inG 1149 (by decide +kernel) rfl, rb_inG 31 (by decide +kernel) rfl, by decide, by decide, _, rfl, rfl⟩
theorem vw_Shell_85 : rb_Vw "RuleBuilder$Shell" 85 k_Shell_copy 7 0 := ⟨mw_Shell_copy, rb_inG 1153 (by decide +kernel) rfl, rb_inG 1155 (by decide +kernel) rfl, rb_inG 32 (by decide +kernel) rfl, by decide, by decide, _, rfl, rfl⟩
theorem vw_Shell_92 : rb_Vw "RuleBuilder$Shell" 92 k_Shell_concatenate 7 0 := ⟨mw_Shell_concatenate, rb_inG 1160 (by decide +kernel) rfl, rb_inG 1162 (by decide +kernel) rfl, rb_inG 33 (by decide +kernel) rfl, by decide, by decide, _, rfl, rfl⟩
theorem d_Shell_act_0 : decode prog_9_method_4_code 0 = .ok (.aload_n 0, 1) := by decide +kernel
theorem d_Shell_act_1 : decode prog_9_method_4_code 1 = .ok (.getfield 22, 3) := by decide +kernel
theorem d_Shell_act_4 : decode prog_9_method_4_code 4 = .ok (.invokevirtual 47, 3) := by decide +kernel
theorem d_Shell_act_7 : decode prog_9_method_4_code 7 = .ok (.aload_n 0, 1) := by decide +kernel
theorem d_Shell_act_8 : decode prog_9_method_4_code 8 = .ok (.getfield 22, 3) := by decide +kernel
theorem d_Shell_act_11 : decode prog_9_method_4_code 11 = .ok (.iconst 0, 1) := by decide +kernel
theorem d_Shell_act_12 : decode prog_9_method_4_code 12 = .ok (.aload_n 1, 1) := by decide +kernel
theorem d_Shell_act_13 : decode prog_9_method_4_code 13 = .ok (.invokevirtual 42, 3) := by decide +kernel
theorem d_Shell_act_16 : decode prog_9_method_4_code 16 = .ok (.invokevirtual 52, 3) := by decide +kernel
theorem d_Shell_act_19 : decode prog_9_method_4_code 19 = .ok (.aload_n 0, 1) := by decide +kernel
theorem d_Shell_act_20 : decode prog_9_method_4_code 20 = .ok (.getfield 22, 3) := by decide +kernel
theorem d_Shell_act_23 : decode prog_9_method_4_code 23 = .ok (.invokevirtual 56, 3) := by decide +kernel
theorem d_Shell_act_26 : decode prog_9_method_4_code 26 = .ok (.istore_n 2, 1) := by decide +kernel
theorem d_Shell_act_27 : decode prog_9_method_4_code 27 = .ok (.iload_n 2, 1) := by decide +kernel
theorem d_Shell_act_28 : decode prog_9_method_4_code 28 = .ok (.ifCond .eq 16, 3) := by decide +kernel
theorem d_Shell_act_31 : decode prog_9_method_4_code 31 = .ok (.aload_n 0, 1) := by decide +kernel
theorem d_Shell_act_32 : decode prog_9_method_4_code 32 = .ok (.getfield 22, 3) := by decide +kernel
theorem d_Shell_act_35 : decode prog_9_method_4_code 35 = .ok (.iconst 0, 1) := by decide +kernel
theorem d_Shell_act_36 : decode prog_9_method_4_code 36 = .ok (.ldc 59, 2) := by decide +kernel
theorem d_Shell_act_38 : decode prog_9_method_4_code 38 = .ok (.invokevirtual 61, 3) := by decide +kernel
theorem d_Shell_act_41 : decode prog_9_method_4_code 41 = .ok (.ifCond .eq 5, 3) := by decide +kernel
theorem d_Shell_act_44 : decode prog_9_method_4_code 44 = .ok (.iconst 1, 1) := by decide +kernel
theorem d_Shell_act_45 : decode prog_9_method_4_code 45 = .ok (.ireturn, 1) := by decide +kernel
theorem d_Shell_act_46 : decode prog_9_method_4_code 46 = .ok (.aload_n 0, 1) := by decide +kernel
theorem d_Shell_act_47 : decode prog_9_method_4_code 47 = .ok (.getfield 22, 3) := by decide +kernel
theorem d_Shell_act_50 : decode prog_9_method_4_code 50 = .ok (.iconst 0, 1) := by decide +kernel
theorem d_Shell_act_51 : decode prog_9_method_4_code 51 = .ok (.ldc 65, 2) := by decide +kernel
theorem d_Shell_act_53 : decode prog_9_method_4_code 53 = .ok (.invokevirtual 61, 3) := by decide +kernel
theorem d_Shell_act_56 : decode prog_9_method_4_code 56 = .ok (.ifCond .eq 8, 3) := by decide +kernel
theorem d_Shell_act_59 : decode prog_9_method_4_code 59 = .ok (.aload_n 0, 1) := by decide +kernel
theorem d_Shell_act_60 : decode prog_9_method_4_code 60 = .ok (.invokevirtual 67, 3) := by decide +kernel
theorem d_Shell_act_63 : decode prog_9_method_4_code 63 = .ok (.ireturn, 1) := by decide +kernel
theorem d_Shell_act_64 : decode prog_9_method_4_code 64 = .ok (.aload_n 0, 1) := by decide +kernel
theorem d_Shell_act_65 : decode prog_9_method_4_code 65 = .ok (.getfield 22, 3) := by decide +kernel
theorem d_Shell_act_68 : decode prog_9_method_4_code 68 = .ok (.iconst 0, 1) := by decide +kernel
theorem d_Shell_act_69 : decode prog_9_method_4_code 69 = .ok (.ldc 70, 2) := by decide +kernel
theorem d_Shell_act_71 : decode prog_9_method_4_code 71 = .ok (.invokevirtual 61, 3) := by decide +kernel
theorem d_Shell_act_74 : decode prog_9_method_4_code 74 = .ok (.ifCond .eq 37, 3) := by decide +kernel
theorem d_Shell_act_77 : decode prog_9_method_4_code 77 = .ok (.iload_n 2, 1) := by decide +kernel
theorem d_Shell_act_78 : decode prog_9_method_4_code 78 = .ok (.iconst 2, 1) := by decide +kernel
theorem d_Shell_act_79 : decode prog_9_method_4_code 79 = .ok (.if_icmp .lt 30, 3) := by decide +kernel
theorem d_Shell_act_82 : decode prog_9_method_4_code 82 = .ok (.aload_n 0, 1) := by decide +kernel
theorem d_Shell_act_83 : decode prog_9_method_4_code 83 = .ok (.getfield 22, 3) := by decide +kernel
theorem d_Shell_act_86 : decode prog_9_method_4_code 86 = .ok (.aload_n 0, 1) := by decide +kernel
theorem d_Shell_act_87 : decode prog_9_method_4_code 87 = .ok (.getfield 18, 3) := by decide +kernel
theorem d_Shell_act_90 : decode prog_9_method_4_code 90 = .ok (.iconst 1, 1) := by decide +kernel
theorem d_Shell_act_91 : decode prog_9_method_4_code 91 = .ok (.iload_n 2, 1) := by decide +kernel
theorem d_Shell_act_92 : decode prog_9_method_4_code 92 = .ok (.invokevirtual 72, 3) := by decide +kernel
theorem d_Shell_act_95 : decode prog_9_method_4_code 95 = .ok (.ifCond .eq 14, 3) := by decide +kernel
theorem d_Shell_act_98 : decode prog_9_method_4_code 98 = .ok (.aload_n 0, 1) := by decide +kernel
theorem d_Shell_act_99 : decode prog_9_method_4_code 99 = .ok (.invokevirtual 76, 3) := by decide +kernel
theorem d_Shell_act_102 : decode prog_9_method_4_code 102 = .ok (.ifCond .eq 7, 3) := by decide +kernel
theorem d_Shell_act_105 : decode prog_9_method_4_code 105 = .ok (.iconst 1, 1) := by decide +kernel
theorem d_Shell_act_106 : decode prog_9_method_4_code 106 = .ok (.goto 4, 3) := by decide +kernel
theorem d_Shell_act_109 : decode prog_9_method_4_code 109 = .ok (.iconst 0, 1) := by decide +kernel
theorem d_Shell_act_110 : decode prog_9_method_4_code 110 = .ok (.ireturn, 1) := by decide +kernel
theorem d_Shell_act_111 : decode prog_9_method_4_code 111 = .ok (.aload_n 0, 1) := by decide +kernel
theorem d_Shell_act_112 : decode prog_9_method_4_code 112 = .ok (.getfield 22, 3) := by decide +kernel
theorem d_Shell_act_115 : decode prog_9_method_4_code 115 = .ok (.iconst 0, 1) := by decide +kernel
theorem d_Shell_act_116 : decode prog_9_method_4_code 116 = .ok (.ldc 78, 2) := by decide +kernel
theorem d_Shell_act_118 : decode prog_9_method_4_code 118 = .ok (.invokevirtual 61, 3) := by decide +kernel
theorem d_Shell_act_121 : decode prog_9_method_4_code 121 = .ok (.ifCond .eq 37, 3) := by decide +kernel
theorem d_Shell_act_124 : decode prog_9_method_4_code 124 = .ok (.iload_n 2, 1) := by decide +kernel
theorem d_Shell_act_125 : decode prog_9_method_4_code 125 = .ok (.iconst 2, 1) := by decide +kernel
theorem d_Shell_act_126 : decode prog_9_method_4_code 126 = .ok (.if_icmp .lt 30, 3) := by decide +kernel
theorem d_Shell_act_129 : decode prog_9_method_4_code 129 = .ok (.aload_n 0, 1) := by decide +kernel
theorem d_Shell_act_130 : decode prog_9_method_4_code 130 = .ok (.getfield 22, 3) := by decide +kernel
theorem d_Shell_act_133 : decode prog_9_method_4_code 133 = .ok (.aload_n 0, 1) := by decide +kernel
theorem d_Shell_act_134 : decode prog_9_method_4_code 134 = .ok (.getfield 18, 3) := by decide +kernel
theorem d_Shell_act_137 : decode prog_9_method_4_code 137 = .ok (.iconst 1, 1) := by decide +kernel
theorem d_Shell_act_138 : decode prog_9_method_4_code 138 = .ok (.iload_n 2, 1) := by decide +kernel
theorem d_Shell_act_139 : decode prog_9_method_4_code 139 = .ok (.invokevirtual 72, 3) := by decide +kernel
theorem d_Shell_act_142 : decode prog_9_method_4_code 142 = .ok (.ifCond .eq 14, 3) := by decide +kernel
theorem d_Shell_act_145 : decode prog_9_method_4_code 145 = .ok (.aload_n 0, 1) := by decide +kernel
theorem d_Shell_act_146 : decode prog_9_method_4_code 146 = .ok (.invokevirtual 80, 3) := by decide +kernel
theorem d_Shell_act_149 : decode prog_9_method_4_code 149 = .ok (.ifCond .eq 7, 3) := by decide +kernel
theorem d_Shell_act_152 : decode prog_9_method_4_code 152 = .ok (.iconst 1, 1) := by decide +kernel
theorem d_Shell_act_153 : decode prog_9_method_4_code 153 = .ok (.goto 4, 3) := by decide +kernel
theorem d_Shell_act_156 : decode prog_9_method_4_code 156 = .ok (.iconst 0, 1) := by decide +kernel
theorem d_Shell_act_157 : decode prog_9_method_4_code 157 = .ok (.ireturn, 1) := by decide +kernel
theorem d_Shell_act_158 : decode prog_9_method_4_code 158 = .ok (.aload_n 0, 1) := by decide +kernel
theorem d_Shell_act_159 : decode prog_9_method_4_code 159 = .ok (.getfield 22, 3) := by decide +kernel
theorem d_Shell_act_162 : decode prog_9_method_4_code 162 = .ok (.iconst 0, 1) := by decide +kernel
theorem d_Shell_act_163 : decode prog_9_method_4_code 163 = .ok (.ldc 83, 2) := by decide +kernel
theorem d_Shell_act_165 : decode prog_9_method_4_code 165 = .ok (.invokevirtual 61, 3) := by decide +kernel
theorem d_Shell_act_168 : decode prog_9_method_4_code 168 = .ok (.ifCond .eq 37, 3) := by decide +kernel
theorem d_Shell_act_171 : decode prog_9_method_4_code 171 = .ok (.iload_n 2, 1) := by decide +kernel
theorem d_Shell_act_172 : decode prog_9_method_4_code 172 = .ok (.iconst 3, 1) := by decide +kernel
theorem d_Shell_act_173 : decode prog_9_method_4_code 173 = .ok (.if_icmp .ne 30, 3) := by decide +kernel
theorem d_Shell_act_176 : decode prog_9_method_4_code 176 = .ok (.aload_n 0, 1) := by decide +kernel
theorem d_Shell_act_177 : decode prog_9_method_4_code 177 = .ok (.getfield 22, 3) := by decide +kernel
theorem d_Shell_act_180 : decode prog_9_method_4_code 180 = .ok (.aload_n 0, 1) := by decide +kernel
theorem d_Shell_act_181 : decode prog_9_method_4_code 181 = .ok (.getfield 18, 3) := by decide +kernel
theorem d_Shell_act_184 : decode prog_9_method_4_code 184 = .ok (.iconst 1, 1) := by decide +kernel
theorem d_Shell_act_185 : decode prog_9_method_4_code 185 = .ok (.iload_n 2, 1) := by decide +kernel
theorem d_Shell_act_186 : decode prog_9_method_4_code 186 = .ok (.invokevirtual 72, 3) := by decide +kernel
theorem d_Shell_act_189 : decode prog_9_method_4_code 189 = .ok (.ifCond .eq 14, 3) := by decide +kernel
theorem d_Shell_act_192 : decode prog_9_method_4_code 192 = .ok (.aload_n 0, 1) := by decide +kernel
theorem d_Shell_act_193 : decode prog_9_method_4_code 193 = .ok (.invokevirtual 85, 3) := by decide +kernel
theorem d_Shell_act_196 : decode prog_9_method_4_code 196 = .ok (.ifCond .eq 7, 3) := by decide +kernel
theorem d_Shell_act_199 : decode prog_9_method_4_code 199 = .ok (.iconst 1, 1) := by decide +kernel
theorem d_Shell_act_200 : decode prog_9_method_4_code 200 = .ok (.goto 4, 3) := by decide +kernel
theorem d_Shell_act_203 : decode prog_9_method_4_code 203 = .ok (.iconst 0, 1) := by decide +kernel
theorem d_Shell_act_204 : decode prog_9_method_4_code 204 = .ok (.ireturn, 1) := by decide +kernel
theorem d_Shell_act_205 : decode prog_9_method_4_code 205 = .ok (.aload_n 0, 1) := by decide +kernel
theorem d_Shell_act_206 : decode prog_9_method_4_code 206 = .ok (.getfield 22, 3) := by decide +kernel
theorem d_Shell_act_209 : decode prog_9_method_4_code 209 = .ok (.iconst 0, 1) := by decide +kernel
theorem d_Shell_act_210 : decode prog_9_method_4_code 210 = .ok (.ldc 88, 2) := by decide +kernel
theorem d_Shell_act_212 : decode prog_9_method_4_code 212 = .ok (.invokevirtual 61, 3) := by decide +kernel
theorem d_Shell_act_215 : decode prog_9_method_4_code 215 = .ok (.ifCond .eq 72, 3) := by decide +kernel
theorem d_Shell_act_218 : decode prog_9_method_4_code 218 = .ok (.iload_n 2, 1) := by decide +kernel
theorem d_Shell_act_219 : decode prog_9_method_4_code 219 = .ok (.iconst 4, 1) := by decide +kernel
theorem d_Shell_act_220 : decode prog_9_method_4_code 220 = .ok (.if_icmp .lt 65, 3) := by decide +kernel
theorem d_Shell_act_223 : decode prog_9_method_4_code 223 = .ok (.aload_n 0, 1) := by decide +kernel
theorem d_Shell_act_224 : decode prog_9_method_4_code 224 = .ok (.getfield 22, 3) := by decide +kernel
theorem d_Shell_act_227 : decode prog_9_method_4_code 227 = .ok (.iload_n 2, 1) := by decide +kernel
theorem d_Shell_act_228 : decode prog_9_method_4_code 228 = .ok (.iconst 2, 1) := by decide +kernel
theorem d_Shell_act_229 : decode prog_9_method_4_code 229 = .ok (.isub, 1) := by decide +kernel
theorem d_Shell_act_230 : decode prog_9_method_4_code 230 = .ok (.ldc 90, 2) := by decide +kernel
theorem d_Shell_act_232 : decode prog_9_method_4_code 232 = .ok (.invokevirtual 61, 3) := by decide +kernel
theorem d_Shell_act_235 : decode prog_9_method_4_code 235 = .ok (.ifCond .eq 50, 3) := by decide +kernel
theorem d_Shell_act_238 : decode prog_9_method_4_code 238 = .ok (.aload_n 0, 1) := by decide +kernel
theorem d_Shell_act_239 : decode prog_9_method_4_code 239 = .ok (.getfield 22, 3) := by decide +kernel
theorem d_Shell_act_242 : decode prog_9_method_4_code 242 = .ok (.aload_n 0, 1) := by decide +kernel
theorem d_Shell_act_243 : decode prog_9_method_4_code 243 = .ok (.getfield 18, 3) := by decide +kernel
theorem d_Shell_act_246 : decode prog_9_method_4_code 246 = .ok (.iconst 1, 1) := by decide +kernel
theorem d_Shell_act_247 : decode prog_9_method_4_code 247 = .ok (.iload_n 2, 1) := by decide +kernel
theorem d_Shell_act_248 : decode prog_9_method_4_code 248 = .ok (.iconst 2, 1) := by decide +kernel
theorem d_Shell_act_249 : decode prog_9_method_4_code 249 = .ok (.isub, 1) := by decide +kernel
theorem d_Shell_act_250 : decode prog_9_method_4_code 250 = .ok (.invokevirtual 72, 3) := by decide +kernel
theorem d_Shell_act_253 : decode prog_9_method_4_code 253 = .ok (.ifCond .eq 32, 3) := by decide +kernel
theorem d_Shell_act_256 : decode prog_9_method_4_code 256 = .ok (.aload_n 0, 1) := by decide +kernel
theorem d_Shell_act_257 : decode prog_9_method_4_code 257 = .ok (.getfield 22, 3) := by decide +kernel
theorem d_Shell_act_260 : decode prog_9_method_4_code 260 = .ok (.aload_n 0, 1) := by decide +kernel
theorem d_Shell_act_261 : decode prog_9_method_4_code 261 = .ok (.getfield 18, 3) := by decide +kernel
theorem d_Shell_act_264 : decode prog_9_method_4_code 264 = .ok (.iload_n 2, 1) := by decide +kernel
theorem d_Shell_act_265 : decode prog_9_method_4_code 265 = .ok (.iconst 1, 1) := by decide +kernel
theorem d_Shell_act_266 : decode prog_9_method_4_code 266 = .ok (.isub, 1) := by decide +kernel
theorem d_Shell_act_267 : decode prog_9_method_4_code 267 = .ok (.iload_n 2, 1) := by decide +kernel
theorem d_Shell_act_268 : decode prog_9_method_4_code 268 = .ok (.invokevirtual 72, 3) := by decide +kernel
theorem d_Shell_act_271 : decode prog_9_method_4_code 271 = .ok (.ifCond .eq 14, 3) := by decide +kernel
theorem d_Shell_act_274 : decode prog_9_method_4_code 274 = .ok (.aload_n 0, 1) := by decide +kernel
theorem d_Shell_act_275 : decode prog_9_method_4_code 275 = .ok (.invokevirtual 92, 3) := by decide +kernel
theorem d_Shell_act_278 : decode prog_9_method_4_code 278 = .ok (.ifCond .eq 7, 3) := by decide +kernel
theorem d_Shell_act_281 : decode prog_9_method_4_code 281 = .ok (.iconst 1, 1) := by decide +kernel
theorem d_Shell_act_282 : decode prog_9_method_4_code 282 = .ok (.goto 4, 3) := by decide +kernel
theorem d_Shell_act_285 : decode prog_9_method_4_code 285 = .ok (.iconst 0, 1) := by decide +kernel
theorem d_Shell_act_286 : decode prog_9_method_4_code 286 = .ok (.ireturn, 1) := by decide +kernel
theorem d_Shell_act_287 : decode prog_9_method_4_code 287 = .ok (.iconst 0, 1) := by decide +kernel
theorem d_Shell_act_288 : decode prog_9_method_4_code 288 = .ok (.ireturn, 1) := by decide +kernel
noncomputable def f_Shell_act (r0 : Option Nat) (r1 : Option Nat) (σ : rb_St) : Option rb_Rs :=
  (rb_gR σ r0 7 2).bind fun r_1 => (rb_fc σ r_1 6).bind fun _ => rb_cV (f_Words_clear (r_1)  σ) fun σ_2 => (rb_gR σ_2 r0 7 2).bind fun r_3 => (rb_fc σ_2 r1 2).bind fun _ => rb_cI (f_Text_length (r1)  σ_2) fun x_4 σ_5 => (rb_fc σ_5 r_3 6).bind fun _ => rb_cV (f_Words_addWords (r_3) ((0 : Int32)) (x_4) σ_5) fun σ_6 => (rb_gR σ_6 r0 7 2).bind fun r_7 => (rb_fc σ_6 r_7 6).bind fun _ => rb_cI (f_Words_count (r_7)  σ_6) fun x_8 σ_9 => if x_8 = 0 then (some (some (.int (1 : Int32)), σ_9)) else ((rb_gR σ_9 r0 7 2).bind fun r_10 => (rb_fc σ_9 r_10 6).bind fun _ => rb_cI (f_Words_is (r_10) ((0 : Int32)) ((some (rb_k σ_9 7))) σ_9) fun x_11 σ_12 => if x_11 = 0 then ((rb_gR σ_12 r0 7 2).bind fun r_13 => (rb_fc σ_12 r_13 6).bind fun _ => rb_cI (f_Words_is (r_13) ((0 : Int32)) ((some (rb_k σ_12 8))) σ_12) fun x_14 σ_15 => if x_14 = 0 then ((rb_gR σ_15 r0 7 2).bind fun r_16 => (rb_fc σ_15 r_16 6).bind fun _ => rb_cI (f_Words_is (r_16) ((0 : Int32)) ((some (rb_k σ_15 9))) σ_15) fun x_17 σ_18 => if x_17 = 0 then ((rb_gR σ_18 r0 7 2).bind fun r_19 => (rb_fc σ_18 r_19 6).bind fun _ => rb_cI (f_Words_is (r_19) ((0 : Int32)) ((some (rb_k σ_18 10))) σ_18) fun x_20 σ_21 => if x_20 = 0 then ((rb_gR σ_21 r0 7 2).bind fun r_22 => (rb_fc σ_21 r_22 6).bind fun _ => rb_cI (f_Words_is (r_22) ((0 : Int32)) ((some (rb_k σ_21 11))) σ_21) fun x_23 σ_24 => if x_23 = 0 then ((rb_gR σ_24 r0 7 2).bind fun r_25 => (rb_fc σ_24 r_25 6).bind fun _ => rb_cI (f_Words_is (r_25) ((0 : Int32)) ((some (rb_k σ_24 12))) σ_24) fun x_26 σ_27 => if x_26 = 0 then (some (some (.int (0 : Int32)), σ_27)) else (if x_8 < (4 : Int32) then (some (some (.int (0 : Int32)), σ_27)) else ((rb_gR σ_27 r0 7 2).bind fun r_28 => (rb_fc σ_27 r_28 6).bind fun _ => rb_cI (f_Words_is (r_28) ((x_8 - (2 : Int32))) ((some (rb_k σ_27 13))) σ_27) fun x_29 σ_30 => if x_29 = 0 then (some (some (.int (0 : Int32)), σ_30)) else ((rb_gR σ_30 r0 7 2).bind fun r_31 => (rb_gR σ_30 r0 7 1).bind fun r_32 => (rb_fc σ_30 r_31 6).bind fun _ => rb_cI (f_Words_meet (r_31) (r_32) ((1 : Int32)) ((x_8 - (2 : Int32))) σ_30) fun x_33 σ_34 => if x_33 = 0 then (some (some (.int (0 : Int32)), σ_34)) else ((rb_gR σ_34 r0 7 2).bind fun r_35 => (rb_gR σ_34 r0 7 1).bind fun r_36 => (rb_fc σ_34 r_35 6).bind fun _ => rb_cI (f_Words_meet (r_35) (r_36) ((x_8 - (1 : Int32))) (x_8) σ_34) fun x_37 σ_38 => if x_37 = 0 then (some (some (.int (0 : Int32)), σ_38)) else ((rb_fc σ_38 r0 7).bind fun _ => rb_cI (f_Shell_concatenate (r0)  σ_38) fun x_39 σ_40 => if x_39 = 0 then (some (some (.int (0 : Int32)), σ_40)) else (some (some (.int (1 : Int32)), σ_40)))))))) else (if x_8 = (3 : Int32) then ((rb_gR σ_24 r0 7 2).bind fun r_41 => (rb_gR σ_24 r0 7 1).bind fun r_42 => (rb_fc σ_24 r_41 6).bind fun _ => rb_cI (f_Words_meet (r_41) (r_42) ((1 : Int32)) (x_8) σ_24) fun x_43 σ_44 => if x_43 = 0 then (some (some (.int (0 : Int32)), σ_44)) else ((rb_fc σ_44 r0 7).bind fun _ => rb_cI (f_Shell_copy (r0)  σ_44) fun x_45 σ_46 => if x_45 = 0 then (some (some (.int (0 : Int32)), σ_46)) else (some (some (.int (1 : Int32)), σ_46)))) else (some (some (.int (0 : Int32)), σ_24)))) else (if x_8 < (2 : Int32) then (some (some (.int (0 : Int32)), σ_21)) else ((rb_gR σ_21 r0 7 2).bind fun r_47 => (rb_gR σ_21 r0 7 1).bind fun r_48 => (rb_fc σ_21 r_47 6).bind fun _ => rb_cI (f_Words_meet (r_47) (r_48) ((1 : Int32)) (x_8) σ_21) fun x_49 σ_50 => if x_49 = 0 then (some (some (.int (0 : Int32)), σ_50)) else ((rb_fc σ_50 r0 7).bind fun _ => rb_cI (f_Shell_remove (r0)  σ_50) fun x_51 σ_52 => if x_51 = 0 then (some (some (.int (0 : Int32)), σ_52)) else (some (some (.int (1 : Int32)), σ_52)))))) else (if x_8 < (2 : Int32) then (some (some (.int (0 : Int32)), σ_18)) else ((rb_gR σ_18 r0 7 2).bind fun r_53 => (rb_gR σ_18 r0 7 1).bind fun r_54 => (rb_fc σ_18 r_53 6).bind fun _ => rb_cI (f_Words_meet (r_53) (r_54) ((1 : Int32)) (x_8) σ_18) fun x_55 σ_56 => if x_55 = 0 then (some (some (.int (0 : Int32)), σ_56)) else ((rb_fc σ_56 r0 7).bind fun _ => rb_cI (f_Shell_touch (r0)  σ_56) fun x_57 σ_58 => if x_57 = 0 then (some (some (.int (0 : Int32)), σ_58)) else (some (some (.int (1 : Int32)), σ_58)))))) else ((rb_fc σ_15 r0 7).bind fun _ => rb_cI (f_Shell_echo (r0)  σ_15) fun x_59 σ_60 => if rb_isZ x_59 then some (some (.int x_59), σ_60) else none)) else (some (some (.int (1 : Int32)), σ_12)))
theorem s_Shell_act {E : rb_EV} {d : Nat} (hdd : 8 ≤ d) (r0 : Option Nat) (r1 : Option Nat) (σ : rb_St) : rb_Does E k_Shell_act d [va_rf r0, va_rf r1] σ (f_Shell_act r0 r1 σ) := by
  refine rb_start (lv := [some (va_rf r0), some (va_rf r1), none]) (by decide) (by simp [lg_sl, rb_as, lv_args, rb_cat_r, rb_cat_i, rb_cat_l, rb_nL, k_Shell_act]) (fun res => ?_)
  unfold f_Shell_act
  refine rb_TC.mono (rk_aload_n 0 d_Shell_act_0 rfl rfl) ?_
  refine rt_gR r0 fw_Shell_22 d_Shell_act_1 (fun r_1 => ?_)
  refine rt_vV (As := []) (st := []) (r_1) vw_Shell_47 (s_Words_clear (Nat.le_refl _) (r_1)  σ) (Nat.le_trans (by decide) hdd) rfl (by simp [rb_cat_r, rb_cat_i, rb_cat_l]) d_Shell_act_4 (fun σ_2 => ?_)
  refine rb_TC.mono (rk_aload_n 0 d_Shell_act_7 rfl rfl) ?_
  refine rt_gR r0 fw_Shell_22 d_Shell_act_8 (fun r_3 => ?_)
  refine rb_TC.mono (rk_iconst (0 : Int32) d_Shell_act_11 (by decide)) ?_
  refine rb_TC.mono (rk_aload_n 1 d_Shell_act_12 rfl rfl) ?_
  refine rt_vI (As := []) (st := [.int (0 : Int32), va_rf r_3]) (r1) vw_Shell_42 (s_Text_length (Nat.le_refl _) (r1)  σ_2) (Nat.le_trans (by decide) hdd) rfl (by simp [rb_cat_r, rb_cat_i, rb_cat_l]) d_Shell_act_13 (fun x_4 σ_5 => ?_)
  refine rt_vV (As := [.int (0 : Int32), .int x_4]) (st := []) (r_3) vw_Shell_52 (s_Words_addWords (Nat.le_refl _) (r_3) ((0 : Int32)) (x_4) σ_5) (Nat.le_trans (by decide) hdd) rfl (by simp [rb_cat_r, rb_cat_i, rb_cat_l]) d_Shell_act_16 (fun σ_6 => ?_)
  refine rb_TC.mono (rk_aload_n 0 d_Shell_act_19 rfl rfl) ?_
  refine rt_gR r0 fw_Shell_22 d_Shell_act_20 (fun r_7 => ?_)
  refine rt_vI (As := []) (st := []) (r_7) vw_Shell_56 (s_Words_count (Nat.le_refl _) (r_7)  σ_6) (Nat.le_trans (by decide) hdd) rfl (by simp [rb_cat_r, rb_cat_i, rb_cat_l]) d_Shell_act_23 (fun x_8 σ_9 => ?_)
  refine rb_TC.mono (rk_istore_n (lv2 := [some (va_rf r0), some (va_rf r1), some (.int x_8)]) 2 d_Shell_act_26 rfl (by decide) (fun _ => rb_one_r) rfl) ?_
  refine rb_TC.mono (rk_iload_n 2 d_Shell_act_27 rfl rfl) ?_
  refine rt_if_eq 44 d_Shell_act_28 (by decide) (fun _ => ?_) (fun _ => ?_)
  · refine rb_TC.mono (rk_iconst (1 : Int32) d_Shell_act_44 (by decide)) ?_
    exact rt_iret (ty := .boolean) rfl (by decide) (fun h => h) d_Shell_act_45
  · refine rb_TC.mono (rk_aload_n 0 d_Shell_act_31 rfl rfl) ?_
    refine rt_gR r0 fw_Shell_22 d_Shell_act_32 (fun r_10 => ?_)
    refine rb_TC.mono (rk_iconst (0 : Int32) d_Shell_act_35 (by decide)) ?_
    refine rb_TC.mono (rk_ldcs (no := 7) (by decide) d_Shell_act_36) ?_
    refine rt_vI (As := [.int (0 : Int32), va_rf (some (rb_k σ_9 7))]) (st := []) (r_10) vw_Shell_61 (s_Words_is (Nat.le_refl _) (r_10) ((0 : Int32)) ((some (rb_k σ_9 7))) σ_9) (Nat.le_trans (by decide) hdd) rfl (by simp [rb_cat_r, rb_cat_i, rb_cat_l]) d_Shell_act_38 (fun x_11 σ_12 => ?_)
    refine rt_if_eq 46 d_Shell_act_41 (by decide) (fun _ => ?_) (fun _ => ?_)
    · refine rb_TC.mono (rk_aload_n 0 d_Shell_act_46 rfl rfl) ?_
      refine rt_gR r0 fw_Shell_22 d_Shell_act_47 (fun r_13 => ?_)
      refine rb_TC.mono (rk_iconst (0 : Int32) d_Shell_act_50 (by decide)) ?_
      refine rb_TC.mono (rk_ldcs (no := 8) (by decide) d_Shell_act_51) ?_
      refine rt_vI (As := [.int (0 : Int32), va_rf (some (rb_k σ_12 8))]) (st := []) (r_13) vw_Shell_61 (s_Words_is (Nat.le_refl _) (r_13) ((0 : Int32)) ((some (rb_k σ_12 8))) σ_12) (Nat.le_trans (by decide) hdd) rfl (by simp [rb_cat_r, rb_cat_i, rb_cat_l]) d_Shell_act_53 (fun x_14 σ_15 => ?_)
      refine rt_if_eq 64 d_Shell_act_56 (by decide) (fun _ => ?_) (fun _ => ?_)
      · refine rb_TC.mono (rk_aload_n 0 d_Shell_act_64 rfl rfl) ?_
        refine rt_gR r0 fw_Shell_22 d_Shell_act_65 (fun r_16 => ?_)
        refine rb_TC.mono (rk_iconst (0 : Int32) d_Shell_act_68 (by decide)) ?_
        refine rb_TC.mono (rk_ldcs (no := 9) (by decide) d_Shell_act_69) ?_
        refine rt_vI (As := [.int (0 : Int32), va_rf (some (rb_k σ_15 9))]) (st := []) (r_16) vw_Shell_61 (s_Words_is (Nat.le_refl _) (r_16) ((0 : Int32)) ((some (rb_k σ_15 9))) σ_15) (Nat.le_trans (by decide) hdd) rfl (by simp [rb_cat_r, rb_cat_i, rb_cat_l]) d_Shell_act_71 (fun x_17 σ_18 => ?_)
        refine rt_if_eq 111 d_Shell_act_74 (by decide) (fun _ => ?_) (fun _ => ?_)
        · refine rb_TC.mono (rk_aload_n 0 d_Shell_act_111 rfl rfl) ?_
          refine rt_gR r0 fw_Shell_22 d_Shell_act_112 (fun r_19 => ?_)
          refine rb_TC.mono (rk_iconst (0 : Int32) d_Shell_act_115 (by decide)) ?_
          refine rb_TC.mono (rk_ldcs (no := 10) (by decide) d_Shell_act_116) ?_
          refine rt_vI (As := [.int (0 : Int32), va_rf (some (rb_k σ_18 10))]) (st := []) (r_19) vw_Shell_61 (s_Words_is (Nat.le_refl _) (r_19) ((0 : Int32)) ((some (rb_k σ_18 10))) σ_18) (Nat.le_trans (by decide) hdd) rfl (by simp [rb_cat_r, rb_cat_i, rb_cat_l]) d_Shell_act_118 (fun x_20 σ_21 => ?_)
          refine rt_if_eq 158 d_Shell_act_121 (by decide) (fun _ => ?_) (fun _ => ?_)
          · refine rb_TC.mono (rk_aload_n 0 d_Shell_act_158 rfl rfl) ?_
            refine rt_gR r0 fw_Shell_22 d_Shell_act_159 (fun r_22 => ?_)
            refine rb_TC.mono (rk_iconst (0 : Int32) d_Shell_act_162 (by decide)) ?_
            refine rb_TC.mono (rk_ldcs (no := 11) (by decide) d_Shell_act_163) ?_
            refine rt_vI (As := [.int (0 : Int32), va_rf (some (rb_k σ_21 11))]) (st := []) (r_22) vw_Shell_61 (s_Words_is (Nat.le_refl _) (r_22) ((0 : Int32)) ((some (rb_k σ_21 11))) σ_21) (Nat.le_trans (by decide) hdd) rfl (by simp [rb_cat_r, rb_cat_i, rb_cat_l]) d_Shell_act_165 (fun x_23 σ_24 => ?_)
            refine rt_if_eq 205 d_Shell_act_168 (by decide) (fun _ => ?_) (fun _ => ?_)
            · refine rb_TC.mono (rk_aload_n 0 d_Shell_act_205 rfl rfl) ?_
              refine rt_gR r0 fw_Shell_22 d_Shell_act_206 (fun r_25 => ?_)
              refine rb_TC.mono (rk_iconst (0 : Int32) d_Shell_act_209 (by decide)) ?_
              refine rb_TC.mono (rk_ldcs (no := 12) (by decide) d_Shell_act_210) ?_
              refine rt_vI (As := [.int (0 : Int32), va_rf (some (rb_k σ_24 12))]) (st := []) (r_25) vw_Shell_61 (s_Words_is (Nat.le_refl _) (r_25) ((0 : Int32)) ((some (rb_k σ_24 12))) σ_24) (Nat.le_trans (by decide) hdd) rfl (by simp [rb_cat_r, rb_cat_i, rb_cat_l]) d_Shell_act_212 (fun x_26 σ_27 => ?_)
              refine rt_if_eq 287 d_Shell_act_215 (by decide) (fun _ => ?_) (fun _ => ?_)
              · refine rb_TC.mono (rk_iconst (0 : Int32) d_Shell_act_287 (by decide)) ?_
                exact rt_iret (ty := .boolean) rfl (by decide) (fun h => h) d_Shell_act_288
              · refine rb_TC.mono (rk_iload_n 2 d_Shell_act_218 rfl rfl) ?_
                refine rb_TC.mono (rk_iconst (4 : Int32) d_Shell_act_219 (by decide)) ?_
                refine rt_icmp_lt 285 d_Shell_act_220 (by decide) (fun _ => ?_) (fun _ => ?_)
                · refine rb_TC.mono (rk_iconst (0 : Int32) d_Shell_act_285 (by decide)) ?_
                  exact rt_iret (ty := .boolean) rfl (by decide) (fun h => h) d_Shell_act_286
                · refine rb_TC.mono (rk_aload_n 0 d_Shell_act_223 rfl rfl) ?_
                  refine rt_gR r0 fw_Shell_22 d_Shell_act_224 (fun r_28 => ?_)
                  refine rb_TC.mono (rk_iload_n 2 d_Shell_act_227 rfl rfl) ?_
                  refine rb_TC.mono (rk_iconst (2 : Int32) d_Shell_act_228 (by decide)) ?_
                  refine rb_TC.mono (rk_isub d_Shell_act_229) ?_
                  refine rb_TC.mono (rk_ldcs (no := 13) (by decide) d_Shell_act_230) ?_
                  refine rt_vI (As := [.int (x_8 - (2 : Int32)), va_rf (some (rb_k σ_27 13))]) (st := []) (r_28) vw_Shell_61 (s_Words_is (Nat.le_refl _) (r_28) ((x_8 - (2 : Int32))) ((some (rb_k σ_27 13))) σ_27) (Nat.le_trans (by decide) hdd) rfl (by simp [rb_cat_r, rb_cat_i, rb_cat_l]) d_Shell_act_232 (fun x_29 σ_30 => ?_)
                  refine rt_if_eq 285 d_Shell_act_235 (by decide) (fun _ => ?_) (fun _ => ?_)
                  · refine rb_TC.mono (rk_iconst (0 : Int32) d_Shell_act_285 (by decide)) ?_
                    exact rt_iret (ty := .boolean) rfl (by decide) (fun h => h) d_Shell_act_286
                  · refine rb_TC.mono (rk_aload_n 0 d_Shell_act_238 rfl rfl) ?_
                    refine rt_gR r0 fw_Shell_22 d_Shell_act_239 (fun r_31 => ?_)
                    refine rb_TC.mono (rk_aload_n 0 d_Shell_act_242 rfl rfl) ?_
                    refine rt_gR r0 fw_Shell_18 d_Shell_act_243 (fun r_32 => ?_)
                    refine rb_TC.mono (rk_iconst (1 : Int32) d_Shell_act_246 (by decide)) ?_
                    refine rb_TC.mono (rk_iload_n 2 d_Shell_act_247 rfl rfl) ?_
                    refine rb_TC.mono (rk_iconst (2 : Int32) d_Shell_act_248 (by decide)) ?_
                    refine rb_TC.mono (rk_isub d_Shell_act_249) ?_
                    refine rt_vI (As := [va_rf r_32, .int (1 : Int32), .int (x_8 - (2 : Int32))]) (st := []) (r_31) vw_Shell_72 (s_Words_meet (Nat.le_refl _) (r_31) (r_32) ((1 : Int32)) ((x_8 - (2 : Int32))) σ_30) (Nat.le_trans (by decide) hdd) rfl (by simp [rb_cat_r, rb_cat_i, rb_cat_l]) d_Shell_act_250 (fun x_33 σ_34 => ?_)
                    refine rt_if_eq 285 d_Shell_act_253 (by decide) (fun _ => ?_) (fun _ => ?_)
                    · refine rb_TC.mono (rk_iconst (0 : Int32) d_Shell_act_285 (by decide)) ?_
                      exact rt_iret (ty := .boolean) rfl (by decide) (fun h => h) d_Shell_act_286
                    · refine rb_TC.mono (rk_aload_n 0 d_Shell_act_256 rfl rfl) ?_
                      refine rt_gR r0 fw_Shell_22 d_Shell_act_257 (fun r_35 => ?_)
                      refine rb_TC.mono (rk_aload_n 0 d_Shell_act_260 rfl rfl) ?_
                      refine rt_gR r0 fw_Shell_18 d_Shell_act_261 (fun r_36 => ?_)
                      refine rb_TC.mono (rk_iload_n 2 d_Shell_act_264 rfl rfl) ?_
                      refine rb_TC.mono (rk_iconst (1 : Int32) d_Shell_act_265 (by decide)) ?_
                      refine rb_TC.mono (rk_isub d_Shell_act_266) ?_
                      refine rb_TC.mono (rk_iload_n 2 d_Shell_act_267 rfl rfl) ?_
                      refine rt_vI (As := [va_rf r_36, .int (x_8 - (1 : Int32)), .int x_8]) (st := []) (r_35) vw_Shell_72 (s_Words_meet (Nat.le_refl _) (r_35) (r_36) ((x_8 - (1 : Int32))) (x_8) σ_34) (Nat.le_trans (by decide) hdd) rfl (by simp [rb_cat_r, rb_cat_i, rb_cat_l]) d_Shell_act_268 (fun x_37 σ_38 => ?_)
                      refine rt_if_eq 285 d_Shell_act_271 (by decide) (fun _ => ?_) (fun _ => ?_)
                      · refine rb_TC.mono (rk_iconst (0 : Int32) d_Shell_act_285 (by decide)) ?_
                        exact rt_iret (ty := .boolean) rfl (by decide) (fun h => h) d_Shell_act_286
                      · refine rb_TC.mono (rk_aload_n 0 d_Shell_act_274 rfl rfl) ?_
                        refine rt_vI (As := []) (st := []) (r0) vw_Shell_92 (s_Shell_concatenate (Nat.le_refl _) (r0)  σ_38) (Nat.le_trans (by decide) hdd) rfl (by simp [rb_cat_r, rb_cat_i, rb_cat_l]) d_Shell_act_275 (fun x_39 σ_40 => ?_)
                        refine rt_if_eq 285 d_Shell_act_278 (by decide) (fun _ => ?_) (fun _ => ?_)
                        · refine rb_TC.mono (rk_iconst (0 : Int32) d_Shell_act_285 (by decide)) ?_
                          exact rt_iret (ty := .boolean) rfl (by decide) (fun h => h) d_Shell_act_286
                        · refine rb_TC.mono (rk_iconst (1 : Int32) d_Shell_act_281 (by decide)) ?_
                          refine rb_TC.mono (rk_goto 286 d_Shell_act_282 (by decide)) ?_
                          exact rt_iret (ty := .boolean) rfl (by decide) (fun h => h) d_Shell_act_286
            · refine rb_TC.mono (rk_iload_n 2 d_Shell_act_171 rfl rfl) ?_
              refine rb_TC.mono (rk_iconst (3 : Int32) d_Shell_act_172 (by decide)) ?_
              refine rt_icmp_ne 203 d_Shell_act_173 (by decide) (fun _ => ?_) (fun _ => ?_)
              · refine rb_TC.mono (rk_aload_n 0 d_Shell_act_176 rfl rfl) ?_
                refine rt_gR r0 fw_Shell_22 d_Shell_act_177 (fun r_41 => ?_)
                refine rb_TC.mono (rk_aload_n 0 d_Shell_act_180 rfl rfl) ?_
                refine rt_gR r0 fw_Shell_18 d_Shell_act_181 (fun r_42 => ?_)
                refine rb_TC.mono (rk_iconst (1 : Int32) d_Shell_act_184 (by decide)) ?_
                refine rb_TC.mono (rk_iload_n 2 d_Shell_act_185 rfl rfl) ?_
                refine rt_vI (As := [va_rf r_42, .int (1 : Int32), .int x_8]) (st := []) (r_41) vw_Shell_72 (s_Words_meet (Nat.le_refl _) (r_41) (r_42) ((1 : Int32)) (x_8) σ_24) (Nat.le_trans (by decide) hdd) rfl (by simp [rb_cat_r, rb_cat_i, rb_cat_l]) d_Shell_act_186 (fun x_43 σ_44 => ?_)
                refine rt_if_eq 203 d_Shell_act_189 (by decide) (fun _ => ?_) (fun _ => ?_)
                · refine rb_TC.mono (rk_iconst (0 : Int32) d_Shell_act_203 (by decide)) ?_
                  exact rt_iret (ty := .boolean) rfl (by decide) (fun h => h) d_Shell_act_204
                · refine rb_TC.mono (rk_aload_n 0 d_Shell_act_192 rfl rfl) ?_
                  refine rt_vI (As := []) (st := []) (r0) vw_Shell_85 (s_Shell_copy (Nat.le_refl _) (r0)  σ_44) (Nat.le_trans (by decide) hdd) rfl (by simp [rb_cat_r, rb_cat_i, rb_cat_l]) d_Shell_act_193 (fun x_45 σ_46 => ?_)
                  refine rt_if_eq 203 d_Shell_act_196 (by decide) (fun _ => ?_) (fun _ => ?_)
                  · refine rb_TC.mono (rk_iconst (0 : Int32) d_Shell_act_203 (by decide)) ?_
                    exact rt_iret (ty := .boolean) rfl (by decide) (fun h => h) d_Shell_act_204
                  · refine rb_TC.mono (rk_iconst (1 : Int32) d_Shell_act_199 (by decide)) ?_
                    refine rb_TC.mono (rk_goto 204 d_Shell_act_200 (by decide)) ?_
                    exact rt_iret (ty := .boolean) rfl (by decide) (fun h => h) d_Shell_act_204
              · refine rb_TC.mono (rk_iconst (0 : Int32) d_Shell_act_203 (by decide)) ?_
                exact rt_iret (ty := .boolean) rfl (by decide) (fun h => h) d_Shell_act_204
          · refine rb_TC.mono (rk_iload_n 2 d_Shell_act_124 rfl rfl) ?_
            refine rb_TC.mono (rk_iconst (2 : Int32) d_Shell_act_125 (by decide)) ?_
            refine rt_icmp_lt 156 d_Shell_act_126 (by decide) (fun _ => ?_) (fun _ => ?_)
            · refine rb_TC.mono (rk_iconst (0 : Int32) d_Shell_act_156 (by decide)) ?_
              exact rt_iret (ty := .boolean) rfl (by decide) (fun h => h) d_Shell_act_157
            · refine rb_TC.mono (rk_aload_n 0 d_Shell_act_129 rfl rfl) ?_
              refine rt_gR r0 fw_Shell_22 d_Shell_act_130 (fun r_47 => ?_)
              refine rb_TC.mono (rk_aload_n 0 d_Shell_act_133 rfl rfl) ?_
              refine rt_gR r0 fw_Shell_18 d_Shell_act_134 (fun r_48 => ?_)
              refine rb_TC.mono (rk_iconst (1 : Int32) d_Shell_act_137 (by decide)) ?_
              refine rb_TC.mono (rk_iload_n 2 d_Shell_act_138 rfl rfl) ?_
              refine rt_vI (As := [va_rf r_48, .int (1 : Int32), .int x_8]) (st := []) (r_47) vw_Shell_72 (s_Words_meet (Nat.le_refl _) (r_47) (r_48) ((1 : Int32)) (x_8) σ_21) (Nat.le_trans (by decide) hdd) rfl (by simp [rb_cat_r, rb_cat_i, rb_cat_l]) d_Shell_act_139 (fun x_49 σ_50 => ?_)
              refine rt_if_eq 156 d_Shell_act_142 (by decide) (fun _ => ?_) (fun _ => ?_)
              · refine rb_TC.mono (rk_iconst (0 : Int32) d_Shell_act_156 (by decide)) ?_
                exact rt_iret (ty := .boolean) rfl (by decide) (fun h => h) d_Shell_act_157
              · refine rb_TC.mono (rk_aload_n 0 d_Shell_act_145 rfl rfl) ?_
                refine rt_vI (As := []) (st := []) (r0) vw_Shell_80 (s_Shell_remove (Nat.le_refl _) (r0)  σ_50) (Nat.le_trans (by decide) hdd) rfl (by simp [rb_cat_r, rb_cat_i, rb_cat_l]) d_Shell_act_146 (fun x_51 σ_52 => ?_)
                refine rt_if_eq 156 d_Shell_act_149 (by decide) (fun _ => ?_) (fun _ => ?_)
                · refine rb_TC.mono (rk_iconst (0 : Int32) d_Shell_act_156 (by decide)) ?_
                  exact rt_iret (ty := .boolean) rfl (by decide) (fun h => h) d_Shell_act_157
                · refine rb_TC.mono (rk_iconst (1 : Int32) d_Shell_act_152 (by decide)) ?_
                  refine rb_TC.mono (rk_goto 157 d_Shell_act_153 (by decide)) ?_
                  exact rt_iret (ty := .boolean) rfl (by decide) (fun h => h) d_Shell_act_157
        · refine rb_TC.mono (rk_iload_n 2 d_Shell_act_77 rfl rfl) ?_
          refine rb_TC.mono (rk_iconst (2 : Int32) d_Shell_act_78 (by decide)) ?_
          refine rt_icmp_lt 109 d_Shell_act_79 (by decide) (fun _ => ?_) (fun _ => ?_)
          · refine rb_TC.mono (rk_iconst (0 : Int32) d_Shell_act_109 (by decide)) ?_
            exact rt_iret (ty := .boolean) rfl (by decide) (fun h => h) d_Shell_act_110
          · refine rb_TC.mono (rk_aload_n 0 d_Shell_act_82 rfl rfl) ?_
            refine rt_gR r0 fw_Shell_22 d_Shell_act_83 (fun r_53 => ?_)
            refine rb_TC.mono (rk_aload_n 0 d_Shell_act_86 rfl rfl) ?_
            refine rt_gR r0 fw_Shell_18 d_Shell_act_87 (fun r_54 => ?_)
            refine rb_TC.mono (rk_iconst (1 : Int32) d_Shell_act_90 (by decide)) ?_
            refine rb_TC.mono (rk_iload_n 2 d_Shell_act_91 rfl rfl) ?_
            refine rt_vI (As := [va_rf r_54, .int (1 : Int32), .int x_8]) (st := []) (r_53) vw_Shell_72 (s_Words_meet (Nat.le_refl _) (r_53) (r_54) ((1 : Int32)) (x_8) σ_18) (Nat.le_trans (by decide) hdd) rfl (by simp [rb_cat_r, rb_cat_i, rb_cat_l]) d_Shell_act_92 (fun x_55 σ_56 => ?_)
            refine rt_if_eq 109 d_Shell_act_95 (by decide) (fun _ => ?_) (fun _ => ?_)
            · refine rb_TC.mono (rk_iconst (0 : Int32) d_Shell_act_109 (by decide)) ?_
              exact rt_iret (ty := .boolean) rfl (by decide) (fun h => h) d_Shell_act_110
            · refine rb_TC.mono (rk_aload_n 0 d_Shell_act_98 rfl rfl) ?_
              refine rt_vI (As := []) (st := []) (r0) vw_Shell_76 (s_Shell_touch (Nat.le_refl _) (r0)  σ_56) (Nat.le_trans (by decide) hdd) rfl (by simp [rb_cat_r, rb_cat_i, rb_cat_l]) d_Shell_act_99 (fun x_57 σ_58 => ?_)
              refine rt_if_eq 109 d_Shell_act_102 (by decide) (fun _ => ?_) (fun _ => ?_)
              · refine rb_TC.mono (rk_iconst (0 : Int32) d_Shell_act_109 (by decide)) ?_
                exact rt_iret (ty := .boolean) rfl (by decide) (fun h => h) d_Shell_act_110
              · refine rb_TC.mono (rk_iconst (1 : Int32) d_Shell_act_105 (by decide)) ?_
                refine rb_TC.mono (rk_goto 110 d_Shell_act_106 (by decide)) ?_
                exact rt_iret (ty := .boolean) rfl (by decide) (fun h => h) d_Shell_act_110
      · refine rb_TC.mono (rk_aload_n 0 d_Shell_act_59 rfl rfl) ?_
        refine rt_vI (As := []) (st := []) (r0) vw_Shell_67 (s_Shell_echo (Nat.le_refl _) (r0)  σ_15) (Nat.le_trans (by decide) hdd) rfl (by simp [rb_cat_r, rb_cat_i, rb_cat_l]) d_Shell_act_60 (fun x_59 σ_60 => ?_)
        refine rb_TC.ite (fun hn => ?_) (fun _ => rb_TC.none)
        exact rt_iret (ty := .boolean) rfl (rb_nar_Z hn) (fun h => h) d_Shell_act_63
    · refine rb_TC.mono (rk_iconst (1 : Int32) d_Shell_act_44 (by decide)) ?_
      exact rt_iret (ty := .boolean) rfl (by decide) (fun h => h) d_Shell_act_45
-- ===== RuleBuilder$Reader.<init>(LRuleBuilder$Store;LRuleBuilder$Rules;LRuleBuilder$Expander;LRuleBuilder$Words;)V
def k_Reader_init : rb_MK := (⟨"RuleBuilder$Reader", "<init>", "(LRuleBuilder$Store;LRuleBuilder$Rules;LRuleBuilder$Expander;LRuleBuilder$Words;)V"⟩, prog_7_method_1_code, 5, none)
theorem mw_Reader_init : rb_Mw k_Reader_init 4 := ⟨rb_inG 299 (by decide +kernel) rfl, rb_inG 92 (by decide +kernel) rfl, ⟨by decide, by decide, by decide +kernel⟩, by decide⟩
theorem fw_Reader_14 : rb_Fw "RuleBuilder$Reader" 14 8 4 := ⟨_, rfl, by decide, by decide, by decide, rfl, rb_inG 307 (by decide +kernel) rfl⟩
theorem fp_Reader_init_14 : rb_Fp k_Reader_init 14 8 4 (.object "RuleBuilder$Text") ∧ ((∃ n, (.object "RuleBuilder$Text" : FieldType) = .object n) ∨ ∃ t, (.object "RuleBuilder$Text" : FieldType) = .array t) := ⟨⟨fw_Reader_14, rfl, fun q h => by cases h; exact Or.inr ⟨rfl, rfl, rfl⟩⟩, Or.inl ⟨_, rfl⟩⟩
theorem fw_Reader_20 : rb_Fw "RuleBuilder$Reader" 20 8 0 := ⟨_, rfl, by decide, by decide, by decide, rfl, rb_inG 303 (by decide +kernel) rfl⟩
theorem fp_Reader_init_20 : rb_Fp k_Reader_init 20 8 0 (.object "RuleBuilder$Store") ∧ ((∃ n, (.object "RuleBuilder$Store" : FieldType) = .object n) ∨ ∃ t, (.object "RuleBuilder$Store" : FieldType) = .array t) := ⟨⟨fw_Reader_20, rfl, fun q h => by cases h; exact Or.inr ⟨rfl, rfl, rfl⟩⟩, Or.inl ⟨_, rfl⟩⟩
theorem fw_Reader_24 : rb_Fw "RuleBuilder$Reader" 24 8 1 := ⟨_, rfl, by decide, by decide, by decide, rfl, rb_inG 304 (by decide +kernel) rfl⟩
theorem fp_Reader_init_24 : rb_Fp k_Reader_init 24 8 1 (.object "RuleBuilder$Rules") ∧ ((∃ n, (.object "RuleBuilder$Rules" : FieldType) = .object n) ∨ ∃ t, (.object "RuleBuilder$Rules" : FieldType) = .array t) := ⟨⟨fw_Reader_24, rfl, fun q h => by cases h; exact Or.inr ⟨rfl, rfl, rfl⟩⟩, Or.inl ⟨_, rfl⟩⟩
theorem fw_Reader_28 : rb_Fw "RuleBuilder$Reader" 28 8 2 := ⟨_, rfl, by decide, by decide, by decide, rfl, rb_inG 305 (by decide +kernel) rfl⟩
theorem fp_Reader_init_28 : rb_Fp k_Reader_init 28 8 2 (.object "RuleBuilder$Expander") ∧ ((∃ n, (.object "RuleBuilder$Expander" : FieldType) = .object n) ∨ ∃ t, (.object "RuleBuilder$Expander" : FieldType) = .array t) := ⟨⟨fw_Reader_28, rfl, fun q h => by cases h; exact Or.inr ⟨rfl, rfl, rfl⟩⟩, Or.inl ⟨_, rfl⟩⟩
theorem fw_Reader_32 : rb_Fw "RuleBuilder$Reader" 32 8 3 := ⟨_, rfl, by decide, by decide, by decide, rfl, rb_inG 306 (by decide +kernel) rfl⟩
theorem fp_Reader_init_32 : rb_Fp k_Reader_init 32 8 3 (.object "RuleBuilder$Words") ∧ ((∃ n, (.object "RuleBuilder$Words" : FieldType) = .object n) ∨ ∃ t, (.object "RuleBuilder$Words" : FieldType) = .array t) := ⟨⟨fw_Reader_32, rfl, fun q h => by cases h; exact Or.inr ⟨rfl, rfl, rfl⟩⟩, Or.inl ⟨_, rfl⟩⟩
theorem iw_Reader_11 : rb_Iw "RuleBuilder$Reader" 11 k_Text_init 1 := ⟨mw_Text_init, rfl, rfl, rb_inG 116 (by decide +kernel) rfl, Or.inl (rb_inG 302 (by decide +kernel) rfl)⟩
theorem w_ml_Reader_3 : Cond.methodLink "RuleBuilder$Reader" 3 Lib.objectInit ∈ rb_G := rb_inG 300 (by decide +kernel) rfl
theorem ow_Reader_9 : rb_Ow "RuleBuilder$Reader" 9 2 := ⟨_, rfl, by decide, by decide, rb_inG 301 (by decide +kernel) rfl, rb_ins2, rb_ini2, rfl, by decide⟩
theorem d_Reader_init_0 : decode prog_7_method_1_code 0 = .ok (.aload_n 0, 1) := by decide +kernel
theorem d_Reader_init_1 : decode prog_7_method_1_code 1 = .ok (.invokespecial 3, 3) := by decide +kernel
theorem d_Reader_init_4 : decode prog_7_method_1_code 4 = .ok (.aload_n 0, 1) := by decide +kernel
theorem d_Reader_init_5 : decode prog_7_method_1_code 5 = .ok (.new 9, 3) := by decide +kernel
theorem d_Reader_init_8 : decode prog_7_method_1_code 8 = .ok (.dup, 1) := by decide +kernel
theorem d_Reader_init_9 : decode prog_7_method_1_code 9 = .ok (.sipush 320, 3) := by decide +kernel
theorem d_Reader_init_12 : decode prog_7_method_1_code 12 = .ok (.invokespecial 11, 3) := by decide +kernel
theorem d_Reader_init_15 : decode prog_7_method_1_code 15 = .ok (.putfield 14, 3) := by decide +kernel
theorem d_Reader_init_18 : decode prog_7_method_1_code 18 = .ok (.aload_n 0, 1) := by decide +kernel
theorem d_Reader_init_19 : decode prog_7_method_1_code 19 = .ok (.aload_n 1, 1) := by decide +kernel
theorem d_Reader_init_20 : decode prog_7_method_1_code 20 = .ok (.putfield 20, 3) := by decide +kernel
theorem d_Reader_init_23 : decode prog_7_method_1_code 23 = .ok (.aload_n 0, 1) := by decide +kernel
theorem d_Reader_init_24 : decode prog_7_method_1_code 24 = .ok (.aload_n 2, 1) := by decide +kernel
theorem d_Reader_init_25 : decode prog_7_method_1_code 25 = .ok (.putfield 24, 3) := by decide +kernel
theorem d_Reader_init_28 : decode prog_7_method_1_code 28 = .ok (.aload_n 0, 1) := by decide +kernel
theorem d_Reader_init_29 : decode prog_7_method_1_code 29 = .ok (.aload_n 3, 1) := by decide +kernel
theorem d_Reader_init_30 : decode prog_7_method_1_code 30 = .ok (.putfield 28, 3) := by decide +kernel
theorem d_Reader_init_33 : decode prog_7_method_1_code 33 = .ok (.aload_n 0, 1) := by decide +kernel
theorem d_Reader_init_34 : decode prog_7_method_1_code 34 = .ok (.aload 4, 2) := by decide +kernel
theorem d_Reader_init_36 : decode prog_7_method_1_code 36 = .ok (.putfield 32, 3) := by decide +kernel
theorem d_Reader_init_39 : decode prog_7_method_1_code 39 = .ok (.return_, 1) := by decide +kernel
noncomputable def f_Reader_init (a0 : Nat) (r1 : Option Nat) (r2 : Option Nat) (r3 : Option Nat) (r4 : Option Nat) (σ : rb_St) : Option rb_Rs :=
  rb_cV (f_Text_init ((rb_n σ)) ((320 : Int32)) (rb_nO σ 2)) fun σ_1 => (rb_pR σ_1 (some a0) 8 4 (some (rb_n σ))).bind fun σ_2 => (rb_pR σ_2 (some a0) 8 0 r1).bind fun σ_3 => (rb_pR σ_3 (some a0) 8 1 r2).bind fun σ_4 => (rb_pR σ_4 (some a0) 8 2 r3).bind fun σ_5 => (rb_pR σ_5 (some a0) 8 3 r4).bind fun σ_6 => some (none, σ_6)
theorem s_Reader_init {E : rb_EV} {d : Nat} (hdd : 2 ≤ d) (a0 : Nat) (r1 : Option Nat) (r2 : Option Nat) (r3 : Option Nat) (r4 : Option Nat) (σ : rb_St) : rb_Does E k_Reader_init d [va_rf (some a0), va_rf r1, va_rf r2, va_rf r3, va_rf r4] σ (f_Reader_init a0 r1 r2 r3 r4 σ) := by
  refine rb_start (lv := [some (va_rf (some a0)), some (va_rf r1), some (va_rf r2), some (va_rf r3), some (va_rf r4)]) (by decide) (by simp [lg_sl, rb_as, lv_args, rb_cat_r, rb_cat_i, rb_cat_l, rb_nL, k_Reader_init]) (fun res => ?_)
  unfold f_Reader_init
  refine rb_TC.mono (rk_aload_n 0 d_Reader_init_0 rfl rfl) ?_
  refine rb_TC.mono (rk_objInit w_ml_Reader_3 w_oi w_oc (Nat.le_trans (by decide) hdd) (by simp [rb_cat_r, rb_cat_i, rb_cat_l]) d_Reader_init_1 rfl) ?_
  refine rb_TC.mono (rk_aload_n 0 d_Reader_init_4 rfl rfl) ?_
  refine rb_TC.mono (rk_new ow_Reader_9 d_Reader_init_5) ?_
  refine rb_TC.mono (rk_dupr d_Reader_init_8) ?_
  refine rb_TC.mono (rk_sipush (320 : Int32) d_Reader_init_9 (by decide)) ?_
  refine rt_i (As := [.int (320 : Int32)]) (st := [va_rf (some (rb_n σ)), va_rf (some a0)]) iw_Reader_11 (s_Text_init (Nat.le_refl _) ((rb_n σ)) ((320 : Int32)) (rb_nO σ 2)) (Nat.le_trans (by decide) hdd) rfl (by simp [rb_cat_r, rb_cat_i, rb_cat_l]) d_Reader_init_12 (fun σ_1 => ?_)
  refine rt_pR (some a0) fp_Reader_init_14 d_Reader_init_15 (fun σ_2 => ?_)
  refine rb_TC.mono (rk_aload_n 0 d_Reader_init_18 rfl rfl) ?_
  refine rb_TC.mono (rk_aload_n 1 d_Reader_init_19 rfl rfl) ?_
  refine rt_pR (some a0) fp_Reader_init_20 d_Reader_init_20 (fun σ_3 => ?_)
  refine rb_TC.mono (rk_aload_n 0 d_Reader_init_23 rfl rfl) ?_
  refine rb_TC.mono (rk_aload_n 2 d_Reader_init_24 rfl rfl) ?_
  refine rt_pR (some a0) fp_Reader_init_24 d_Reader_init_25 (fun σ_4 => ?_)
  refine rb_TC.mono (rk_aload_n 0 d_Reader_init_28 rfl rfl) ?_
  refine rb_TC.mono (rk_aload_n 3 d_Reader_init_29 rfl rfl) ?_
  refine rt_pR (some a0) fp_Reader_init_28 d_Reader_init_30 (fun σ_5 => ?_)
  refine rb_TC.mono (rk_aload_n 0 d_Reader_init_33 rfl rfl) ?_
  refine rb_TC.mono (rk_aload d_Reader_init_34 rfl) ?_
  refine rt_pR (some a0) fp_Reader_init_32 d_Reader_init_36 (fun σ_6 => ?_)
  exact rt_vret rfl (fun h => h) d_Reader_init_39
-- ===== RuleBuilder$Reader.forgetAll()V
def k_Reader_forgetAll : rb_MK := (⟨"RuleBuilder$Reader", "forgetAll", "()V"⟩, prog_7_method_3_code, 1, none)
theorem mw_Reader_forgetAll : rb_Mw k_Reader_forgetAll 0 := ⟨rb_inG 534 (by decide +kernel) rfl, rb_inG 92 (by decide +kernel) rfl, ⟨by decide, by decide, by decide +kernel⟩, by decide⟩
theorem fw_Reader_73 : rb_Fw "RuleBuilder$Reader" 73 8 5 := ⟨_, rfl, by decide, by decide, by decide, rfl, rb_inG 308 (by decide +kernel) rfl⟩
theorem fp_Reader_forgetAll_73 : rb_Fp k_Reader_forgetAll 73 8 5 .int := ⟨fw_Reader_73, rfl, fun q h => by cases h; exact Or.inl rfl⟩
theorem vw_Reader_58 : rb_Vw "RuleBuilder$Reader" 58 k_Rules_forget 4 0 := ⟨mw_Rules_forget, rb_inG 535 (by decide +kernel) rfl, rb_inG 536 (by decide +kernel) rfl, rb_inG 537 (by decide +kernel) rfl, by decide, by decide, _, rfl, rfl⟩
theorem vw_Reader_63 : rb_Vw "RuleBuilder$Reader" 63 k_Exp_forgetDefinitions 5 0 := ⟨mw_Exp_forgetDefinitions, rb_inG 539 (by decide +kernel) rfl, rb_inG 540 (by decide +kernel) rfl, rb_inG 541 (by decide +kernel) rfl, by decide, by decide, _, rfl, rfl⟩
theorem vw_Reader_68 : rb_Vw "RuleBuilder$Reader" 68 k_Store_forgetRules 3 0 := ⟨mw_Store_forgetRules, rb_inG 543 (by decide +kernel) rfl, rb_inG 544 (by decide +kernel) rfl, rb_inG 545 (by decide +kernel) rfl, by decide, by decide, _, rfl, rfl⟩
theorem d_Reader_forgetAll_0 : decode prog_7_method_3_code 0 = .ok (.aload_n 0, 1) := by decide +kernel
theorem d_Reader_forgetAll_1 : decode prog_7_method_3_code 1 = .ok (.getfield 24, 3) := by decide +kernel
theorem d_Reader_forgetAll_4 : decode prog_7_method_3_code 4 = .ok (.invokevirtual 58, 3) := by decide +kernel
theorem d_Reader_forgetAll_7 : decode prog_7_method_3_code 7 = .ok (.aload_n 0, 1) := by decide +kernel
theorem d_Reader_forgetAll_8 : decode prog_7_method_3_code 8 = .ok (.getfield 28, 3) := by decide +kernel
theorem d_Reader_forgetAll_11 : decode prog_7_method_3_code 11 = .ok (.invokevirtual 63, 3) := by decide +kernel
theorem d_Reader_forgetAll_14 : decode prog_7_method_3_code 14 = .ok (.aload_n 0, 1) := by decide +kernel
theorem d_Reader_forgetAll_15 : decode prog_7_method_3_code 15 = .ok (.getfield 20, 3) := by decide +kernel
theorem d_Reader_forgetAll_18 : decode prog_7_method_3_code 18 = .ok (.invokevirtual 68, 3) := by decide +kernel
theorem d_Reader_forgetAll_21 : decode prog_7_method_3_code 21 = .ok (.aload_n 0, 1) := by decide +kernel
theorem d_Reader_forgetAll_22 : decode prog_7_method_3_code 22 = .ok (.iconst 0, 1) := by decide +kernel
theorem d_Reader_forgetAll_23 : decode prog_7_method_3_code 23 = .ok (.putfield 73, 3) := by decide +kernel
theorem d_Reader_forgetAll_26 : decode prog_7_method_3_code 26 = .ok (.return_, 1) := by decide +kernel
noncomputable def f_Reader_forgetAll (r0 : Option Nat) (σ : rb_St) : Option rb_Rs :=
  (rb_gR σ r0 8 1).bind fun r_1 => (rb_fc σ r_1 4).bind fun _ => rb_cV (f_Rules_forget (r_1)  σ) fun σ_2 => (rb_gR σ_2 r0 8 2).bind fun r_3 => (rb_fc σ_2 r_3 5).bind fun _ => rb_cV (f_Exp_forgetDefinitions (r_3)  σ_2) fun σ_4 => (rb_gR σ_4 r0 8 0).bind fun r_5 => (rb_fc σ_4 r_5 3).bind fun _ => rb_cV (f_Store_forgetRules (r_5)  σ_4) fun σ_6 => (rb_pI σ_6 r0 8 5 (0 : Int32)).bind fun σ_7 => some (none, σ_7)
theorem s_Reader_forgetAll {E : rb_EV} {d : Nat} (hdd : 2 ≤ d) (r0 : Option Nat) (σ : rb_St) : rb_Does E k_Reader_forgetAll d [va_rf r0] σ (f_Reader_forgetAll r0 σ) := by
  refine rb_start (lv := [some (va_rf r0)]) (by decide) (by simp [lg_sl, rb_as, lv_args, rb_cat_r, rb_cat_i, rb_cat_l, rb_nL, k_Reader_forgetAll]) (fun res => ?_)
  unfold f_Reader_forgetAll
  refine rb_TC.mono (rk_aload_n 0 d_Reader_forgetAll_0 rfl rfl) ?_
  refine rt_gR r0 fw_Reader_24 d_Reader_forgetAll_1 (fun r_1 => ?_)
  refine rt_vV (As := []) (st := []) (r_1) vw_Reader_58 (s_Rules_forget (Nat.le_refl _) (r_1)  σ) (Nat.le_trans (by decide) hdd) rfl (by simp [rb_cat_r, rb_cat_i, rb_cat_l]) d_Reader_forgetAll_4 (fun σ_2 => ?_)
  refine rb_TC.mono (rk_aload_n 0 d_Reader_forgetAll_7 rfl rfl) ?_
  refine rt_gR r0 fw_Reader_28 d_Reader_forgetAll_8 (fun r_3 => ?_)
  refine rt_vV (As := []) (st := []) (r_3) vw_Reader_63 (s_Exp_forgetDefinitions (Nat.le_refl _) (r_3)  σ_2) (Nat.le_trans (by decide) hdd) rfl (by simp [rb_cat_r, rb_cat_i, rb_cat_l]) d_Reader_forgetAll_11 (fun σ_4 => ?_)
  refine rb_TC.mono (rk_aload_n 0 d_Reader_forgetAll_14 rfl rfl) ?_
  refine rt_gR r0 fw_Reader_20 d_Reader_forgetAll_15 (fun r_5 => ?_)
  refine rt_vV (As := []) (st := []) (r_5) vw_Reader_68 (s_Store_forgetRules (Nat.le_refl _) (r_5)  σ_4) (Nat.le_trans (by decide) hdd) rfl (by simp [rb_cat_r, rb_cat_i, rb_cat_l]) d_Reader_forgetAll_18 (fun σ_6 => ?_)
  refine rb_TC.mono (rk_aload_n 0 d_Reader_forgetAll_21 rfl rfl) ?_
  refine rb_TC.mono (rk_iconst (0 : Int32) d_Reader_forgetAll_22 (by decide)) ?_
  refine rt_pI r0 fp_Reader_forgetAll_73 d_Reader_forgetAll_23 (fun σ_7 => ?_)
  exact rt_vret rfl (fun h => h) d_Reader_forgetAll_26
-- ===== RuleBuilder$Reader.beginCommands()Z
def k_Reader_beginCommands : rb_MK := (⟨"RuleBuilder$Reader", "beginCommands", "()Z"⟩, prog_7_method_6_code, 2, some (.boolean))
theorem mw_Reader_beginCommands : rb_Mw k_Reader_beginCommands 0 := ⟨rb_inG 570 (by decide +kernel) rfl, rb_inG 92 (by decide +kernel) rfl, ⟨by decide, by decide, by decide +kernel⟩, by decide⟩
theorem fw_Reader_120 : rb_Fw "RuleBuilder$Reader" 120 4 11 := ⟨_, rfl, by decide, by decide, by decide, rfl, rb_inG 174 (by decide +kernel) rfl⟩
theorem fp_Reader_beginCommands_120 : rb_Fp k_Reader_beginCommands 120 4 11 .int := ⟨fw_Reader_120, rfl, fun q h => by cases h; exact Or.inl rfl⟩
theorem fw_Reader_107 : rb_Fw "RuleBuilder$Reader" 107 8 7 := ⟨_, rfl, by decide, by decide, by decide, rfl, rb_inG 310 (by decide +kernel) rfl⟩
theorem fw_Reader_123 : rb_Fw "RuleBuilder$Reader" 123 8 6 := ⟨_, rfl, by decide, by decide, by decide, rfl, rb_inG 309 (by decide +kernel) rfl⟩
theorem vw_Reader_126 : rb_Vw "RuleBuilder$Reader" 126 k_Rules_giveEndingCommands 4 2 := ⟨mw_Rules_giveEndingCommands, rb_inG 571 (by decide +kernel) rfl, rb_inG 572 (by decide +kernel) rfl, rb_inG 573 (by decide +kernel) rfl, by decide, by decide, _, rfl, rfl⟩
theorem vw_Reader_130 : rb_Vw "RuleBuilder$Reader" 130 k_Store_giveToLatestTargets 3 1 := ⟨mw_Store_giveToLatestTargets, rb_inG 575 (by decide +kernel) rfl, rb_inG 576 (by decide +kernel) rfl, rb_inG 577 (by decide +kernel) rfl, by decide, by decide, _, rfl, rfl⟩
theorem d_Reader_beginCommands_0 : decode prog_7_method_6_code 0 = .ok (.aload_n 0, 1) := by decide +kernel
theorem d_Reader_beginCommands_1 : decode prog_7_method_6_code 1 = .ok (.getfield 73, 3) := by decide +kernel
theorem d_Reader_beginCommands_4 : decode prog_7_method_6_code 4 = .ok (.iconst 4, 1) := by decide +kernel
theorem d_Reader_beginCommands_5 : decode prog_7_method_6_code 5 = .ok (.if_icmp .ne 33, 3) := by decide +kernel
theorem d_Reader_beginCommands_8 : decode prog_7_method_6_code 8 = .ok (.aload_n 0, 1) := by decide +kernel
theorem d_Reader_beginCommands_9 : decode prog_7_method_6_code 9 = .ok (.getfield 24, 3) := by decide +kernel
theorem d_Reader_beginCommands_12 : decode prog_7_method_6_code 12 = .ok (.getfield 120, 3) := by decide +kernel
theorem d_Reader_beginCommands_15 : decode prog_7_method_6_code 15 = .ok (.iconst (-1), 1) := by decide +kernel
theorem d_Reader_beginCommands_16 : decode prog_7_method_6_code 16 = .ok (.if_icmp .ne 7, 3) := by decide +kernel
theorem d_Reader_beginCommands_19 : decode prog_7_method_6_code 19 = .ok (.iconst 1, 1) := by decide +kernel
theorem d_Reader_beginCommands_20 : decode prog_7_method_6_code 20 = .ok (.goto 4, 3) := by decide +kernel
theorem d_Reader_beginCommands_23 : decode prog_7_method_6_code 23 = .ok (.iconst 0, 1) := by decide +kernel
theorem d_Reader_beginCommands_24 : decode prog_7_method_6_code 24 = .ok (.istore_n 1, 1) := by decide +kernel
theorem d_Reader_beginCommands_25 : decode prog_7_method_6_code 25 = .ok (.aload_n 0, 1) := by decide +kernel
theorem d_Reader_beginCommands_26 : decode prog_7_method_6_code 26 = .ok (.getfield 24, 3) := by decide +kernel
theorem d_Reader_beginCommands_29 : decode prog_7_method_6_code 29 = .ok (.aload_n 0, 1) := by decide +kernel
theorem d_Reader_beginCommands_30 : decode prog_7_method_6_code 30 = .ok (.getfield 107, 3) := by decide +kernel
theorem d_Reader_beginCommands_33 : decode prog_7_method_6_code 33 = .ok (.putfield 120, 3) := by decide +kernel
theorem d_Reader_beginCommands_36 : decode prog_7_method_6_code 36 = .ok (.iload_n 1, 1) := by decide +kernel
theorem d_Reader_beginCommands_37 : decode prog_7_method_6_code 37 = .ok (.ireturn, 1) := by decide +kernel
theorem d_Reader_beginCommands_38 : decode prog_7_method_6_code 38 = .ok (.aload_n 0, 1) := by decide +kernel
theorem d_Reader_beginCommands_39 : decode prog_7_method_6_code 39 = .ok (.getfield 73, 3) := by decide +kernel
theorem d_Reader_beginCommands_42 : decode prog_7_method_6_code 42 = .ok (.iconst 3, 1) := by decide +kernel
theorem d_Reader_beginCommands_43 : decode prog_7_method_6_code 43 = .ok (.if_icmp .ne 20, 3) := by decide +kernel
theorem d_Reader_beginCommands_46 : decode prog_7_method_6_code 46 = .ok (.aload_n 0, 1) := by decide +kernel
theorem d_Reader_beginCommands_47 : decode prog_7_method_6_code 47 = .ok (.getfield 24, 3) := by decide +kernel
theorem d_Reader_beginCommands_50 : decode prog_7_method_6_code 50 = .ok (.aload_n 0, 1) := by decide +kernel
theorem d_Reader_beginCommands_51 : decode prog_7_method_6_code 51 = .ok (.getfield 123, 3) := by decide +kernel
theorem d_Reader_beginCommands_54 : decode prog_7_method_6_code 54 = .ok (.aload_n 0, 1) := by decide +kernel
theorem d_Reader_beginCommands_55 : decode prog_7_method_6_code 55 = .ok (.getfield 107, 3) := by decide +kernel
theorem d_Reader_beginCommands_58 : decode prog_7_method_6_code 58 = .ok (.invokevirtual 126, 3) := by decide +kernel
theorem d_Reader_beginCommands_61 : decode prog_7_method_6_code 61 = .ok (.iconst 1, 1) := by decide +kernel
theorem d_Reader_beginCommands_62 : decode prog_7_method_6_code 62 = .ok (.ireturn, 1) := by decide +kernel
theorem d_Reader_beginCommands_63 : decode prog_7_method_6_code 63 = .ok (.aload_n 0, 1) := by decide +kernel
theorem d_Reader_beginCommands_64 : decode prog_7_method_6_code 64 = .ok (.getfield 20, 3) := by decide +kernel
theorem d_Reader_beginCommands_67 : decode prog_7_method_6_code 67 = .ok (.aload_n 0, 1) := by decide +kernel
theorem d_Reader_beginCommands_68 : decode prog_7_method_6_code 68 = .ok (.getfield 107, 3) := by decide +kernel
theorem d_Reader_beginCommands_71 : decode prog_7_method_6_code 71 = .ok (.invokevirtual 130, 3) := by decide +kernel
theorem d_Reader_beginCommands_74 : decode prog_7_method_6_code 74 = .ok (.ireturn, 1) := by decide +kernel
noncomputable def f_Reader_beginCommands_j24 (r0 : Option Nat) (sx0 : Int32) (σ : rb_St) : Option rb_Rs :=
  (rb_gR σ r0 8 1).bind fun r_4 => (rb_gI σ r0 8 7).bind fun x_5 => (rb_pI σ r_4 4 11 x_5).bind fun σ_6 => if rb_isZ sx0 then some (some (.int sx0), σ_6) else none
theorem t_Reader_beginCommands_j24 {E : rb_EV} {d : Nat} {σ0 : rb_St} {res : rb_Rs} (hdd : 1 ≤ d)  (r0 : Option Nat) (sx0 : Int32) (σ : rb_St) : rb_TC (f_Reader_beginCommands_j24 r0 sx0 σ) (fun r => r = res) (rb_WK E k_Reader_beginCommands d σ0 res 24 [some (va_rf r0), none] [.int sx0] σ) := by
  unfold f_Reader_beginCommands_j24
  refine rb_TC.mono (rk_istore_n (lv2 := [some (va_rf r0), some (.int sx0)]) 1 d_Reader_beginCommands_24 rfl (by decide) (fun _ => rb_one_r) rfl) ?_
  refine rb_TC.mono (rk_aload_n 0 d_Reader_beginCommands_25 rfl rfl) ?_
  refine rt_gR r0 fw_Reader_24 d_Reader_beginCommands_26 (fun r_4 => ?_)
  refine rb_TC.mono (rk_aload_n 0 d_Reader_beginCommands_29 rfl rfl) ?_
  refine rt_gI r0 fw_Reader_107 d_Reader_beginCommands_30 (fun x_5 => ?_)
  refine rt_pI r_4 fp_Reader_beginCommands_120 d_Reader_beginCommands_33 (fun σ_6 => ?_)
  refine rb_TC.mono (rk_iload_n 1 d_Reader_beginCommands_36 rfl rfl) ?_
  refine rb_TC.ite (fun hn => ?_) (fun _ => rb_TC.none)
  exact rt_iret (ty := .boolean) rfl (rb_nar_Z hn) (fun h => h) d_Reader_beginCommands_37
noncomputable def f_Reader_beginCommands (r0 : Option Nat) (σ : rb_St) : Option rb_Rs :=
  (rb_gI σ r0 8 5).bind fun x_1 => if x_1 = (4 : Int32) then ((rb_gR σ r0 8 1).bind fun r_2 => (rb_gI σ r_2 4 11).bind fun x_3 => if x_3 = (-1 : Int32) then (f_Reader_beginCommands_j24 (r0) ((1 : Int32)) σ) else (f_Reader_beginCommands_j24 (r0) ((0 : Int32)) σ)) else ((rb_gI σ r0 8 5).bind fun x_7 => if x_7 = (3 : Int32) then ((rb_gR σ r0 8 1).bind fun r_8 => (rb_gI σ r0 8 6).bind fun x_9 => (rb_gI σ r0 8 7).bind fun x_10 => (rb_fc σ r_8 4).bind fun _ => rb_cV (f_Rules_giveEndingCommands (r_8) (x_9) (x_10) σ) fun σ_11 => some (some (.int (1 : Int32)), σ_11)) else ((rb_gR σ r0 8 0).bind fun r_12 => (rb_gI σ r0 8 7).bind fun x_13 => (rb_fc σ r_12 3).bind fun _ => rb_cI (f_Store_giveToLatestTargets (r_12) (x_13) σ) fun x_14 σ_15 => if rb_isZ x_14 then some (some (.int x_14), σ_15) else none))
theorem s_Reader_beginCommands {E : rb_EV} {d : Nat} (hdd : 1 ≤ d) (r0 : Option Nat) (σ : rb_St) : rb_Does E k_Reader_beginCommands d [va_rf r0] σ (f_Reader_beginCommands r0 σ) := by
  refine rb_start (lv := [some (va_rf r0), none]) (by decide) (by simp [lg_sl, rb_as, lv_args, rb_cat_r, rb_cat_i, rb_cat_l, rb_nL, k_Reader_beginCommands]) (fun res => ?_)
  unfold f_Reader_beginCommands
  refine rb_TC.mono (rk_aload_n 0 d_Reader_beginCommands_0 rfl rfl) ?_
  refine rt_gI r0 fw_Reader_73 d_Reader_beginCommands_1 (fun x_1 => ?_)
  refine rb_TC.mono (rk_iconst (4 : Int32) d_Reader_beginCommands_4 (by decide)) ?_
  refine rt_icmp_ne 38 d_Reader_beginCommands_5 (by decide) (fun _ => ?_) (fun _ => ?_)
  · refine rb_TC.mono (rk_aload_n 0 d_Reader_beginCommands_8 rfl rfl) ?_
    refine rt_gR r0 fw_Reader_24 d_Reader_beginCommands_9 (fun r_2 => ?_)
    refine rt_gI r_2 fw_Reader_120 d_Reader_beginCommands_12 (fun x_3 => ?_)
    refine rb_TC.mono (rk_iconst (-1 : Int32) d_Reader_beginCommands_15 (by decide)) ?_
    refine rt_icmp_ne 23 d_Reader_beginCommands_16 (by decide) (fun _ => ?_) (fun _ => ?_)
    · refine rb_TC.mono (rk_iconst (1 : Int32) d_Reader_beginCommands_19 (by decide)) ?_
      refine rb_TC.mono (rk_goto 24 d_Reader_beginCommands_20 (by decide)) ?_
      exact t_Reader_beginCommands_j24 hdd  (r0) ((1 : Int32)) σ
    · refine rb_TC.mono (rk_iconst (0 : Int32) d_Reader_beginCommands_23 (by decide)) ?_
      exact t_Reader_beginCommands_j24 hdd  (r0) ((0 : Int32)) σ
  · refine rb_TC.mono (rk_aload_n 0 d_Reader_beginCommands_38 rfl rfl) ?_
    refine rt_gI r0 fw_Reader_73 d_Reader_beginCommands_39 (fun x_7 => ?_)
    refine rb_TC.mono (rk_iconst (3 : Int32) d_Reader_beginCommands_42 (by decide)) ?_
    refine rt_icmp_ne 63 d_Reader_beginCommands_43 (by decide) (fun _ => ?_) (fun _ => ?_)
    · refine rb_TC.mono (rk_aload_n 0 d_Reader_beginCommands_46 rfl rfl) ?_
      refine rt_gR r0 fw_Reader_24 d_Reader_beginCommands_47 (fun r_8 => ?_)
      refine rb_TC.mono (rk_aload_n 0 d_Reader_beginCommands_50 rfl rfl) ?_
      refine rt_gI r0 fw_Reader_123 d_Reader_beginCommands_51 (fun x_9 => ?_)
      refine rb_TC.mono (rk_aload_n 0 d_Reader_beginCommands_54 rfl rfl) ?_
      refine rt_gI r0 fw_Reader_107 d_Reader_beginCommands_55 (fun x_10 => ?_)
      refine rt_vV (As := [.int x_9, .int x_10]) (st := []) (r_8) vw_Reader_126 (s_Rules_giveEndingCommands (Nat.le_refl _) (r_8) (x_9) (x_10) σ) (Nat.le_trans (by decide) hdd) rfl (by simp [rb_cat_r, rb_cat_i, rb_cat_l]) d_Reader_beginCommands_58 (fun σ_11 => ?_)
      refine rb_TC.mono (rk_iconst (1 : Int32) d_Reader_beginCommands_61 (by decide)) ?_
      exact rt_iret (ty := .boolean) rfl (by decide) (fun h => h) d_Reader_beginCommands_62
    · refine rb_TC.mono (rk_aload_n 0 d_Reader_beginCommands_63 rfl rfl) ?_
      refine rt_gR r0 fw_Reader_20 d_Reader_beginCommands_64 (fun r_12 => ?_)
      refine rb_TC.mono (rk_aload_n 0 d_Reader_beginCommands_67 rfl rfl) ?_
      refine rt_gI r0 fw_Reader_107 d_Reader_beginCommands_68 (fun x_13 => ?_)
      refine rt_vI (As := [.int x_13]) (st := []) (r_12) vw_Reader_130 (s_Store_giveToLatestTargets (Nat.le_refl _) (r_12) (x_13) σ) (Nat.le_trans (by decide) hdd) rfl (by simp [rb_cat_r, rb_cat_i, rb_cat_l]) d_Reader_beginCommands_71 (fun x_14 σ_15 => ?_)
      refine rb_TC.ite (fun hn => ?_) (fun _ => rb_TC.none)
      exact rt_iret (ty := .boolean) rfl (rb_nar_Z hn) (fun h => h) d_Reader_beginCommands_74
-- ===== RuleBuilder$Reader.readCommandLine()Z
def k_Reader_readCommandLine : rb_MK := (⟨"RuleBuilder$Reader", "readCommandLine", "()Z"⟩, prog_7_method_5_code, 1, some (.boolean))
theorem mw_Reader_readCommandLine : rb_Mw k_Reader_readCommandLine 0 := ⟨rb_inG 562 (by decide +kernel) rfl, rb_inG 92 (by decide +kernel) rfl, ⟨by decide, by decide, by decide +kernel⟩, by decide⟩
theorem fp_Reader_readCommandLine_107 : rb_Fp k_Reader_readCommandLine 107 8 7 .int := ⟨fw_Reader_107, rfl, fun q h => by cases h; exact Or.inl rfl⟩
theorem vw_Reader_110 : rb_Vw "RuleBuilder$Reader" 110 k_Rules_commandCount 4 0 := ⟨mw_Rules_commandCount, rb_inG 563 (by decide +kernel) rfl, rb_inG 564 (by decide +kernel) rfl, rb_inG 565 (by decide +kernel) rfl, by decide, by decide, _, rfl, rfl⟩
theorem vw_Reader_113 : rb_Vw "RuleBuilder$Reader" 113 k_Reader_beginCommands 8 0 := ⟨mw_Reader_beginCommands, rb_inG 567 (by decide +kernel) rfl, rb_inG 569 (by decide +kernel) rfl, rb_inG 3 (by decide +kernel) rfl, by decide, by decide, _, rfl, rfl⟩
theorem vw_Reader_116 : rb_Vw "RuleBuilder$Reader" 116 k_Rules_addCommand 4 2 := ⟨mw_Rules_addCommand, rb_inG 580 (by decide +kernel) rfl, rb_inG 581 (by decide +kernel) rfl, rb_inG 582 (by decide +kernel) rfl, by decide, by decide, _, rfl, rfl⟩
theorem vw_Reader_42 : rb_Vw "RuleBuilder$Reader" 42 k_Text_length 2 0 := ⟨mw_Text_length, rb_inG 552 (by decide +kernel) rfl, rb_inG 408 (by decide +kernel) rfl, rb_inG 409 (by decide +kernel) rfl, by decide, by decide, _, rfl, rfl⟩
theorem vw_Reader_95 : rb_Vw "RuleBuilder$Reader" 95 k_Text_cut 2 2 := ⟨mw_Text_cut, rb_inG 579 (by decide +kernel) rfl, rb_inG 427 (by decide +kernel) rfl, rb_inG 428 (by decide +kernel) rfl, by decide, by decide, _, rfl, rfl⟩
theorem d_Reader_readCommandLine_0 : decode prog_7_method_5_code 0 = .ok (.aload_n 0, 1) := by decide +kernel
theorem d_Reader_readCommandLine_1 : decode prog_7_method_5_code 1 = .ok (.getfield 73, 3) := by decide +kernel
theorem d_Reader_readCommandLine_4 : decode prog_7_method_5_code 4 = .ok (.ifCond .eq 11, 3) := by decide +kernel
theorem d_Reader_readCommandLine_7 : decode prog_7_method_5_code 7 = .ok (.aload_n 0, 1) := by decide +kernel
theorem d_Reader_readCommandLine_8 : decode prog_7_method_5_code 8 = .ok (.getfield 73, 3) := by decide +kernel
theorem d_Reader_readCommandLine_11 : decode prog_7_method_5_code 11 = .ok (.iconst 1, 1) := by decide +kernel
theorem d_Reader_readCommandLine_12 : decode prog_7_method_5_code 12 = .ok (.if_icmp .ne 5, 3) := by decide +kernel
theorem d_Reader_readCommandLine_15 : decode prog_7_method_5_code 15 = .ok (.iconst 0, 1) := by decide +kernel
theorem d_Reader_readCommandLine_16 : decode prog_7_method_5_code 16 = .ok (.ireturn, 1) := by decide +kernel
theorem d_Reader_readCommandLine_17 : decode prog_7_method_5_code 17 = .ok (.aload_n 0, 1) := by decide +kernel
theorem d_Reader_readCommandLine_18 : decode prog_7_method_5_code 18 = .ok (.getfield 107, 3) := by decide +kernel
theorem d_Reader_readCommandLine_21 : decode prog_7_method_5_code 21 = .ok (.iconst (-1), 1) := by decide +kernel
theorem d_Reader_readCommandLine_22 : decode prog_7_method_5_code 22 = .ok (.if_icmp .ne 23, 3) := by decide +kernel
theorem d_Reader_readCommandLine_25 : decode prog_7_method_5_code 25 = .ok (.aload_n 0, 1) := by decide +kernel
theorem d_Reader_readCommandLine_26 : decode prog_7_method_5_code 26 = .ok (.aload_n 0, 1) := by decide +kernel
theorem d_Reader_readCommandLine_27 : decode prog_7_method_5_code 27 = .ok (.getfield 24, 3) := by decide +kernel
theorem d_Reader_readCommandLine_30 : decode prog_7_method_5_code 30 = .ok (.invokevirtual 110, 3) := by decide +kernel
theorem d_Reader_readCommandLine_33 : decode prog_7_method_5_code 33 = .ok (.putfield 107, 3) := by decide +kernel
theorem d_Reader_readCommandLine_36 : decode prog_7_method_5_code 36 = .ok (.aload_n 0, 1) := by decide +kernel
theorem d_Reader_readCommandLine_37 : decode prog_7_method_5_code 37 = .ok (.invokevirtual 113, 3) := by decide +kernel
theorem d_Reader_readCommandLine_40 : decode prog_7_method_5_code 40 = .ok (.ifCond .ne 5, 3) := by decide +kernel
theorem d_Reader_readCommandLine_43 : decode prog_7_method_5_code 43 = .ok (.iconst 0, 1) := by decide +kernel
theorem d_Reader_readCommandLine_44 : decode prog_7_method_5_code 44 = .ok (.ireturn, 1) := by decide +kernel
theorem d_Reader_readCommandLine_45 : decode prog_7_method_5_code 45 = .ok (.aload_n 0, 1) := by decide +kernel
theorem d_Reader_readCommandLine_46 : decode prog_7_method_5_code 46 = .ok (.getfield 24, 3) := by decide +kernel
theorem d_Reader_readCommandLine_49 : decode prog_7_method_5_code 49 = .ok (.aload_n 0, 1) := by decide +kernel
theorem d_Reader_readCommandLine_50 : decode prog_7_method_5_code 50 = .ok (.getfield 14, 3) := by decide +kernel
theorem d_Reader_readCommandLine_53 : decode prog_7_method_5_code 53 = .ok (.iconst 1, 1) := by decide +kernel
theorem d_Reader_readCommandLine_54 : decode prog_7_method_5_code 54 = .ok (.aload_n 0, 1) := by decide +kernel
theorem d_Reader_readCommandLine_55 : decode prog_7_method_5_code 55 = .ok (.getfield 14, 3) := by decide +kernel
theorem d_Reader_readCommandLine_58 : decode prog_7_method_5_code 58 = .ok (.invokevirtual 42, 3) := by decide +kernel
theorem d_Reader_readCommandLine_61 : decode prog_7_method_5_code 61 = .ok (.invokevirtual 95, 3) := by decide +kernel
theorem d_Reader_readCommandLine_64 : decode prog_7_method_5_code 64 = .ok (.aload_n 0, 1) := by decide +kernel
theorem d_Reader_readCommandLine_65 : decode prog_7_method_5_code 65 = .ok (.getfield 107, 3) := by decide +kernel
theorem d_Reader_readCommandLine_68 : decode prog_7_method_5_code 68 = .ok (.invokevirtual 116, 3) := by decide +kernel
theorem d_Reader_readCommandLine_71 : decode prog_7_method_5_code 71 = .ok (.ireturn, 1) := by decide +kernel
noncomputable def f_Reader_readCommandLine_j45 (r0 : Option Nat) (σ : rb_St) : Option rb_Rs :=
  (rb_gR σ r0 8 1).bind fun r_10 => (rb_gR σ r0 8 4).bind fun r_11 => (rb_gR σ r0 8 4).bind fun r_12 => (rb_fc σ r_12 2).bind fun _ => rb_cI (f_Text_length (r_12)  σ) fun x_13 σ_14 => (rb_fc σ_14 r_11 2).bind fun _ => rb_cR (f_Text_cut (r_11) ((1 : Int32)) (x_13) σ_14) fun r_15 σ_16 => (rb_gI σ_16 r0 8 7).bind fun x_17 => (rb_fc σ_16 r_10 4).bind fun _ => rb_cI (f_Rules_addCommand (r_10) (r_15) (x_17) σ_16) fun x_18 σ_19 => if rb_isZ x_18 then some (some (.int x_18), σ_19) else none
theorem t_Reader_readCommandLine_j45 {E : rb_EV} {d : Nat} {σ0 : rb_St} {res : rb_Rs} (hdd : 8 ≤ d)  (r0 : Option Nat) (σ : rb_St) : rb_TC (f_Reader_readCommandLine_j45 r0 σ) (fun r => r = res) (rb_WK E k_Reader_readCommandLine d σ0 res 45 [some (va_rf r0)] [] σ) := by
  unfold f_Reader_readCommandLine_j45
  refine rb_TC.mono (rk_aload_n 0 d_Reader_readCommandLine_45 rfl rfl) ?_
  refine rt_gR r0 fw_Reader_24 d_Reader_readCommandLine_46 (fun r_10 => ?_)
  refine rb_TC.mono (rk_aload_n 0 d_Reader_readCommandLine_49 rfl rfl) ?_
  refine rt_gR r0 fw_Reader_14 d_Reader_readCommandLine_50 (fun r_11 => ?_)
  refine rb_TC.mono (rk_iconst (1 : Int32) d_Reader_readCommandLine_53 (by decide)) ?_
  refine rb_TC.mono (rk_aload_n 0 d_Reader_readCommandLine_54 rfl rfl) ?_
  refine rt_gR r0 fw_Reader_14 d_Reader_readCommandLine_55 (fun r_12 => ?_)
  refine rt_vI (As := []) (st := [.int (1 : Int32), va_rf r_11, va_rf r_10]) (r_12) vw_Reader_42 (s_Text_length (Nat.le_refl _) (r_12)  σ) (Nat.le_trans (by decide) hdd) rfl (by simp [rb_cat_r, rb_cat_i, rb_cat_l]) d_Reader_readCommandLine_58 (fun x_13 σ_14 => ?_)
  refine rt_vR (As := [.int (1 : Int32), .int x_13]) (st := [va_rf r_10]) (r_11) vw_Reader_95 (s_Text_cut (Nat.le_refl _) (r_11) ((1 : Int32)) (x_13) σ_14) (Nat.le_trans (by decide) hdd) rfl (by simp [rb_cat_r, rb_cat_i, rb_cat_l]) d_Reader_readCommandLine_61 (fun r_15 σ_16 => ?_)
  refine rb_TC.mono (rk_aload_n 0 d_Reader_readCommandLine_64 rfl rfl) ?_
  refine rt_gI r0 fw_Reader_107 d_Reader_readCommandLine_65 (fun x_17 => ?_)
  refine rt_vI (As := [va_rf r_15, .int x_17]) (st := []) (r_10) vw_Reader_116 (s_Rules_addCommand (Nat.le_refl _) (r_10) (r_15) (x_17) σ_16) (Nat.le_trans (by decide) hdd) rfl (by simp [rb_cat_r, rb_cat_i, rb_cat_l]) d_Reader_readCommandLine_68 (fun x_18 σ_19 => ?_)
  refine rb_TC.ite (fun hn => ?_) (fun _ => rb_TC.none)
  exact rt_iret (ty := .boolean) rfl (rb_nar_Z hn) (fun h => h) d_Reader_readCommandLine_71
noncomputable def f_Reader_readCommandLine (r0 : Option Nat) (σ : rb_St) : Option rb_Rs :=
  (rb_gI σ r0 8 5).bind fun x_1 => if x_1 = 0 then (some (some (.int (0 : Int32)), σ)) else ((rb_gI σ r0 8 5).bind fun x_2 => if x_2 = (1 : Int32) then (some (some (.int (0 : Int32)), σ)) else ((rb_gI σ r0 8 7).bind fun x_3 => if x_3 = (-1 : Int32) then ((rb_gR σ r0 8 1).bind fun r_4 => (rb_fc σ r_4 4).bind fun _ => rb_cI (f_Rules_commandCount (r_4)  σ) fun x_5 σ_6 => (rb_pI σ_6 r0 8 7 x_5).bind fun σ_7 => (rb_fc σ_7 r0 8).bind fun _ => rb_cI (f_Reader_beginCommands (r0)  σ_7) fun x_8 σ_9 => if x_8 = 0 then (some (some (.int (0 : Int32)), σ_9)) else (f_Reader_readCommandLine_j45 (r0) σ_9)) else (f_Reader_readCommandLine_j45 (r0) σ)))
theorem s_Reader_readCommandLine {E : rb_EV} {d : Nat} (hdd : 8 ≤ d) (r0 : Option Nat) (σ : rb_St) : rb_Does E k_Reader_readCommandLine d [va_rf r0] σ (f_Reader_readCommandLine r0 σ) := by
  refine rb_start (lv := [some (va_rf r0)]) (by decide) (by simp [lg_sl, rb_as, lv_args, rb_cat_r, rb_cat_i, rb_cat_l, rb_nL, k_Reader_readCommandLine]) (fun res => ?_)
  unfold f_Reader_readCommandLine
  refine rb_TC.mono (rk_aload_n 0 d_Reader_readCommandLine_0 rfl rfl) ?_
  refine rt_gI r0 fw_Reader_73 d_Reader_readCommandLine_1 (fun x_1 => ?_)
  refine rt_if_eq 15 d_Reader_readCommandLine_4 (by decide) (fun _ => ?_) (fun _ => ?_)
  · refine rb_TC.mono (rk_iconst (0 : Int32) d_Reader_readCommandLine_15 (by decide)) ?_
    exact rt_iret (ty := .boolean) rfl (by decide) (fun h => h) d_Reader_readCommandLine_16
  · refine rb_TC.mono (rk_aload_n 0 d_Reader_readCommandLine_7 rfl rfl) ?_
    refine rt_gI r0 fw_Reader_73 d_Reader_readCommandLine_8 (fun x_2 => ?_)
    refine rb_TC.mono (rk_iconst (1 : Int32) d_Reader_readCommandLine_11 (by decide)) ?_
    refine rt_icmp_ne 17 d_Reader_readCommandLine_12 (by decide) (fun _ => ?_) (fun _ => ?_)
    · refine rb_TC.mono (rk_iconst (0 : Int32) d_Reader_readCommandLine_15 (by decide)) ?_
      exact rt_iret (ty := .boolean) rfl (by decide) (fun h => h) d_Reader_readCommandLine_16
    · refine rb_TC.mono (rk_aload_n 0 d_Reader_readCommandLine_17 rfl rfl) ?_
      refine rt_gI r0 fw_Reader_107 d_Reader_readCommandLine_18 (fun x_3 => ?_)
      refine rb_TC.mono (rk_iconst (-1 : Int32) d_Reader_readCommandLine_21 (by decide)) ?_
      refine rt_icmp_ne 45 d_Reader_readCommandLine_22 (by decide) (fun _ => ?_) (fun _ => ?_)
      · refine rb_TC.mono (rk_aload_n 0 d_Reader_readCommandLine_25 rfl rfl) ?_
        refine rb_TC.mono (rk_aload_n 0 d_Reader_readCommandLine_26 rfl rfl) ?_
        refine rt_gR r0 fw_Reader_24 d_Reader_readCommandLine_27 (fun r_4 => ?_)
        refine rt_vI (As := []) (st := [va_rf r0]) (r_4) vw_Reader_110 (s_Rules_commandCount (Nat.le_refl _) (r_4)  σ) (Nat.le_trans (by decide) hdd) rfl (by simp [rb_cat_r, rb_cat_i, rb_cat_l]) d_Reader_readCommandLine_30 (fun x_5 σ_6 => ?_)
        refine rt_pI r0 fp_Reader_readCommandLine_107 d_Reader_readCommandLine_33 (fun σ_7 => ?_)
        refine rb_TC.mono (rk_aload_n 0 d_Reader_readCommandLine_36 rfl rfl) ?_
        refine rt_vI (As := []) (st := []) (r0) vw_Reader_113 (s_Reader_beginCommands (Nat.le_refl _) (r0)  σ_7) (Nat.le_trans (by decide) hdd) rfl (by simp [rb_cat_r, rb_cat_i, rb_cat_l]) d_Reader_readCommandLine_37 (fun x_8 σ_9 => ?_)
        refine rt_if_ne 45 d_Reader_readCommandLine_40 (by decide) (fun _ => ?_) (fun _ => ?_)
        · refine rb_TC.mono (rk_iconst (0 : Int32) d_Reader_readCommandLine_43 (by decide)) ?_
          exact rt_iret (ty := .boolean) rfl (by decide) (fun h => h) d_Reader_readCommandLine_44
        · exact t_Reader_readCommandLine_j45 hdd  (r0) σ_9
      · exact t_Reader_readCommandLine_j45 hdd  (r0) σ
-- ===== RuleBuilder$Reader.isLastColon(LRuleBuilder$Text;I)Z
def k_Reader_isLastColon : rb_MK := (⟨"RuleBuilder$Reader", "isLastColon", "(LRuleBuilder$Text;I)Z"⟩, prog_7_method_8_code, 3, some (.boolean))
theorem mw_Reader_isLastColon : rb_Mw k_Reader_isLastColon 2 := ⟨rb_inG 800 (by decide +kernel) rfl, rb_inG 92 (by decide +kernel) rfl, ⟨by decide, by decide, by decide +kernel⟩, by decide⟩
theorem vw_Reader_46 : rb_Vw "RuleBuilder$Reader" 46 k_Text_at 2 1 := ⟨mw_Text_at, rb_inG 553 (by decide +kernel) rfl, rb_inG 415 (by decide +kernel) rfl, rb_inG 416 (by decide +kernel) rfl, by decide, by decide, _, rfl, rfl⟩
theorem d_Reader_isLastColon_0 : decode prog_7_method_8_code 0 = .ok (.iload_n 1, 1) := by decide +kernel
theorem d_Reader_isLastColon_1 : decode prog_7_method_8_code 1 = .ok (.iconst 1, 1) := by decide +kernel
theorem d_Reader_isLastColon_2 : decode prog_7_method_8_code 2 = .ok (.iadd, 1) := by decide +kernel
theorem d_Reader_isLastColon_3 : decode prog_7_method_8_code 3 = .ok (.istore_n 2, 1) := by decide +kernel
theorem d_Reader_isLastColon_4 : decode prog_7_method_8_code 4 = .ok (.iload_n 2, 1) := by decide +kernel
theorem d_Reader_isLastColon_5 : decode prog_7_method_8_code 5 = .ok (.aload_n 0, 1) := by decide +kernel
theorem d_Reader_isLastColon_6 : decode prog_7_method_8_code 6 = .ok (.invokevirtual 42, 3) := by decide +kernel
theorem d_Reader_isLastColon_9 : decode prog_7_method_8_code 9 = .ok (.if_icmp .ge 21, 3) := by decide +kernel
theorem d_Reader_isLastColon_12 : decode prog_7_method_8_code 12 = .ok (.aload_n 0, 1) := by decide +kernel
theorem d_Reader_isLastColon_13 : decode prog_7_method_8_code 13 = .ok (.iload_n 2, 1) := by decide +kernel
theorem d_Reader_isLastColon_14 : decode prog_7_method_8_code 14 = .ok (.invokevirtual 46, 3) := by decide +kernel
theorem d_Reader_isLastColon_17 : decode prog_7_method_8_code 17 = .ok (.bipush 58, 2) := by decide +kernel
theorem d_Reader_isLastColon_19 : decode prog_7_method_8_code 19 = .ok (.if_icmp .ne 5, 3) := by decide +kernel
theorem d_Reader_isLastColon_22 : decode prog_7_method_8_code 22 = .ok (.iconst 0, 1) := by decide +kernel
theorem d_Reader_isLastColon_23 : decode prog_7_method_8_code 23 = .ok (.ireturn, 1) := by decide +kernel
theorem d_Reader_isLastColon_24 : decode prog_7_method_8_code 24 = .ok (.iinc 2 1, 3) := by decide +kernel
theorem d_Reader_isLastColon_27 : decode prog_7_method_8_code 27 = .ok (.goto (-23), 3) := by decide +kernel
theorem d_Reader_isLastColon_30 : decode prog_7_method_8_code 30 = .ok (.iload_n 1, 1) := by decide +kernel
theorem d_Reader_isLastColon_31 : decode prog_7_method_8_code 31 = .ok (.aload_n 0, 1) := by decide +kernel
theorem d_Reader_isLastColon_32 : decode prog_7_method_8_code 32 = .ok (.invokevirtual 42, 3) := by decide +kernel
theorem d_Reader_isLastColon_35 : decode prog_7_method_8_code 35 = .ok (.if_icmp .ge 7, 3) := by decide +kernel
theorem d_Reader_isLastColon_38 : decode prog_7_method_8_code 38 = .ok (.iconst 1, 1) := by decide +kernel
theorem d_Reader_isLastColon_39 : decode prog_7_method_8_code 39 = .ok (.goto 4, 3) := by decide +kernel
theorem d_Reader_isLastColon_42 : decode prog_7_method_8_code 42 = .ok (.iconst 0, 1) := by decide +kernel
theorem d_Reader_isLastColon_43 : decode prog_7_method_8_code 43 = .ok (.ireturn, 1) := by decide +kernel
noncomputable def f_Reader_isLastColon_b4 (r0 : Option Nat) (x1 : Int32) (x2 : Int32) (σ : rb_St) : Option ((Int32 × rb_St) ⊕ rb_Rs) :=
  (rb_fc σ r0 2).bind fun _ => rb_cI (f_Text_length (r0)  σ) fun x_1 σ_2 => if x_1 ≤ x2 then (((rb_fc σ_2 r0 2).bind fun _ => rb_cI (f_Text_length (r0)  σ_2) fun x_3 σ_4 => if x_3 ≤ x1 then (some (some (.int (0 : Int32)), σ_4)) else (some (some (.int (1 : Int32)), σ_4))).map Sum.inr) else ((rb_fc σ_2 r0 2).bind fun _ => rb_cI (f_Text_at (r0) (x2) σ_2) fun x_5 σ_6 => if x_5 = (58 : Int32) then ((some (some (.int (0 : Int32)), σ_6)).map Sum.inr) else (some (.inl ((x2 + 1), σ_6))))
theorem t_Reader_isLastColon_b4 {E : rb_EV} {d : Nat} {σ0 : rb_St} {res : rb_Rs} (hdd : 1 ≤ d)  (r0 : Option Nat) (x1 : Int32) (x2 : Int32) (σ : rb_St) : rb_TC (f_Reader_isLastColon_b4 r0 x1 x2 σ) (Sum.elim (fun z : (Int32 × rb_St) => rb_WK E k_Reader_isLastColon d σ0 res 4 [some (va_rf r0), some (.int x1), some (.int z.1)] [] z.2) (fun r => r = res)) (rb_WK E k_Reader_isLastColon d σ0 res 4 [some (va_rf r0), some (.int x1), some (.int x2)] [] σ) := by
  unfold f_Reader_isLastColon_b4
  refine rb_TC.mono (rk_iload_n 2 d_Reader_isLastColon_4 rfl rfl) ?_
  refine rb_TC.mono (rk_aload_n 0 d_Reader_isLastColon_5 rfl rfl) ?_
  refine rt_vI (As := []) (st := [.int x2]) (r0) vw_Reader_42 (s_Text_length (Nat.le_refl _) (r0)  σ) (Nat.le_trans (by decide) hdd) rfl (by simp [rb_cat_r, rb_cat_i, rb_cat_l]) d_Reader_isLastColon_6 (fun x_1 σ_2 => ?_)
  refine rt_icmp_ge 30 d_Reader_isLastColon_9 (by decide) (fun _ => ?_) (fun _ => ?_)
  · refine rb_TC.out ?_
    refine rb_TC.mono (rk_iload_n 1 d_Reader_isLastColon_30 rfl rfl) ?_
    refine rb_TC.mono (rk_aload_n 0 d_Reader_isLastColon_31 rfl rfl) ?_
    refine rt_vI (As := []) (st := [.int x1]) (r0) vw_Reader_42 (s_Text_length (Nat.le_refl _) (r0)  σ_2) (Nat.le_trans (by decide) hdd) rfl (by simp [rb_cat_r, rb_cat_i, rb_cat_l]) d_Reader_isLastColon_32 (fun x_3 σ_4 => ?_)
    refine rt_icmp_ge 42 d_Reader_isLastColon_35 (by decide) (fun _ => ?_) (fun _ => ?_)
    · refine rb_TC.mono (rk_iconst (0 : Int32) d_Reader_isLastColon_42 (by decide)) ?_
      exact rt_iret (ty := .boolean) rfl (by decide) (fun h => h) d_Reader_isLastColon_43
    · refine rb_TC.mono (rk_iconst (1 : Int32) d_Reader_isLastColon_38 (by decide)) ?_
      refine rb_TC.mono (rk_goto 43 d_Reader_isLastColon_39 (by decide)) ?_
      exact rt_iret (ty := .boolean) rfl (by decide) (fun h => h) d_Reader_isLastColon_43
  · refine rb_TC.mono (rk_aload_n 0 d_Reader_isLastColon_12 rfl rfl) ?_
    refine rb_TC.mono (rk_iload_n 2 d_Reader_isLastColon_13 rfl rfl) ?_
    refine rt_vI (As := [.int x2]) (st := []) (r0) vw_Reader_46 (s_Text_at (Nat.le_refl _) (r0) (x2) σ_2) (Nat.le_trans (by decide) hdd) rfl (by simp [rb_cat_r, rb_cat_i, rb_cat_l]) d_Reader_isLastColon_14 (fun x_5 σ_6 => ?_)
    refine rb_TC.mono (rk_bipush (58 : Int32) d_Reader_isLastColon_17 (by decide)) ?_
    refine rt_icmp_ne 24 d_Reader_isLastColon_19 (by decide) (fun _ => ?_) (fun _ => ?_)
    · refine rb_TC.out ?_
      refine rb_TC.mono (rk_iconst (0 : Int32) d_Reader_isLastColon_22 (by decide)) ?_
      exact rt_iret (ty := .boolean) rfl (by decide) (fun h => h) d_Reader_isLastColon_23
    · refine rb_TC.mono (rk_iinc (lv2 := [some (va_rf r0), some (.int x1), some (.int (x2 + 1))]) (x2 + 1) d_Reader_isLastColon_24 rfl rfl (by decide) (fun _ => rb_one_i) rfl) ?_
      refine rb_TC.mono (rk_goto 4 d_Reader_isLastColon_27 (by decide)) ?_
      exact rb_back
noncomputable def f_Reader_isLastColon (r0 : Option Nat) (x1 : Int32) (σ : rb_St) : Option rb_Rs :=
  rb_it (fun z : (Int32 × rb_St) => f_Reader_isLastColon_b4 (r0) (x1) (z.1) z.2) ((x1 + (1 : Int32)), σ)
theorem s_Reader_isLastColon {E : rb_EV} {d : Nat} (hdd : 1 ≤ d) (r0 : Option Nat) (x1 : Int32) (σ : rb_St) : rb_Does E k_Reader_isLastColon d [va_rf r0, .int x1] σ (f_Reader_isLastColon r0 x1 σ) := by
  refine rb_start (lv := [some (va_rf r0), some (.int x1), none]) (by decide) (by simp [lg_sl, rb_as, lv_args, rb_cat_r, rb_cat_i, rb_cat_l, rb_nL, k_Reader_isLastColon]) (fun res => ?_)
  unfold f_Reader_isLastColon
  refine rb_TC.mono (rk_iload_n 1 d_Reader_isLastColon_0 rfl rfl) ?_
  refine rb_TC.mono (rk_iconst (1 : Int32) d_Reader_isLastColon_1 (by decide)) ?_
  refine rb_TC.mono (rk_iadd d_Reader_isLastColon_2) ?_
  refine rb_TC.mono (rk_istore_n (lv2 := [some (va_rf r0), some (.int x1), some (.int (x1 + (1 : Int32)))]) 2 d_Reader_isLastColon_3 rfl (by decide) (fun _ => rb_one_i) rfl) ?_
  exact rb_TC.loop2 (A := (fun z : (Int32 × rb_St) => rb_WK E k_Reader_isLastColon d σ res 4 [some (va_rf r0), some (.int x1), some (.int z.1)] [] z.2)) ((x1 + (1 : Int32)), σ) (fun z => t_Reader_isLastColon_b4 hdd  (r0) (x1) (z.1) z.2)
-- ===== RuleBuilder$Reader.kindOf(Ljava/lang/String;)I
def k_Reader_kindOf : rb_MK := (⟨"RuleBuilder$Reader", "kindOf", "(Ljava/lang/String;)I"⟩, prog_7_method_9_code, 2, some (.int))
theorem mw_Reader_kindOf : rb_Mw k_Reader_kindOf 1 := ⟨rb_inG 811 (by decide +kernel) rfl, rb_inG 92 (by decide +kernel) rfl, ⟨by decide, by decide, by decide +kernel⟩, by decide⟩
theorem vw_Reader_147 : rb_Vw "RuleBuilder$Reader" 147 k_Words_count 6 0 := ⟨mw_Words_count, rb_inG 794 (by decide +kernel) rfl, rb_inG 795 (by decide +kernel) rfl, rb_inG 796 (by decide +kernel) rfl, by decide, by decide, _, rfl, rfl⟩
theorem vw_Reader_165 : rb_Vw "RuleBuilder$Reader" 165 k_Str_equals 14 1 := ⟨mw_Str_equals, rb_inG 813 (by decide +kernel) rfl, rb_inG 814 (by decide +kernel) rfl, rb_inG 815 (by decide +kernel) rfl, by decide, by decide, _, rfl, rfl⟩
theorem vw_Reader_195 : rb_Vw "RuleBuilder$Reader" 195 k_Rules_fromLength 4 1 := ⟨mw_Rules_fromLength, rb_inG 825 (by decide +kernel) rfl, rb_inG 826 (by decide +kernel) rfl, rb_inG 827 (by decide +kernel) rfl, by decide, by decide, _, rfl, rfl⟩
theorem d_Reader_kindOf_0 : decode prog_7_method_9_code 0 = .ok (.aload_n 1, 1) := by decide +kernel
theorem d_Reader_kindOf_1 : decode prog_7_method_9_code 1 = .ok (.ldc 163, 2) := by decide +kernel
theorem d_Reader_kindOf_3 : decode prog_7_method_9_code 3 = .ok (.invokevirtual 165, 3) := by decide +kernel
theorem d_Reader_kindOf_6 : decode prog_7_method_9_code 6 = .ok (.ifCond .ne 30, 3) := by decide +kernel
theorem d_Reader_kindOf_9 : decode prog_7_method_9_code 9 = .ok (.aload_n 1, 1) := by decide +kernel
theorem d_Reader_kindOf_10 : decode prog_7_method_9_code 10 = .ok (.ldc 187, 2) := by decide +kernel
theorem d_Reader_kindOf_12 : decode prog_7_method_9_code 12 = .ok (.invokevirtual 165, 3) := by decide +kernel
theorem d_Reader_kindOf_15 : decode prog_7_method_9_code 15 = .ok (.ifCond .ne 21, 3) := by decide +kernel
theorem d_Reader_kindOf_18 : decode prog_7_method_9_code 18 = .ok (.aload_n 1, 1) := by decide +kernel
theorem d_Reader_kindOf_19 : decode prog_7_method_9_code 19 = .ok (.ldc 189, 2) := by decide +kernel
theorem d_Reader_kindOf_21 : decode prog_7_method_9_code 21 = .ok (.invokevirtual 165, 3) := by decide +kernel
theorem d_Reader_kindOf_24 : decode prog_7_method_9_code 24 = .ok (.ifCond .ne 12, 3) := by decide +kernel
theorem d_Reader_kindOf_27 : decode prog_7_method_9_code 27 = .ok (.aload_n 1, 1) := by decide +kernel
theorem d_Reader_kindOf_28 : decode prog_7_method_9_code 28 = .ok (.ldc 191, 2) := by decide +kernel
theorem d_Reader_kindOf_30 : decode prog_7_method_9_code 30 = .ok (.invokevirtual 165, 3) := by decide +kernel
theorem d_Reader_kindOf_33 : decode prog_7_method_9_code 33 = .ok (.ifCond .eq 5, 3) := by decide +kernel
theorem d_Reader_kindOf_36 : decode prog_7_method_9_code 36 = .ok (.iconst 1, 1) := by decide +kernel
theorem d_Reader_kindOf_37 : decode prog_7_method_9_code 37 = .ok (.ireturn, 1) := by decide +kernel
theorem d_Reader_kindOf_38 : decode prog_7_method_9_code 38 = .ok (.aload_n 1, 1) := by decide +kernel
theorem d_Reader_kindOf_39 : decode prog_7_method_9_code 39 = .ok (.ldc 193, 2) := by decide +kernel
theorem d_Reader_kindOf_41 : decode prog_7_method_9_code 41 = .ok (.invokevirtual 165, 3) := by decide +kernel
theorem d_Reader_kindOf_44 : decode prog_7_method_9_code 44 = .ok (.ifCond .eq 5, 3) := by decide +kernel
theorem d_Reader_kindOf_47 : decode prog_7_method_9_code 47 = .ok (.iconst 4, 1) := by decide +kernel
theorem d_Reader_kindOf_48 : decode prog_7_method_9_code 48 = .ok (.ireturn, 1) := by decide +kernel
theorem d_Reader_kindOf_49 : decode prog_7_method_9_code 49 = .ok (.aload_n 0, 1) := by decide +kernel
theorem d_Reader_kindOf_50 : decode prog_7_method_9_code 50 = .ok (.getfield 32, 3) := by decide +kernel
theorem d_Reader_kindOf_53 : decode prog_7_method_9_code 53 = .ok (.invokevirtual 147, 3) := by decide +kernel
theorem d_Reader_kindOf_56 : decode prog_7_method_9_code 56 = .ok (.iconst 1, 1) := by decide +kernel
theorem d_Reader_kindOf_57 : decode prog_7_method_9_code 57 = .ok (.if_icmp .ne 18, 3) := by decide +kernel
theorem d_Reader_kindOf_60 : decode prog_7_method_9_code 60 = .ok (.aload_n 0, 1) := by decide +kernel
theorem d_Reader_kindOf_61 : decode prog_7_method_9_code 61 = .ok (.getfield 24, 3) := by decide +kernel
theorem d_Reader_kindOf_64 : decode prog_7_method_9_code 64 = .ok (.aload_n 1, 1) := by decide +kernel
theorem d_Reader_kindOf_65 : decode prog_7_method_9_code 65 = .ok (.invokevirtual 195, 3) := by decide +kernel
theorem d_Reader_kindOf_68 : decode prog_7_method_9_code 68 = .ok (.ifCond .le 7, 3) := by decide +kernel
theorem d_Reader_kindOf_71 : decode prog_7_method_9_code 71 = .ok (.iconst 3, 1) := by decide +kernel
theorem d_Reader_kindOf_72 : decode prog_7_method_9_code 72 = .ok (.goto 4, 3) := by decide +kernel
theorem d_Reader_kindOf_75 : decode prog_7_method_9_code 75 = .ok (.iconst 2, 1) := by decide +kernel
theorem d_Reader_kindOf_76 : decode prog_7_method_9_code 76 = .ok (.ireturn, 1) := by decide +kernel
noncomputable def f_Reader_kindOf (r0 : Option Nat) (r1 : Option Nat) (σ : rb_St) : Option rb_Rs :=
  (rb_fc σ r1 14).bind fun _ => rb_cI (f_Str_equals (r1) ((some (rb_k σ 1))) σ) fun x_1 σ_2 => if x_1 = 0 then ((rb_fc σ_2 r1 14).bind fun _ => rb_cI (f_Str_equals (r1) ((some (rb_k σ_2 2))) σ_2) fun x_3 σ_4 => if x_3 = 0 then ((rb_fc σ_4 r1 14).bind fun _ => rb_cI (f_Str_equals (r1) ((some (rb_k σ_4 3))) σ_4) fun x_5 σ_6 => if x_5 = 0 then ((rb_fc σ_6 r1 14).bind fun _ => rb_cI (f_Str_equals (r1) ((some (rb_k σ_6 4))) σ_6) fun x_7 σ_8 => if x_7 = 0 then ((rb_fc σ_8 r1 14).bind fun _ => rb_cI (f_Str_equals (r1) ((some (rb_k σ_8 5))) σ_8) fun x_9 σ_10 => if x_9 = 0 then ((rb_gR σ_10 r0 8 3).bind fun r_11 => (rb_fc σ_10 r_11 6).bind fun _ => rb_cI (f_Words_count (r_11)  σ_10) fun x_12 σ_13 => if x_12 = (1 : Int32) then ((rb_gR σ_13 r0 8 1).bind fun r_14 => (rb_fc σ_13 r_14 4).bind fun _ => rb_cI (f_Rules_fromLength (r_14) (r1) σ_13) fun x_15 σ_16 => if x_15 ≤ 0 then (some (some (.int (2 : Int32)), σ_16)) else (some (some (.int (3 : Int32)), σ_16))) else (some (some (.int (2 : Int32)), σ_13))) else (some (some (.int (4 : Int32)), σ_10))) else (some (some (.int (1 : Int32)), σ_8))) else (some (some (.int (1 : Int32)), σ_6))) else (some (some (.int (1 : Int32)), σ_4))) else (some (some (.int (1 : Int32)), σ_2))
theorem s_Reader_kindOf {E : rb_EV} {d : Nat} (hdd : 7 ≤ d) (r0 : Option Nat) (r1 : Option Nat) (σ : rb_St) : rb_Does E k_Reader_kindOf d [va_rf r0, va_rf r1] σ (f_Reader_kindOf r0 r1 σ) := by
  refine rb_start (lv := [some (va_rf r0), some (va_rf r1)]) (by decide) (by simp [lg_sl, rb_as, lv_args, rb_cat_r, rb_cat_i, rb_cat_l, rb_nL, k_Reader_kindOf]) (fun res => ?_)
  unfold f_Reader_kindOf
  refine rb_TC.mono (rk_aload_n 1 d_Reader_kindOf_0 rfl rfl) ?_
  refine rb_TC.mono (rk_ldcs (no := 1) (by decide) d_Reader_kindOf_1) ?_
  refine rt_vI (As := [va_rf (some (rb_k σ 1))]) (st := []) (r1) vw_Reader_165 (s_Str_equals (Nat.le_refl _) (r1) ((some (rb_k σ 1))) σ) (Nat.le_trans (by decide) hdd) rfl (by simp [rb_cat_r, rb_cat_i, rb_cat_l]) d_Reader_kindOf_3 (fun x_1 σ_2 => ?_)
  refine rt_if_ne 36 d_Reader_kindOf_6 (by decide) (fun _ => ?_) (fun _ => ?_)
  · refine rb_TC.mono (rk_aload_n 1 d_Reader_kindOf_9 rfl rfl) ?_
    refine rb_TC.mono (rk_ldcs (no := 2) (by decide) d_Reader_kindOf_10) ?_
    refine rt_vI (As := [va_rf (some (rb_k σ_2 2))]) (st := []) (r1) vw_Reader_165 (s_Str_equals (Nat.le_refl _) (r1) ((some (rb_k σ_2 2))) σ_2) (Nat.le_trans (by decide) hdd) rfl (by simp [rb_cat_r, rb_cat_i, rb_cat_l]) d_Reader_kindOf_12 (fun x_3 σ_4 => ?_)
    refine rt_if_ne 36 d_Reader_kindOf_15 (by decide) (fun _ => ?_) (fun _ => ?_)
    · refine rb_TC.mono (rk_aload_n 1 d_Reader_kindOf_18 rfl rfl) ?_
      refine rb_TC.mono (rk_ldcs (no := 3) (by decide) d_Reader_kindOf_19) ?_
      refine rt_vI (As := [va_rf (some (rb_k σ_4 3))]) (st := []) (r1) vw_Reader_165 (s_Str_equals (Nat.le_refl _) (r1) ((some (rb_k σ_4 3))) σ_4) (Nat.le_trans (by decide) hdd) rfl (by simp [rb_cat_r, rb_cat_i, rb_cat_l]) d_Reader_kindOf_21 (fun x_5 σ_6 => ?_)
      refine rt_if_ne 36 d_Reader_kindOf_24 (by decide) (fun _ => ?_) (fun _ => ?_)
      · refine rb_TC.mono (rk_aload_n 1 d_Reader_kindOf_27 rfl rfl) ?_
        refine rb_TC.mono (rk_ldcs (no := 4) (by decide) d_Reader_kindOf_28) ?_
        refine rt_vI (As := [va_rf (some (rb_k σ_6 4))]) (st := []) (r1) vw_Reader_165 (s_Str_equals (Nat.le_refl _) (r1) ((some (rb_k σ_6 4))) σ_6) (Nat.le_trans (by decide) hdd) rfl (by simp [rb_cat_r, rb_cat_i, rb_cat_l]) d_Reader_kindOf_30 (fun x_7 σ_8 => ?_)
        refine rt_if_eq 38 d_Reader_kindOf_33 (by decide) (fun _ => ?_) (fun _ => ?_)
        · refine rb_TC.mono (rk_aload_n 1 d_Reader_kindOf_38 rfl rfl) ?_
          refine rb_TC.mono (rk_ldcs (no := 5) (by decide) d_Reader_kindOf_39) ?_
          refine rt_vI (As := [va_rf (some (rb_k σ_8 5))]) (st := []) (r1) vw_Reader_165 (s_Str_equals (Nat.le_refl _) (r1) ((some (rb_k σ_8 5))) σ_8) (Nat.le_trans (by decide) hdd) rfl (by simp [rb_cat_r, rb_cat_i, rb_cat_l]) d_Reader_kindOf_41 (fun x_9 σ_10 => ?_)
          refine rt_if_eq 49 d_Reader_kindOf_44 (by decide) (fun _ => ?_) (fun _ => ?_)
          · refine rb_TC.mono (rk_aload_n 0 d_Reader_kindOf_49 rfl rfl) ?_
            refine rt_gR r0 fw_Reader_32 d_Reader_kindOf_50 (fun r_11 => ?_)
            refine rt_vI (As := []) (st := []) (r_11) vw_Reader_147 (s_Words_count (Nat.le_refl _) (r_11)  σ_10) (Nat.le_trans (by decide) hdd) rfl (by simp [rb_cat_r, rb_cat_i, rb_cat_l]) d_Reader_kindOf_53 (fun x_12 σ_13 => ?_)
            refine rb_TC.mono (rk_iconst (1 : Int32) d_Reader_kindOf_56 (by decide)) ?_
            refine rt_icmp_ne 75 d_Reader_kindOf_57 (by decide) (fun _ => ?_) (fun _ => ?_)
            · refine rb_TC.mono (rk_aload_n 0 d_Reader_kindOf_60 rfl rfl) ?_
              refine rt_gR r0 fw_Reader_24 d_Reader_kindOf_61 (fun r_14 => ?_)
              refine rb_TC.mono (rk_aload_n 1 d_Reader_kindOf_64 rfl rfl) ?_
              refine rt_vI (As := [va_rf r1]) (st := []) (r_14) vw_Reader_195 (s_Rules_fromLength (Nat.le_refl _) (r_14) (r1) σ_13) (Nat.le_trans (by decide) hdd) rfl (by simp [rb_cat_r, rb_cat_i, rb_cat_l]) d_Reader_kindOf_65 (fun x_15 σ_16 => ?_)
              refine rt_if_le 75 d_Reader_kindOf_68 (by decide) (fun _ => ?_) (fun _ => ?_)
              · refine rb_TC.mono (rk_iconst (2 : Int32) d_Reader_kindOf_75 (by decide)) ?_
                exact rt_iret (ty := .int) rfl rfl (fun h => h) d_Reader_kindOf_76
              · refine rb_TC.mono (rk_iconst (3 : Int32) d_Reader_kindOf_71 (by decide)) ?_
                refine rb_TC.mono (rk_goto 76 d_Reader_kindOf_72 (by decide)) ?_
                exact rt_iret (ty := .int) rfl rfl (fun h => h) d_Reader_kindOf_76
            · refine rb_TC.mono (rk_iconst (2 : Int32) d_Reader_kindOf_75 (by decide)) ?_
              exact rt_iret (ty := .int) rfl rfl (fun h => h) d_Reader_kindOf_76
          · refine rb_TC.mono (rk_iconst (4 : Int32) d_Reader_kindOf_47 (by decide)) ?_
            exact rt_iret (ty := .int) rfl rfl (fun h => h) d_Reader_kindOf_48
        · refine rb_TC.mono (rk_iconst (1 : Int32) d_Reader_kindOf_36 (by decide)) ?_
          exact rt_iret (ty := .int) rfl rfl (fun h => h) d_Reader_kindOf_37
      · refine rb_TC.mono (rk_iconst (1 : Int32) d_Reader_kindOf_36 (by decide)) ?_
        exact rt_iret (ty := .int) rfl rfl (fun h => h) d_Reader_kindOf_37
    · refine rb_TC.mono (rk_iconst (1 : Int32) d_Reader_kindOf_36 (by decide)) ?_
      exact rt_iret (ty := .int) rfl rfl (fun h => h) d_Reader_kindOf_37
  · refine rb_TC.mono (rk_iconst (1 : Int32) d_Reader_kindOf_36 (by decide)) ?_
    exact rt_iret (ty := .int) rfl rfl (fun h => h) d_Reader_kindOf_37
-- ===== RuleBuilder$Reader.readSuffixes()Z
def k_Reader_readSuffixes : rb_MK := (⟨"RuleBuilder$Reader", "readSuffixes", "()Z"⟩, prog_7_method_10_code, 4, some (.boolean))
theorem mw_Reader_readSuffixes : rb_Mw k_Reader_readSuffixes 0 := ⟨rb_inG 840 (by decide +kernel) rfl, rb_inG 92 (by decide +kernel) rfl, ⟨by decide, by decide, by decide +kernel⟩, by decide⟩
theorem fw_Reader_198 : rb_Fw "RuleBuilder$Reader" 198 4 1 := ⟨_, rfl, by decide, by decide, by decide, rfl, rb_inG 160 (by decide +kernel) rfl⟩
theorem fp_Reader_readSuffixes_198 : rb_Fp k_Reader_readSuffixes 198 4 1 .int := ⟨fw_Reader_198, rfl, fun q h => by cases h; exact Or.inl rfl⟩
theorem vw_Reader_154 : rb_Vw "RuleBuilder$Reader" 154 k_Words_cut 6 1 := ⟨mw_Words_cut, rb_inG 801 (by decide +kernel) rfl, rb_inG 802 (by decide +kernel) rfl, rb_inG 803 (by decide +kernel) rfl, by decide, by decide, _, rfl, rfl⟩
theorem vw_Reader_201 : rb_Vw "RuleBuilder$Reader" 201 k_Words_isName 6 1 := ⟨mw_Words_isName, rb_inG 841 (by decide +kernel) rfl, rb_inG 842 (by decide +kernel) rfl, rb_inG 843 (by decide +kernel) rfl, by decide, by decide, _, rfl, rfl⟩
theorem vw_Reader_204 : rb_Vw "RuleBuilder$Reader" 204 k_Str_length 14 0 := ⟨mw_Str_length, rb_inG 849 (by decide +kernel) rfl, rb_inG 590 (by decide +kernel) rfl, rb_inG 591 (by decide +kernel) rfl, by decide, by decide, _, rfl, rfl⟩
theorem vw_Reader_205 : rb_Vw "RuleBuilder$Reader" 205 k_Str_charAt 14 1 := ⟨mw_Str_charAt, rb_inG 850 (by decide +kernel) rfl, rb_inG 598 (by decide +kernel) rfl, rb_inG 599 (by decide +kernel) rfl, by decide, by decide, _, rfl, rfl⟩
theorem vw_Reader_208 : rb_Vw "RuleBuilder$Reader" 208 k_Rules_addSuffix 4 1 := ⟨mw_Rules_addSuffix, rb_inG 851 (by decide +kernel) rfl, rb_inG 852 (by decide +kernel) rfl, rb_inG 853 (by decide +kernel) rfl, by decide, by decide, _, rfl, rfl⟩
theorem d_Reader_readSuffixes_0 : decode prog_7_method_10_code 0 = .ok (.aload_n 0, 1) := by decide +kernel
theorem d_Reader_readSuffixes_1 : decode prog_7_method_10_code 1 = .ok (.getfield 32, 3) := by decide +kernel
theorem d_Reader_readSuffixes_4 : decode prog_7_method_10_code 4 = .ok (.invokevirtual 147, 3) := by decide +kernel
theorem d_Reader_readSuffixes_7 : decode prog_7_method_10_code 7 = .ok (.iconst 1, 1) := by decide +kernel
theorem d_Reader_readSuffixes_8 : decode prog_7_method_10_code 8 = .ok (.if_icmp .ne 11, 3) := by decide +kernel
theorem d_Reader_readSuffixes_11 : decode prog_7_method_10_code 11 = .ok (.aload_n 0, 1) := by decide +kernel
theorem d_Reader_readSuffixes_12 : decode prog_7_method_10_code 12 = .ok (.getfield 24, 3) := by decide +kernel
theorem d_Reader_readSuffixes_15 : decode prog_7_method_10_code 15 = .ok (.iconst 0, 1) := by decide +kernel
theorem d_Reader_readSuffixes_16 : decode prog_7_method_10_code 16 = .ok (.putfield 198, 3) := by decide +kernel
theorem d_Reader_readSuffixes_19 : decode prog_7_method_10_code 19 = .ok (.iconst 1, 1) := by decide +kernel
theorem d_Reader_readSuffixes_20 : decode prog_7_method_10_code 20 = .ok (.istore_n 1, 1) := by decide +kernel
theorem d_Reader_readSuffixes_21 : decode prog_7_method_10_code 21 = .ok (.iload_n 1, 1) := by decide +kernel
theorem d_Reader_readSuffixes_22 : decode prog_7_method_10_code 22 = .ok (.aload_n 0, 1) := by decide +kernel
theorem d_Reader_readSuffixes_23 : decode prog_7_method_10_code 23 = .ok (.getfield 32, 3) := by decide +kernel
theorem d_Reader_readSuffixes_26 : decode prog_7_method_10_code 26 = .ok (.invokevirtual 147, 3) := by decide +kernel
theorem d_Reader_readSuffixes_29 : decode prog_7_method_10_code 29 = .ok (.if_icmp .ge 70, 3) := by decide +kernel
theorem d_Reader_readSuffixes_32 : decode prog_7_method_10_code 32 = .ok (.aload_n 0, 1) := by decide +kernel
theorem d_Reader_readSuffixes_33 : decode prog_7_method_10_code 33 = .ok (.getfield 32, 3) := by decide +kernel
theorem d_Reader_readSuffixes_36 : decode prog_7_method_10_code 36 = .ok (.iload_n 1, 1) := by decide +kernel
theorem d_Reader_readSuffixes_37 : decode prog_7_method_10_code 37 = .ok (.invokevirtual 154, 3) := by decide +kernel
theorem d_Reader_readSuffixes_40 : decode prog_7_method_10_code 40 = .ok (.astore_n 2, 1) := by decide +kernel
theorem d_Reader_readSuffixes_41 : decode prog_7_method_10_code 41 = .ok (.aload_n 0, 1) := by decide +kernel
theorem d_Reader_readSuffixes_42 : decode prog_7_method_10_code 42 = .ok (.getfield 32, 3) := by decide +kernel
theorem d_Reader_readSuffixes_45 : decode prog_7_method_10_code 45 = .ok (.iload_n 1, 1) := by decide +kernel
theorem d_Reader_readSuffixes_46 : decode prog_7_method_10_code 46 = .ok (.invokevirtual 201, 3) := by decide +kernel
theorem d_Reader_readSuffixes_49 : decode prog_7_method_10_code 49 = .ok (.ifCond .eq 25, 3) := by decide +kernel
theorem d_Reader_readSuffixes_52 : decode prog_7_method_10_code 52 = .ok (.aload_n 2, 1) := by decide +kernel
theorem d_Reader_readSuffixes_53 : decode prog_7_method_10_code 53 = .ok (.invokevirtual 204, 3) := by decide +kernel
theorem d_Reader_readSuffixes_56 : decode prog_7_method_10_code 56 = .ok (.iconst 2, 1) := by decide +kernel
theorem d_Reader_readSuffixes_57 : decode prog_7_method_10_code 57 = .ok (.if_icmp .lt 17, 3) := by decide +kernel
theorem d_Reader_readSuffixes_60 : decode prog_7_method_10_code 60 = .ok (.aload_n 2, 1) := by decide +kernel
theorem d_Reader_readSuffixes_61 : decode prog_7_method_10_code 61 = .ok (.iconst 0, 1) := by decide +kernel
theorem d_Reader_readSuffixes_62 : decode prog_7_method_10_code 62 = .ok (.invokevirtual 205, 3) := by decide +kernel
theorem d_Reader_readSuffixes_65 : decode prog_7_method_10_code 65 = .ok (.bipush 46, 2) := by decide +kernel
theorem d_Reader_readSuffixes_67 : decode prog_7_method_10_code 67 = .ok (.if_icmp .ne 7, 3) := by decide +kernel
theorem d_Reader_readSuffixes_70 : decode prog_7_method_10_code 70 = .ok (.iconst 1, 1) := by decide +kernel
theorem d_Reader_readSuffixes_71 : decode prog_7_method_10_code 71 = .ok (.goto 4, 3) := by decide +kernel
theorem d_Reader_readSuffixes_74 : decode prog_7_method_10_code 74 = .ok (.iconst 0, 1) := by decide +kernel
theorem d_Reader_readSuffixes_75 : decode prog_7_method_10_code 75 = .ok (.istore_n 3, 1) := by decide +kernel
theorem d_Reader_readSuffixes_76 : decode prog_7_method_10_code 76 = .ok (.iload_n 3, 1) := by decide +kernel
theorem d_Reader_readSuffixes_77 : decode prog_7_method_10_code 77 = .ok (.ifCond .eq 14, 3) := by decide +kernel
theorem d_Reader_readSuffixes_80 : decode prog_7_method_10_code 80 = .ok (.aload_n 0, 1) := by decide +kernel
theorem d_Reader_readSuffixes_81 : decode prog_7_method_10_code 81 = .ok (.getfield 24, 3) := by decide +kernel
theorem d_Reader_readSuffixes_84 : decode prog_7_method_10_code 84 = .ok (.aload_n 2, 1) := by decide +kernel
theorem d_Reader_readSuffixes_85 : decode prog_7_method_10_code 85 = .ok (.invokevirtual 208, 3) := by decide +kernel
theorem d_Reader_readSuffixes_88 : decode prog_7_method_10_code 88 = .ok (.ifCond .ne 5, 3) := by decide +kernel
theorem d_Reader_readSuffixes_91 : decode prog_7_method_10_code 91 = .ok (.iconst 0, 1) := by decide +kernel
theorem d_Reader_readSuffixes_92 : decode prog_7_method_10_code 92 = .ok (.ireturn, 1) := by decide +kernel
theorem d_Reader_readSuffixes_93 : decode prog_7_method_10_code 93 = .ok (.iinc 1 1, 3) := by decide +kernel
theorem d_Reader_readSuffixes_96 : decode prog_7_method_10_code 96 = .ok (.goto (-75), 3) := by decide +kernel
theorem d_Reader_readSuffixes_99 : decode prog_7_method_10_code 99 = .ok (.iconst 1, 1) := by decide +kernel
theorem d_Reader_readSuffixes_100 : decode prog_7_method_10_code 100 = .ok (.ireturn, 1) := by decide +kernel
noncomputable def f_Reader_readSuffixes_j91  (σ : rb_St) : Option rb_Rs :=
  some (some (.int (0 : Int32)), σ)
theorem t_Reader_readSuffixes_j91 {E : rb_EV} {d : Nat} {σ0 : rb_St} {res : rb_Rs} (hdd : 6 ≤ d)   (σ : rb_St) : rb_TC (f_Reader_readSuffixes_j91  σ) (fun r => r = res) (rb_WK E k_Reader_readSuffixes d σ0 res 91 [none, none, none, none] [] σ) := by
  unfold f_Reader_readSuffixes_j91
  refine rb_TC.mono (rk_iconst (0 : Int32) d_Reader_readSuffixes_91 (by decide)) ?_
  exact rt_iret (ty := .boolean) rfl (by decide) (fun h => h) d_Reader_readSuffixes_92
noncomputable def f_Reader_readSuffixes_j75 (r0 : Option Nat) (x1 : Int32) (r2 : Option Nat) (sx0 : Int32) (σ : rb_St) : Option ((Int32 × rb_St) ⊕ rb_Rs) :=
  if sx0 = 0 then ((f_Reader_readSuffixes_j91  σ).map Sum.inr) else ((rb_gR σ r0 8 1).bind fun r_15 => (rb_fc σ r_15 4).bind fun _ => rb_cI (f_Rules_addSuffix (r_15) (r2) σ) fun x_16 σ_17 => if x_16 = 0 then ((f_Reader_readSuffixes_j91  σ_17).map Sum.inr) else (some (.inl ((x1 + 1), σ_17))))
theorem t_Reader_readSuffixes_j75 {E : rb_EV} {d : Nat} {σ0 : rb_St} {res : rb_Rs} (hdd : 6 ≤ d)  (r0 : Option Nat) (x1 : Int32) (r2 : Option Nat) (sx0 : Int32) (σ : rb_St) : rb_TC (f_Reader_readSuffixes_j75 r0 x1 r2 sx0 σ) (Sum.elim (fun z : (Int32 × rb_St) => rb_WK E k_Reader_readSuffixes d σ0 res 21 [some (va_rf r0), some (.int z.1), none, none] [] z.2) (fun r => r = res)) (rb_WK E k_Reader_readSuffixes d σ0 res 75 [some (va_rf r0), some (.int x1), some (va_rf r2), none] [.int sx0] σ) := by
  unfold f_Reader_readSuffixes_j75
  refine rb_TC.mono (rk_istore_n (lv2 := [some (va_rf r0), some (.int x1), some (va_rf r2), some (.int sx0)]) 3 d_Reader_readSuffixes_75 rfl (by decide) (fun _ => rb_one_r) rfl) ?_
  refine rb_TC.mono (rk_iload_n 3 d_Reader_readSuffixes_76 rfl rfl) ?_
  refine rt_if_eq 91 d_Reader_readSuffixes_77 (by decide) (fun _ => ?_) (fun _ => ?_)
  · refine rb_TC.out ?_
    refine rb_TC.mono (rk_less (lv2 := [none, none, none, none]) (rb_le_ok (rb_leN (rb_leN (rb_leN (rb_leN rb_le0)))))) ?_
    exact t_Reader_readSuffixes_j91 hdd   σ
  · refine rb_TC.mono (rk_aload_n 0 d_Reader_readSuffixes_80 rfl rfl) ?_
    refine rt_gR r0 fw_Reader_24 d_Reader_readSuffixes_81 (fun r_15 => ?_)
    refine rb_TC.mono (rk_aload_n 2 d_Reader_readSuffixes_84 rfl rfl) ?_
    refine rt_vI (As := [va_rf r2]) (st := []) (r_15) vw_Reader_208 (s_Rules_addSuffix (Nat.le_refl _) (r_15) (r2) σ) (Nat.le_trans (by decide) hdd) rfl (by simp [rb_cat_r, rb_cat_i, rb_cat_l]) d_Reader_readSuffixes_85 (fun x_16 σ_17 => ?_)
    refine rt_if_ne 93 d_Reader_readSuffixes_88 (by decide) (fun _ => ?_) (fun _ => ?_)
    · refine rb_TC.out ?_
      refine rb_TC.mono (rk_less (lv2 := [none, none, none, none]) (rb_le_ok (rb_leN (rb_leN (rb_leN (rb_leN rb_le0)))))) ?_
      exact t_Reader_readSuffixes_j91 hdd   σ_17
    · refine rb_TC.mono (rk_iinc (lv2 := [some (va_rf r0), some (.int (x1 + 1)), some (va_rf r2), some (.int sx0)]) (x1 + 1) d_Reader_readSuffixes_93 rfl rfl (by decide) (fun _ => rb_one_r) rfl) ?_
      refine rb_TC.mono (rk_goto 21 d_Reader_readSuffixes_96 (by decide)) ?_
      refine rb_TC.mono (rk_less (lv2 := [some (va_rf r0), some (.int (x1 + 1)), none, none]) (rb_le_ok (rb_leS (rb_leS (rb_leN (rb_leN rb_le0)))))) ?_
      exact rb_back
noncomputable def f_Reader_readSuffixes_j74 (r0 : Option Nat) (x1 : Int32) (r2 : Option Nat) (σ : rb_St) : Option ((Int32 × rb_St) ⊕ rb_Rs) :=
  f_Reader_readSuffixes_j75 (r0) (x1) (r2) ((0 : Int32)) σ
theorem t_Reader_readSuffixes_j74 {E : rb_EV} {d : Nat} {σ0 : rb_St} {res : rb_Rs} (hdd : 6 ≤ d)  (r0 : Option Nat) (x1 : Int32) (r2 : Option Nat) (σ : rb_St) : rb_TC (f_Reader_readSuffixes_j74 r0 x1 r2 σ) (Sum.elim (fun z : (Int32 × rb_St) => rb_WK E k_Reader_readSuffixes d σ0 res 21 [some (va_rf r0), some (.int z.1), none, none] [] z.2) (fun r => r = res)) (rb_WK E k_Reader_readSuffixes d σ0 res 74 [some (va_rf r0), some (.int x1), some (va_rf r2), none] [] σ) := by
  unfold f_Reader_readSuffixes_j74
  refine rb_TC.mono (rk_iconst (0 : Int32) d_Reader_readSuffixes_74 (by decide)) ?_
  exact t_Reader_readSuffixes_j75 hdd  (r0) (x1) (r2) ((0 : Int32)) σ
noncomputable def f_Reader_readSuffixes_b21 (r0 : Option Nat) (x1 : Int32) (σ : rb_St) : Option ((Int32 × rb_St) ⊕ rb_Rs) :=
  (rb_gR σ r0 8 3).bind fun r_6 => (rb_fc σ r_6 6).bind fun _ => rb_cI (f_Words_count (r_6)  σ) fun x_7 σ_8 => if x_7 ≤ x1 then ((some (some (.int (1 : Int32)), σ_8)).map Sum.inr) else ((rb_gR σ_8 r0 8 3).bind fun r_9 => (rb_fc σ_8 r_9 6).bind fun _ => rb_cR (f_Words_cut (r_9) (x1) σ_8) fun r_10 σ_11 => (rb_gR σ_11 r0 8 3).bind fun r_12 => (rb_fc σ_11 r_12 6).bind fun _ => rb_cI (f_Words_isName (r_12) (x1) σ_11) fun x_13 σ_14 => if x_13 = 0 then (f_Reader_readSuffixes_j74 (r0) (x1) (r_10) σ_14) else ((rb_fc σ_14 r_10 14).bind fun _ => rb_cI (f_Str_length (r_10)  σ_14) fun x_18 σ_19 => if x_18 < (2 : Int32) then (f_Reader_readSuffixes_j74 (r0) (x1) (r_10) σ_19) else ((rb_fc σ_19 r_10 14).bind fun _ => rb_cI (f_Str_charAt (r_10) ((0 : Int32)) σ_19) fun x_20 σ_21 => if x_20 = (46 : Int32) then (f_Reader_readSuffixes_j75 (r0) (x1) (r_10) ((1 : Int32)) σ_21) else (f_Reader_readSuffixes_j74 (r0) (x1) (r_10) σ_21))))
theorem t_Reader_readSuffixes_b21 {E : rb_EV} {d : Nat} {σ0 : rb_St} {res : rb_Rs} (hdd : 6 ≤ d)  (r0 : Option Nat) (x1 : Int32) (σ : rb_St) : rb_TC (f_Reader_readSuffixes_b21 r0 x1 σ) (Sum.elim (fun z : (Int32 × rb_St) => rb_WK E k_Reader_readSuffixes d σ0 res 21 [some (va_rf r0), some (.int z.1), none, none] [] z.2) (fun r => r = res)) (rb_WK E k_Reader_readSuffixes d σ0 res 21 [some (va_rf r0), some (.int x1), none, none] [] σ) := by
  unfold f_Reader_readSuffixes_b21
  refine rb_TC.mono (rk_iload_n 1 d_Reader_readSuffixes_21 rfl rfl) ?_
  refine rb_TC.mono (rk_aload_n 0 d_Reader_readSuffixes_22 rfl rfl) ?_
  refine rt_gR r0 fw_Reader_32 d_Reader_readSuffixes_23 (fun r_6 => ?_)
  refine rt_vI (As := []) (st := [.int x1]) (r_6) vw_Reader_147 (s_Words_count (Nat.le_refl _) (r_6)  σ) (Nat.le_trans (by decide) hdd) rfl (by simp [rb_cat_r, rb_cat_i, rb_cat_l]) d_Reader_readSuffixes_26 (fun x_7 σ_8 => ?_)
  refine rt_icmp_ge 99 d_Reader_readSuffixes_29 (by decide) (fun _ => ?_) (fun _ => ?_)
  · refine rb_TC.out ?_
    refine rb_TC.mono (rk_iconst (1 : Int32) d_Reader_readSuffixes_99 (by decide)) ?_
    exact rt_iret (ty := .boolean) rfl (by decide) (fun h => h) d_Reader_readSuffixes_100
  · refine rb_TC.mono (rk_aload_n 0 d_Reader_readSuffixes_32 rfl rfl) ?_
    refine rt_gR r0 fw_Reader_32 d_Reader_readSuffixes_33 (fun r_9 => ?_)
    refine rb_TC.mono (rk_iload_n 1 d_Reader_readSuffixes_36 rfl rfl) ?_
    refine rt_vR (As := [.int x1]) (st := []) (r_9) vw_Reader_154 (s_Words_cut (Nat.le_refl _) (r_9) (x1) σ_8) (Nat.le_trans (by decide) hdd) rfl (by simp [rb_cat_r, rb_cat_i, rb_cat_l]) d_Reader_readSuffixes_37 (fun r_10 σ_11 => ?_)
    refine rb_TC.mono (rk_astore_n (lv2 := [some (va_rf r0), some (.int x1), some (va_rf r_10), none]) 2 d_Reader_readSuffixes_40 rfl (by decide) (fun _ => rb_one_i) rfl) ?_
    refine rb_TC.mono (rk_aload_n 0 d_Reader_readSuffixes_41 rfl rfl) ?_
    refine rt_gR r0 fw_Reader_32 d_Reader_readSuffixes_42 (fun r_12 => ?_)
    refine rb_TC.mono (rk_iload_n 1 d_Reader_readSuffixes_45 rfl rfl) ?_
    refine rt_vI (As := [.int x1]) (st := []) (r_12) vw_Reader_201 (s_Words_isName (Nat.le_refl _) (r_12) (x1) σ_11) (Nat.le_trans (by decide) hdd) rfl (by simp [rb_cat_r, rb_cat_i, rb_cat_l]) d_Reader_readSuffixes_46 (fun x_13 σ_14 => ?_)
    refine rt_if_eq 74 d_Reader_readSuffixes_49 (by decide) (fun _ => ?_) (fun _ => ?_)
    · exact t_Reader_readSuffixes_j74 hdd  (r0) (x1) (r_10) σ_14
    · refine rb_TC.mono (rk_aload_n 2 d_Reader_readSuffixes_52 rfl rfl) ?_
      refine rt_vI (As := []) (st := []) (r_10) vw_Reader_204 (s_Str_length (Nat.le_refl _) (r_10)  σ_14) (Nat.le_trans (by decide) hdd) rfl (by simp [rb_cat_r, rb_cat_i, rb_cat_l]) d_Reader_readSuffixes_53 (fun x_18 σ_19 => ?_)
      refine rb_TC.mono (rk_iconst (2 : Int32) d_Reader_readSuffixes_56 (by decide)) ?_
      refine rt_icmp_lt 74 d_Reader_readSuffixes_57 (by decide) (fun _ => ?_) (fun _ => ?_)
      · exact t_Reader_readSuffixes_j74 hdd  (r0) (x1) (r_10) σ_19
      · refine rb_TC.mono (rk_aload_n 2 d_Reader_readSuffixes_60 rfl rfl) ?_
        refine rb_TC.mono (rk_iconst (0 : Int32) d_Reader_readSuffixes_61 (by decide)) ?_
        refine rt_vI (As := [.int (0 : Int32)]) (st := []) (r_10) vw_Reader_205 (s_Str_charAt (Nat.le_refl _) (r_10) ((0 : Int32)) σ_19) (Nat.le_trans (by decide) hdd) rfl (by simp [rb_cat_r, rb_cat_i, rb_cat_l]) d_Reader_readSuffixes_62 (fun x_20 σ_21 => ?_)
        refine rb_TC.mono (rk_bipush (46 : Int32) d_Reader_readSuffixes_65 (by decide)) ?_
        refine rt_icmp_ne 74 d_Reader_readSuffixes_67 (by decide) (fun _ => ?_) (fun _ => ?_)
        · refine rb_TC.mono (rk_iconst (1 : Int32) d_Reader_readSuffixes_70 (by decide)) ?_
          refine rb_TC.mono (rk_goto 75 d_Reader_readSuffixes_71 (by decide)) ?_
          exact t_Reader_readSuffixes_j75 hdd  (r0) (x1) (r_10) ((1 : Int32)) σ_21
        · exact t_Reader_readSuffixes_j74 hdd  (r0) (x1) (r_10) σ_21
noncomputable def f_Reader_readSuffixes (r0 : Option Nat) (σ : rb_St) : Option rb_Rs :=
  (rb_gR σ r0 8 3).bind fun r_1 => (rb_fc σ r_1 6).bind fun _ => rb_cI (f_Words_count (r_1)  σ) fun x_2 σ_3 => if x_2 = (1 : Int32) then ((rb_gR σ_3 r0 8 1).bind fun r_4 => (rb_pI σ_3 r_4 4 1 (0 : Int32)).bind fun σ_5 => rb_it (fun z : (Int32 × rb_St) => f_Reader_readSuffixes_b21 (r0) (z.1) z.2) ((1 : Int32), σ_5)) else (rb_it (fun z : (Int32 × rb_St) => f_Reader_readSuffixes_b21 (r0) (z.1) z.2) ((1 : Int32), σ_3))
theorem s_Reader_readSuffixes {E : rb_EV} {d : Nat} (hdd : 6 ≤ d) (r0 : Option Nat) (σ : rb_St) : rb_Does E k_Reader_readSuffixes d [va_rf r0] σ (f_Reader_readSuffixes r0 σ) := by
  refine rb_start (lv := [some (va_rf r0), none, none, none]) (by decide) (by simp [lg_sl, rb_as, lv_args, rb_cat_r, rb_cat_i, rb_cat_l, rb_nL, k_Reader_readSuffixes]) (fun res => ?_)
  unfold f_Reader_readSuffixes
  refine rb_TC.mono (rk_aload_n 0 d_Reader_readSuffixes_0 rfl rfl) ?_
  refine rt_gR r0 fw_Reader_32 d_Reader_readSuffixes_1 (fun r_1 => ?_)
  refine rt_vI (As := []) (st := []) (r_1) vw_Reader_147 (s_Words_count (Nat.le_refl _) (r_1)  σ) (Nat.le_trans (by decide) hdd) rfl (by simp [rb_cat_r, rb_cat_i, rb_cat_l]) d_Reader_readSuffixes_4 (fun x_2 σ_3 => ?_)
  refine rb_TC.mono (rk_iconst (1 : Int32) d_Reader_readSuffixes_7 (by decide)) ?_
  refine rt_icmp_ne 19 d_Reader_readSuffixes_8 (by decide) (fun _ => ?_) (fun _ => ?_)
  · refine rb_TC.mono (rk_aload_n 0 d_Reader_readSuffixes_11 rfl rfl) ?_
    refine rt_gR r0 fw_Reader_24 d_Reader_readSuffixes_12 (fun r_4 => ?_)
    refine rb_TC.mono (rk_iconst (0 : Int32) d_Reader_readSuffixes_15 (by decide)) ?_
    refine rt_pI r_4 fp_Reader_readSuffixes_198 d_Reader_readSuffixes_16 (fun σ_5 => ?_)
    refine rb_TC.mono (rk_iconst (1 : Int32) d_Reader_readSuffixes_19 (by decide)) ?_
    refine rb_TC.mono (rk_istore_n (lv2 := [some (va_rf r0), some (.int (1 : Int32)), none, none]) 1 d_Reader_readSuffixes_20 rfl (by decide) (fun _ => rb_one_r) rfl) ?_
    exact rb_TC.loop2 (A := (fun z : (Int32 × rb_St) => rb_WK E k_Reader_readSuffixes d σ res 21 [some (va_rf r0), some (.int z.1), none, none] [] z.2)) ((1 : Int32), σ_5) (fun z => t_Reader_readSuffixes_b21 hdd  (r0) (z.1) z.2)
  · refine rb_TC.mono (rk_iconst (1 : Int32) d_Reader_readSuffixes_19 (by decide)) ?_
    refine rb_TC.mono (rk_istore_n (lv2 := [some (va_rf r0), some (.int (1 : Int32)), none, none]) 1 d_Reader_readSuffixes_20 rfl (by decide) (fun _ => rb_one_r) rfl) ?_
    exact rb_TC.loop2 (A := (fun z : (Int32 × rb_St) => rb_WK E k_Reader_readSuffixes d σ res 21 [some (va_rf r0), some (.int z.1), none, none] [] z.2)) ((1 : Int32), σ_3) (fun z => t_Reader_readSuffixes_b21 hdd  (r0) (z.1) z.2)
-- ===== RuleBuilder$Reader.mark(Ljava/lang/String;)Z
def k_Reader_mark : rb_MK := (⟨"RuleBuilder$Reader", "mark", "(Ljava/lang/String;)Z"⟩, prog_7_method_11_code, 7, some (.boolean))
theorem mw_Reader_mark : rb_Mw k_Reader_mark 1 := ⟨rb_inG 960 (by decide +kernel) rfl, rb_inG 92 (by decide +kernel) rfl, ⟨by decide, by decide, by decide +kernel⟩, by decide⟩
theorem fw_Reader_211 : rb_Fw "RuleBuilder$Reader" 211 4 13 := ⟨_, rfl, by decide, by decide, by decide, rfl, rb_inG 180 (by decide +kernel) rfl⟩
theorem fp_Reader_mark_211 : rb_Fp k_Reader_mark 211 4 13 .boolean := ⟨fw_Reader_211, rfl, fun q h => by cases h; exact Or.inl rfl⟩
theorem fw_Reader_215 : rb_Fw "RuleBuilder$Reader" 215 4 14 := ⟨_, rfl, by decide, by decide, by decide, rfl, rb_inG 183 (by decide +kernel) rfl⟩
theorem fp_Reader_mark_215 : rb_Fp k_Reader_mark 215 4 14 .boolean := ⟨fw_Reader_215, rfl, fun q h => by cases h; exact Or.inl rfl⟩
theorem fw_Reader_222 : rb_Fw "RuleBuilder$Reader" 222 12 6 := ⟨_, rfl, by decide, by decide, by decide, rfl, rb_inG 901 (by decide +kernel) rfl⟩
theorem fp_Reader_mark_222 : rb_Fp k_Reader_mark 222 12 6 .boolean := ⟨fw_Reader_222, rfl, fun q h => by cases h; exact Or.inl rfl⟩
theorem fw_Reader_227 : rb_Fw "RuleBuilder$Reader" 227 12 7 := ⟨_, rfl, by decide, by decide, by decide, rfl, rb_inG 904 (by decide +kernel) rfl⟩
theorem fp_Reader_mark_227 : rb_Fp k_Reader_mark 227 12 7 .boolean := ⟨fw_Reader_227, rfl, fun q h => by cases h; exact Or.inl rfl⟩
theorem fw_Reader_230 : rb_Fw "RuleBuilder$Reader" 230 12 5 := ⟨_, rfl, by decide, by decide, by decide, rfl, rb_inG 899 (by decide +kernel) rfl⟩
theorem fp_Reader_mark_230 : rb_Fp k_Reader_mark 230 12 5 .boolean := ⟨fw_Reader_230, rfl, fun q h => by cases h; exact Or.inl rfl⟩
theorem vw_Reader_218 : rb_Vw "RuleBuilder$Reader" 218 k_Words_name 6 1 := ⟨mw_Words_name, rb_inG 961 (by decide +kernel) rfl, rb_inG 962 (by decide +kernel) rfl, rb_inG 963 (by decide +kernel) rfl, by decide, by decide, _, rfl, rfl⟩
theorem d_Reader_mark_0 : decode prog_7_method_11_code 0 = .ok (.aload_n 1, 1) := by decide +kernel
theorem d_Reader_mark_1 : decode prog_7_method_11_code 1 = .ok (.ldc 189, 2) := by decide +kernel
theorem d_Reader_mark_3 : decode prog_7_method_11_code 3 = .ok (.invokevirtual 165, 3) := by decide +kernel
theorem d_Reader_mark_6 : decode prog_7_method_11_code 6 = .ok (.istore_n 2, 1) := by decide +kernel
theorem d_Reader_mark_7 : decode prog_7_method_11_code 7 = .ok (.aload_n 1, 1) := by decide +kernel
theorem d_Reader_mark_8 : decode prog_7_method_11_code 8 = .ok (.ldc 191, 2) := by decide +kernel
theorem d_Reader_mark_10 : decode prog_7_method_11_code 10 = .ok (.invokevirtual 165, 3) := by decide +kernel
theorem d_Reader_mark_13 : decode prog_7_method_11_code 13 = .ok (.istore_n 3, 1) := by decide +kernel
theorem d_Reader_mark_14 : decode prog_7_method_11_code 14 = .ok (.aload_n 1, 1) := by decide +kernel
theorem d_Reader_mark_15 : decode prog_7_method_11_code 15 = .ok (.ldc 187, 2) := by decide +kernel
theorem d_Reader_mark_17 : decode prog_7_method_11_code 17 = .ok (.invokevirtual 165, 3) := by decide +kernel
theorem d_Reader_mark_20 : decode prog_7_method_11_code 20 = .ok (.istore 4, 2) := by decide +kernel
theorem d_Reader_mark_22 : decode prog_7_method_11_code 22 = .ok (.aload_n 0, 1) := by decide +kernel
theorem d_Reader_mark_23 : decode prog_7_method_11_code 23 = .ok (.getfield 32, 3) := by decide +kernel
theorem d_Reader_mark_26 : decode prog_7_method_11_code 26 = .ok (.invokevirtual 147, 3) := by decide +kernel
theorem d_Reader_mark_29 : decode prog_7_method_11_code 29 = .ok (.iconst 1, 1) := by decide +kernel
theorem d_Reader_mark_30 : decode prog_7_method_11_code 30 = .ok (.if_icmp .ne 55, 3) := by decide +kernel
theorem d_Reader_mark_33 : decode prog_7_method_11_code 33 = .ok (.aload_n 0, 1) := by decide +kernel
theorem d_Reader_mark_34 : decode prog_7_method_11_code 34 = .ok (.getfield 24, 3) := by decide +kernel
theorem d_Reader_mark_37 : decode prog_7_method_11_code 37 = .ok (.aload_n 0, 1) := by decide +kernel
theorem d_Reader_mark_38 : decode prog_7_method_11_code 38 = .ok (.getfield 24, 3) := by decide +kernel
theorem d_Reader_mark_41 : decode prog_7_method_11_code 41 = .ok (.getfield 211, 3) := by decide +kernel
theorem d_Reader_mark_44 : decode prog_7_method_11_code 44 = .ok (.ifCond .ne 7, 3) := by decide +kernel
theorem d_Reader_mark_47 : decode prog_7_method_11_code 47 = .ok (.iload_n 2, 1) := by decide +kernel
theorem d_Reader_mark_48 : decode prog_7_method_11_code 48 = .ok (.ifCond .eq 7, 3) := by decide +kernel
theorem d_Reader_mark_51 : decode prog_7_method_11_code 51 = .ok (.iconst 1, 1) := by decide +kernel
theorem d_Reader_mark_52 : decode prog_7_method_11_code 52 = .ok (.goto 4, 3) := by decide +kernel
theorem d_Reader_mark_55 : decode prog_7_method_11_code 55 = .ok (.iconst 0, 1) := by decide +kernel
theorem d_Reader_mark_56 : decode prog_7_method_11_code 56 = .ok (.putfield 211, 3) := by decide +kernel
theorem d_Reader_mark_59 : decode prog_7_method_11_code 59 = .ok (.aload_n 0, 1) := by decide +kernel
theorem d_Reader_mark_60 : decode prog_7_method_11_code 60 = .ok (.getfield 24, 3) := by decide +kernel
theorem d_Reader_mark_63 : decode prog_7_method_11_code 63 = .ok (.aload_n 0, 1) := by decide +kernel
theorem d_Reader_mark_64 : decode prog_7_method_11_code 64 = .ok (.getfield 24, 3) := by decide +kernel
theorem d_Reader_mark_67 : decode prog_7_method_11_code 67 = .ok (.getfield 215, 3) := by decide +kernel
theorem d_Reader_mark_70 : decode prog_7_method_11_code 70 = .ok (.ifCond .ne 7, 3) := by decide +kernel
theorem d_Reader_mark_73 : decode prog_7_method_11_code 73 = .ok (.iload_n 3, 1) := by decide +kernel
theorem d_Reader_mark_74 : decode prog_7_method_11_code 74 = .ok (.ifCond .eq 7, 3) := by decide +kernel
theorem d_Reader_mark_77 : decode prog_7_method_11_code 77 = .ok (.iconst 1, 1) := by decide +kernel
theorem d_Reader_mark_78 : decode prog_7_method_11_code 78 = .ok (.goto 4, 3) := by decide +kernel
theorem d_Reader_mark_81 : decode prog_7_method_11_code 81 = .ok (.iconst 0, 1) := by decide +kernel
theorem d_Reader_mark_82 : decode prog_7_method_11_code 82 = .ok (.putfield 215, 3) := by decide +kernel
theorem d_Reader_mark_85 : decode prog_7_method_11_code 85 = .ok (.iconst 1, 1) := by decide +kernel
theorem d_Reader_mark_86 : decode prog_7_method_11_code 86 = .ok (.istore 5, 2) := by decide +kernel
theorem d_Reader_mark_88 : decode prog_7_method_11_code 88 = .ok (.iload 5, 2) := by decide +kernel
theorem d_Reader_mark_90 : decode prog_7_method_11_code 90 = .ok (.aload_n 0, 1) := by decide +kernel
theorem d_Reader_mark_91 : decode prog_7_method_11_code 91 = .ok (.getfield 32, 3) := by decide +kernel
theorem d_Reader_mark_94 : decode prog_7_method_11_code 94 = .ok (.invokevirtual 147, 3) := by decide +kernel
theorem d_Reader_mark_97 : decode prog_7_method_11_code 97 = .ok (.if_icmp .ge 92, 3) := by decide +kernel
theorem d_Reader_mark_100 : decode prog_7_method_11_code 100 = .ok (.aload_n 0, 1) := by decide +kernel
theorem d_Reader_mark_101 : decode prog_7_method_11_code 101 = .ok (.getfield 32, 3) := by decide +kernel
theorem d_Reader_mark_104 : decode prog_7_method_11_code 104 = .ok (.iload 5, 2) := by decide +kernel
theorem d_Reader_mark_106 : decode prog_7_method_11_code 106 = .ok (.invokevirtual 218, 3) := by decide +kernel
theorem d_Reader_mark_109 : decode prog_7_method_11_code 109 = .ok (.astore 6, 2) := by decide +kernel
theorem d_Reader_mark_111 : decode prog_7_method_11_code 111 = .ok (.aload 6, 2) := by decide +kernel
theorem d_Reader_mark_113 : decode prog_7_method_11_code 113 = .ok (.ifnull 70, 3) := by decide +kernel
theorem d_Reader_mark_116 : decode prog_7_method_11_code 116 = .ok (.aload 6, 2) := by decide +kernel
theorem d_Reader_mark_118 : decode prog_7_method_11_code 118 = .ok (.aload 6, 2) := by decide +kernel
theorem d_Reader_mark_120 : decode prog_7_method_11_code 120 = .ok (.getfield 222, 3) := by decide +kernel
theorem d_Reader_mark_123 : decode prog_7_method_11_code 123 = .ok (.ifCond .ne 7, 3) := by decide +kernel
theorem d_Reader_mark_126 : decode prog_7_method_11_code 126 = .ok (.iload_n 2, 1) := by decide +kernel
theorem d_Reader_mark_127 : decode prog_7_method_11_code 127 = .ok (.ifCond .eq 7, 3) := by decide +kernel
theorem d_Reader_mark_130 : decode prog_7_method_11_code 130 = .ok (.iconst 1, 1) := by decide +kernel
theorem d_Reader_mark_131 : decode prog_7_method_11_code 131 = .ok (.goto 4, 3) := by decide +kernel
theorem d_Reader_mark_134 : decode prog_7_method_11_code 134 = .ok (.iconst 0, 1) := by decide +kernel
theorem d_Reader_mark_135 : decode prog_7_method_11_code 135 = .ok (.putfield 222, 3) := by decide +kernel
theorem d_Reader_mark_138 : decode prog_7_method_11_code 138 = .ok (.aload 6, 2) := by decide +kernel
theorem d_Reader_mark_140 : decode prog_7_method_11_code 140 = .ok (.aload 6, 2) := by decide +kernel
theorem d_Reader_mark_142 : decode prog_7_method_11_code 142 = .ok (.getfield 227, 3) := by decide +kernel
theorem d_Reader_mark_145 : decode prog_7_method_11_code 145 = .ok (.ifCond .ne 7, 3) := by decide +kernel
theorem d_Reader_mark_148 : decode prog_7_method_11_code 148 = .ok (.iload_n 3, 1) := by decide +kernel
theorem d_Reader_mark_149 : decode prog_7_method_11_code 149 = .ok (.ifCond .eq 7, 3) := by decide +kernel
theorem d_Reader_mark_152 : decode prog_7_method_11_code 152 = .ok (.iconst 1, 1) := by decide +kernel
theorem d_Reader_mark_153 : decode prog_7_method_11_code 153 = .ok (.goto 4, 3) := by decide +kernel
theorem d_Reader_mark_156 : decode prog_7_method_11_code 156 = .ok (.iconst 0, 1) := by decide +kernel
theorem d_Reader_mark_157 : decode prog_7_method_11_code 157 = .ok (.putfield 227, 3) := by decide +kernel
theorem d_Reader_mark_160 : decode prog_7_method_11_code 160 = .ok (.aload 6, 2) := by decide +kernel
theorem d_Reader_mark_162 : decode prog_7_method_11_code 162 = .ok (.aload 6, 2) := by decide +kernel
theorem d_Reader_mark_164 : decode prog_7_method_11_code 164 = .ok (.getfield 230, 3) := by decide +kernel
theorem d_Reader_mark_167 : decode prog_7_method_11_code 167 = .ok (.ifCond .ne 8, 3) := by decide +kernel
theorem d_Reader_mark_170 : decode prog_7_method_11_code 170 = .ok (.iload 4, 2) := by decide +kernel
theorem d_Reader_mark_172 : decode prog_7_method_11_code 172 = .ok (.ifCond .eq 7, 3) := by decide +kernel
theorem d_Reader_mark_175 : decode prog_7_method_11_code 175 = .ok (.iconst 1, 1) := by decide +kernel
theorem d_Reader_mark_176 : decode prog_7_method_11_code 176 = .ok (.goto 4, 3) := by decide +kernel
theorem d_Reader_mark_179 : decode prog_7_method_11_code 179 = .ok (.iconst 0, 1) := by decide +kernel
theorem d_Reader_mark_180 : decode prog_7_method_11_code 180 = .ok (.putfield 230, 3) := by decide +kernel
theorem d_Reader_mark_183 : decode prog_7_method_11_code 183 = .ok (.iinc 5 1, 3) := by decide +kernel
theorem d_Reader_mark_186 : decode prog_7_method_11_code 186 = .ok (.goto (-98), 3) := by decide +kernel
theorem d_Reader_mark_189 : decode prog_7_method_11_code 189 = .ok (.iconst 1, 1) := by decide +kernel
theorem d_Reader_mark_190 : decode prog_7_method_11_code 190 = .ok (.ireturn, 1) := by decide +kernel
noncomputable def f_Reader_mark_j157 (r0 : Option Nat) (x2 : Int32) (x3 : Int32) (x4 : Int32) (x5 : Int32) (r6 : Option Nat) (sx0 : Int32) (sr1 : Option Nat) (σ : rb_St) : Option ((Int32 × rb_St) ⊕ rb_Rs) :=
  (rb_pZ σ sr1 12 7 sx0).bind fun σ_27 => (rb_gI σ_27 r6 12 5).bind fun x_28 => if x_28 = 0 then (if x4 = 0 then ((rb_pZ σ_27 r6 12 5 (0 : Int32)).bind fun σ_29 => some (.inl ((x5 + 1), σ_29))) else ((rb_pZ σ_27 r6 12 5 (1 : Int32)).bind fun σ_30 => some (.inl ((x5 + 1), σ_30)))) else ((rb_pZ σ_27 r6 12 5 (1 : Int32)).bind fun σ_31 => some (.inl ((x5 + 1), σ_31)))
theorem t_Reader_mark_j157 {E : rb_EV} {d : Nat} {σ0 : rb_St} {res : rb_Rs} (hdd : 2 ≤ d)  (r0 : Option Nat) (x2 : Int32) (x3 : Int32) (x4 : Int32) (x5 : Int32) (r6 : Option Nat) (sx0 : Int32) (sr1 : Option Nat) (σ : rb_St) : rb_TC (f_Reader_mark_j157 r0 x2 x3 x4 x5 r6 sx0 sr1 σ) (Sum.elim (fun z : (Int32 × rb_St) => rb_WK E k_Reader_mark d σ0 res 88 [some (va_rf r0), none, some (.int x2), some (.int x3), some (.int x4), some (.int z.1), none] [] z.2) (fun r => r = res)) (rb_WK E k_Reader_mark d σ0 res 157 [some (va_rf r0), none, some (.int x2), some (.int x3), some (.int x4), some (.int x5), some (va_rf r6)] [.int sx0, va_rf sr1] σ) := by
  unfold f_Reader_mark_j157
  refine rt_pZ sr1 fp_Reader_mark_227 d_Reader_mark_157 (fun σ_27 => ?_)
  refine rb_TC.mono (rk_aload d_Reader_mark_160 rfl) ?_
  refine rb_TC.mono (rk_aload d_Reader_mark_162 rfl) ?_
  refine rt_gI r6 fw_Reader_230 d_Reader_mark_164 (fun x_28 => ?_)
  refine rt_if_ne 175 d_Reader_mark_167 (by decide) (fun _ => ?_) (fun _ => ?_)
  · refine rb_TC.mono (rk_iload d_Reader_mark_170 rfl) ?_
    refine rt_if_eq 179 d_Reader_mark_172 (by decide) (fun _ => ?_) (fun _ => ?_)
    · refine rb_TC.mono (rk_iconst (0 : Int32) d_Reader_mark_179 (by decide)) ?_
      refine rt_pZ r6 fp_Reader_mark_230 d_Reader_mark_180 (fun σ_29 => ?_)
      refine rb_TC.mono (rk_iinc (lv2 := [some (va_rf r0), none, some (.int x2), some (.int x3), some (.int x4), some (.int (x5 + 1)), some (va_rf r6)]) (x5 + 1) d_Reader_mark_183 rfl rfl (by decide) (fun _ => rb_one_i) rfl) ?_
      refine rb_TC.mono (rk_goto 88 d_Reader_mark_186 (by decide)) ?_
      refine rb_TC.mono (rk_less (lv2 := [some (va_rf r0), none, some (.int x2), some (.int x3), some (.int x4), some (.int (x5 + 1)), none]) (rb_le_ok (rb_leS (rb_leN (rb_leS (rb_leS (rb_leS (rb_leS (rb_leN rb_le0))))))))) ?_
      exact rb_back
    · refine rb_TC.mono (rk_iconst (1 : Int32) d_Reader_mark_175 (by decide)) ?_
      refine rb_TC.mono (rk_goto 180 d_Reader_mark_176 (by decide)) ?_
      refine rt_pZ r6 fp_Reader_mark_230 d_Reader_mark_180 (fun σ_30 => ?_)
      refine rb_TC.mono (rk_iinc (lv2 := [some (va_rf r0), none, some (.int x2), some (.int x3), some (.int x4), some (.int (x5 + 1)), some (va_rf r6)]) (x5 + 1) d_Reader_mark_183 rfl rfl (by decide) (fun _ => rb_one_i) rfl) ?_
      refine rb_TC.mono (rk_goto 88 d_Reader_mark_186 (by decide)) ?_
      refine rb_TC.mono (rk_less (lv2 := [some (va_rf r0), none, some (.int x2), some (.int x3), some (.int x4), some (.int (x5 + 1)), none]) (rb_le_ok (rb_leS (rb_leN (rb_leS (rb_leS (rb_leS (rb_leS (rb_leN rb_le0))))))))) ?_
      exact rb_back
  · refine rb_TC.mono (rk_iconst (1 : Int32) d_Reader_mark_175 (by decide)) ?_
    refine rb_TC.mono (rk_goto 180 d_Reader_mark_176 (by decide)) ?_
    refine rt_pZ r6 fp_Reader_mark_230 d_Reader_mark_180 (fun σ_31 => ?_)
    refine rb_TC.mono (rk_iinc (lv2 := [some (va_rf r0), none, some (.int x2), some (.int x3), some (.int x4), some (.int (x5 + 1)), some (va_rf r6)]) (x5 + 1) d_Reader_mark_183 rfl rfl (by decide) (fun _ => rb_one_i) rfl) ?_
    refine rb_TC.mono (rk_goto 88 d_Reader_mark_186 (by decide)) ?_
    refine rb_TC.mono (rk_less (lv2 := [some (va_rf r0), none, some (.int x2), some (.int x3), some (.int x4), some (.int (x5 + 1)), none]) (rb_le_ok (rb_leS (rb_leN (rb_leS (rb_leS (rb_leS (rb_leS (rb_leN rb_le0))))))))) ?_
    exact rb_back
noncomputable def f_Reader_mark_j152 (r0 : Option Nat) (x2 : Int32) (x3 : Int32) (x4 : Int32) (x5 : Int32) (r6 : Option Nat) (sr0 : Option Nat) (σ : rb_St) : Option ((Int32 × rb_St) ⊕ rb_Rs) :=
  f_Reader_mark_j157 (r0) (x2) (x3) (x4) (x5) (r6) ((1 : Int32)) (sr0) σ
theorem t_Reader_mark_j152 {E : rb_EV} {d : Nat} {σ0 : rb_St} {res : rb_Rs} (hdd : 2 ≤ d)  (r0 : Option Nat) (x2 : Int32) (x3 : Int32) (x4 : Int32) (x5 : Int32) (r6 : Option Nat) (sr0 : Option Nat) (σ : rb_St) : rb_TC (f_Reader_mark_j152 r0 x2 x3 x4 x5 r6 sr0 σ) (Sum.elim (fun z : (Int32 × rb_St) => rb_WK E k_Reader_mark d σ0 res 88 [some (va_rf r0), none, some (.int x2), some (.int x3), some (.int x4), some (.int z.1), none] [] z.2) (fun r => r = res)) (rb_WK E k_Reader_mark d σ0 res 152 [some (va_rf r0), none, some (.int x2), some (.int x3), some (.int x4), some (.int x5), some (va_rf r6)] [va_rf sr0] σ) := by
  unfold f_Reader_mark_j152
  refine rb_TC.mono (rk_iconst (1 : Int32) d_Reader_mark_152 (by decide)) ?_
  refine rb_TC.mono (rk_goto 157 d_Reader_mark_153 (by decide)) ?_
  exact t_Reader_mark_j157 hdd  (r0) (x2) (x3) (x4) (x5) (r6) ((1 : Int32)) (sr0) σ
noncomputable def f_Reader_mark_j135 (r0 : Option Nat) (x2 : Int32) (x3 : Int32) (x4 : Int32) (x5 : Int32) (r6 : Option Nat) (sx0 : Int32) (sr1 : Option Nat) (σ : rb_St) : Option ((Int32 × rb_St) ⊕ rb_Rs) :=
  (rb_pZ σ sr1 12 6 sx0).bind fun σ_25 => (rb_gI σ_25 r6 12 7).bind fun x_26 => if x_26 = 0 then (if x3 = 0 then (f_Reader_mark_j157 (r0) (x2) (x3) (x4) (x5) (r6) ((0 : Int32)) (r6) σ_25) else (f_Reader_mark_j152 (r0) (x2) (x3) (x4) (x5) (r6) (r6) σ_25)) else (f_Reader_mark_j152 (r0) (x2) (x3) (x4) (x5) (r6) (r6) σ_25)
theorem t_Reader_mark_j135 {E : rb_EV} {d : Nat} {σ0 : rb_St} {res : rb_Rs} (hdd : 2 ≤ d)  (r0 : Option Nat) (x2 : Int32) (x3 : Int32) (x4 : Int32) (x5 : Int32) (r6 : Option Nat) (sx0 : Int32) (sr1 : Option Nat) (σ : rb_St) : rb_TC (f_Reader_mark_j135 r0 x2 x3 x4 x5 r6 sx0 sr1 σ) (Sum.elim (fun z : (Int32 × rb_St) => rb_WK E k_Reader_mark d σ0 res 88 [some (va_rf r0), none, some (.int x2), some (.int x3), some (.int x4), some (.int z.1), none] [] z.2) (fun r => r = res)) (rb_WK E k_Reader_mark d σ0 res 135 [some (va_rf r0), none, some (.int x2), some (.int x3), some (.int x4), some (.int x5), some (va_rf r6)] [.int sx0, va_rf sr1] σ) := by
  unfold f_Reader_mark_j135
  refine rt_pZ sr1 fp_Reader_mark_222 d_Reader_mark_135 (fun σ_25 => ?_)
  refine rb_TC.mono (rk_aload d_Reader_mark_138 rfl) ?_
  refine rb_TC.mono (rk_aload d_Reader_mark_140 rfl) ?_
  refine rt_gI r6 fw_Reader_227 d_Reader_mark_142 (fun x_26 => ?_)
  refine rt_if_ne 152 d_Reader_mark_145 (by decide) (fun _ => ?_) (fun _ => ?_)
  · refine rb_TC.mono (rk_iload_n 3 d_Reader_mark_148 rfl rfl) ?_
    refine rt_if_eq 156 d_Reader_mark_149 (by decide) (fun _ => ?_) (fun _ => ?_)
    · refine rb_TC.mono (rk_iconst (0 : Int32) d_Reader_mark_156 (by decide)) ?_
      exact t_Reader_mark_j157 hdd  (r0) (x2) (x3) (x4) (x5) (r6) ((0 : Int32)) (r6) σ_25
    · exact t_Reader_mark_j152 hdd  (r0) (x2) (x3) (x4) (x5) (r6) (r6) σ_25
  · exact t_Reader_mark_j152 hdd  (r0) (x2) (x3) (x4) (x5) (r6) (r6) σ_25
noncomputable def f_Reader_mark_j130 (r0 : Option Nat) (x2 : Int32) (x3 : Int32) (x4 : Int32) (x5 : Int32) (r6 : Option Nat) (sr0 : Option Nat) (σ : rb_St) : Option ((Int32 × rb_St) ⊕ rb_Rs) :=
  f_Reader_mark_j135 (r0) (x2) (x3) (x4) (x5) (r6) ((1 : Int32)) (sr0) σ
theorem t_Reader_mark_j130 {E : rb_EV} {d : Nat} {σ0 : rb_St} {res : rb_Rs} (hdd : 2 ≤ d)  (r0 : Option Nat) (x2 : Int32) (x3 : Int32) (x4 : Int32) (x5 : Int32) (r6 : Option Nat) (sr0 : Option Nat) (σ : rb_St) : rb_TC (f_Reader_mark_j130 r0 x2 x3 x4 x5 r6 sr0 σ) (Sum.elim (fun z : (Int32 × rb_St) => rb_WK E k_Reader_mark d σ0 res 88 [some (va_rf r0), none, some (.int x2), some (.int x3), some (.int x4), some (.int z.1), none] [] z.2) (fun r => r = res)) (rb_WK E k_Reader_mark d σ0 res 130 [some (va_rf r0), none, some (.int x2), some (.int x3), some (.int x4), some (.int x5), some (va_rf r6)] [va_rf sr0] σ) := by
  unfold f_Reader_mark_j130
  refine rb_TC.mono (rk_iconst (1 : Int32) d_Reader_mark_130 (by decide)) ?_
  refine rb_TC.mono (rk_goto 135 d_Reader_mark_131 (by decide)) ?_
  exact t_Reader_mark_j135 hdd  (r0) (x2) (x3) (x4) (x5) (r6) ((1 : Int32)) (sr0) σ
noncomputable def f_Reader_mark_b88 (r0 : Option Nat) (x2 : Int32) (x3 : Int32) (x4 : Int32) (x5 : Int32) (σ : rb_St) : Option ((Int32 × rb_St) ⊕ rb_Rs) :=
  (rb_gR σ r0 8 3).bind fun r_18 => (rb_fc σ r_18 6).bind fun _ => rb_cI (f_Words_count (r_18)  σ) fun x_19 σ_20 => if x_19 ≤ x5 then ((some (some (.int (1 : Int32)), σ_20)).map Sum.inr) else ((rb_gR σ_20 r0 8 3).bind fun r_21 => (rb_fc σ_20 r_21 6).bind fun _ => rb_cR (f_Words_name (r_21) (x5) σ_20) fun r_22 σ_23 => if r_22 = none then (some (.inl ((x5 + 1), σ_23))) else ((rb_gI σ_23 r_22 12 6).bind fun x_24 => if x_24 = 0 then (if x2 = 0 then (f_Reader_mark_j135 (r0) (x2) (x3) (x4) (x5) (r_22) ((0 : Int32)) (r_22) σ_23) else (f_Reader_mark_j130 (r0) (x2) (x3) (x4) (x5) (r_22) (r_22) σ_23)) else (f_Reader_mark_j130 (r0) (x2) (x3) (x4) (x5) (r_22) (r_22) σ_23)))
theorem t_Reader_mark_b88 {E : rb_EV} {d : Nat} {σ0 : rb_St} {res : rb_Rs} (hdd : 2 ≤ d)  (r0 : Option Nat) (x2 : Int32) (x3 : Int32) (x4 : Int32) (x5 : Int32) (σ : rb_St) : rb_TC (f_Reader_mark_b88 r0 x2 x3 x4 x5 σ) (Sum.elim (fun z : (Int32 × rb_St) => rb_WK E k_Reader_mark d σ0 res 88 [some (va_rf r0), none, some (.int x2), some (.int x3), some (.int x4), some (.int z.1), none] [] z.2) (fun r => r = res)) (rb_WK E k_Reader_mark d σ0 res 88 [some (va_rf r0), none, some (.int x2), some (.int x3), some (.int x4), some (.int x5), none] [] σ) := by
  unfold f_Reader_mark_b88
  refine rb_TC.mono (rk_iload d_Reader_mark_88 rfl) ?_
  refine rb_TC.mono (rk_aload_n 0 d_Reader_mark_90 rfl rfl) ?_
  refine rt_gR r0 fw_Reader_32 d_Reader_mark_91 (fun r_18 => ?_)
  refine rt_vI (As := []) (st := [.int x5]) (r_18) vw_Reader_147 (s_Words_count (Nat.le_refl _) (r_18)  σ) (Nat.le_trans (by decide) hdd) rfl (by simp [rb_cat_r, rb_cat_i, rb_cat_l]) d_Reader_mark_94 (fun x_19 σ_20 => ?_)
  refine rt_icmp_ge 189 d_Reader_mark_97 (by decide) (fun _ => ?_) (fun _ => ?_)
  · refine rb_TC.out ?_
    refine rb_TC.mono (rk_iconst (1 : Int32) d_Reader_mark_189 (by decide)) ?_
    exact rt_iret (ty := .boolean) rfl (by decide) (fun h => h) d_Reader_mark_190
  · refine rb_TC.mono (rk_aload_n 0 d_Reader_mark_100 rfl rfl) ?_
    refine rt_gR r0 fw_Reader_32 d_Reader_mark_101 (fun r_21 => ?_)
    refine rb_TC.mono (rk_iload d_Reader_mark_104 rfl) ?_
    refine rt_vR (As := [.int x5]) (st := []) (r_21) vw_Reader_218 (s_Words_name (Nat.le_refl _) (r_21) (x5) σ_20) (Nat.le_trans (by decide) hdd) rfl (by simp [rb_cat_r, rb_cat_i, rb_cat_l]) d_Reader_mark_106 (fun r_22 σ_23 => ?_)
    refine rb_TC.mono (rk_astore (lv2 := [some (va_rf r0), none, some (.int x2), some (.int x3), some (.int x4), some (.int x5), some (va_rf r_22)]) d_Reader_mark_109 (by decide) (fun _ => rb_one_i) rfl) ?_
    refine rb_TC.mono (rk_aload d_Reader_mark_111 rfl) ?_
    refine rt_ifnull 183 d_Reader_mark_113 (by decide) (fun _ => ?_) (fun _ => ?_)
    · refine rb_TC.mono (rk_iinc (lv2 := [some (va_rf r0), none, some (.int x2), some (.int x3), some (.int x4), some (.int (x5 + 1)), some (va_rf r_22)]) (x5 + 1) d_Reader_mark_183 rfl rfl (by decide) (fun _ => rb_one_i) rfl) ?_
      refine rb_TC.mono (rk_goto 88 d_Reader_mark_186 (by decide)) ?_
      refine rb_TC.mono (rk_less (lv2 := [some (va_rf r0), none, some (.int x2), some (.int x3), some (.int x4), some (.int (x5 + 1)), none]) (rb_le_ok (rb_leS (rb_leN (rb_leS (rb_leS (rb_leS (rb_leS (rb_leN rb_le0))))))))) ?_
      exact rb_back
    · refine rb_TC.mono (rk_aload d_Reader_mark_116 rfl) ?_
      refine rb_TC.mono (rk_aload d_Reader_mark_118 rfl) ?_
      refine rt_gI r_22 fw_Reader_222 d_Reader_mark_120 (fun x_24 => ?_)
      refine rt_if_ne 130 d_Reader_mark_123 (by decide) (fun _ => ?_) (fun _ => ?_)
      · refine rb_TC.mono (rk_iload_n 2 d_Reader_mark_126 rfl rfl) ?_
        refine rt_if_eq 134 d_Reader_mark_127 (by decide) (fun _ => ?_) (fun _ => ?_)
        · refine rb_TC.mono (rk_iconst (0 : Int32) d_Reader_mark_134 (by decide)) ?_
          exact t_Reader_mark_j135 hdd  (r0) (x2) (x3) (x4) (x5) (r_22) ((0 : Int32)) (r_22) σ_23
        · exact t_Reader_mark_j130 hdd  (r0) (x2) (x3) (x4) (x5) (r_22) (r_22) σ_23
      · exact t_Reader_mark_j130 hdd  (r0) (x2) (x3) (x4) (x5) (r_22) (r_22) σ_23
noncomputable def f_Reader_mark_j56 (r0 : Option Nat) (x2 : Int32) (x3 : Int32) (x4 : Int32) (sx0 : Int32) (sr1 : Option Nat) (σ : rb_St) : Option rb_Rs :=
  (rb_pZ σ sr1 4 13 sx0).bind fun σ_13 => (rb_gR σ_13 r0 8 1).bind fun r_14 => (rb_gR σ_13 r0 8 1).bind fun r_15 => (rb_gI σ_13 r_15 4 14).bind fun x_16 => if x_16 = 0 then (if x3 = 0 then ((rb_pZ σ_13 r_14 4 14 (0 : Int32)).bind fun σ_17 => rb_it (fun z : (Int32 × rb_St) => f_Reader_mark_b88 (r0) (x2) (x3) (x4) (z.1) z.2) ((1 : Int32), σ_17)) else ((rb_pZ σ_13 r_14 4 14 (1 : Int32)).bind fun σ_32 => rb_it (fun z : (Int32 × rb_St) => f_Reader_mark_b88 (r0) (x2) (x3) (x4) (z.1) z.2) ((1 : Int32), σ_32))) else ((rb_pZ σ_13 r_14 4 14 (1 : Int32)).bind fun σ_33 => rb_it (fun z : (Int32 × rb_St) => f_Reader_mark_b88 (r0) (x2) (x3) (x4) (z.1) z.2) ((1 : Int32), σ_33))
theorem t_Reader_mark_j56 {E : rb_EV} {d : Nat} {σ0 : rb_St} {res : rb_Rs} (hdd : 2 ≤ d)  (r0 : Option Nat) (x2 : Int32) (x3 : Int32) (x4 : Int32) (sx0 : Int32) (sr1 : Option Nat) (σ : rb_St) : rb_TC (f_Reader_mark_j56 r0 x2 x3 x4 sx0 sr1 σ) (fun r => r = res) (rb_WK E k_Reader_mark d σ0 res 56 [some (va_rf r0), none, some (.int x2), some (.int x3), some (.int x4), none, none] [.int sx0, va_rf sr1] σ) := by
  unfold f_Reader_mark_j56
  refine rt_pZ sr1 fp_Reader_mark_211 d_Reader_mark_56 (fun σ_13 => ?_)
  refine rb_TC.mono (rk_aload_n 0 d_Reader_mark_59 rfl rfl) ?_
  refine rt_gR r0 fw_Reader_24 d_Reader_mark_60 (fun r_14 => ?_)
  refine rb_TC.mono (rk_aload_n 0 d_Reader_mark_63 rfl rfl) ?_
  refine rt_gR r0 fw_Reader_24 d_Reader_mark_64 (fun r_15 => ?_)
  refine rt_gI r_15 fw_Reader_215 d_Reader_mark_67 (fun x_16 => ?_)
  refine rt_if_ne 77 d_Reader_mark_70 (by decide) (fun _ => ?_) (fun _ => ?_)
  · refine rb_TC.mono (rk_iload_n 3 d_Reader_mark_73 rfl rfl) ?_
    refine rt_if_eq 81 d_Reader_mark_74 (by decide) (fun _ => ?_) (fun _ => ?_)
    · refine rb_TC.mono (rk_iconst (0 : Int32) d_Reader_mark_81 (by decide)) ?_
      refine rt_pZ r_14 fp_Reader_mark_215 d_Reader_mark_82 (fun σ_17 => ?_)
      refine rb_TC.mono (rk_iconst (1 : Int32) d_Reader_mark_85 (by decide)) ?_
      refine rb_TC.mono (rk_istore (lv2 := [some (va_rf r0), none, some (.int x2), some (.int x3), some (.int x4), some (.int (1 : Int32)), none]) d_Reader_mark_86 (by decide) (fun _ => rb_one_i) rfl) ?_
      exact rb_TC.loop2 (A := (fun z : (Int32 × rb_St) => rb_WK E k_Reader_mark d σ0 res 88 [some (va_rf r0), none, some (.int x2), some (.int x3), some (.int x4), some (.int z.1), none] [] z.2)) ((1 : Int32), σ_17) (fun z => t_Reader_mark_b88 hdd  (r0) (x2) (x3) (x4) (z.1) z.2)
    · refine rb_TC.mono (rk_iconst (1 : Int32) d_Reader_mark_77 (by decide)) ?_
      refine rb_TC.mono (rk_goto 82 d_Reader_mark_78 (by decide)) ?_
      refine rt_pZ r_14 fp_Reader_mark_215 d_Reader_mark_82 (fun σ_32 => ?_)
      refine rb_TC.mono (rk_iconst (1 : Int32) d_Reader_mark_85 (by decide)) ?_
      refine rb_TC.mono (rk_istore (lv2 := [some (va_rf r0), none, some (.int x2), some (.int x3), some (.int x4), some (.int (1 : Int32)), none]) d_Reader_mark_86 (by decide) (fun _ => rb_one_i) rfl) ?_
      exact rb_TC.loop2 (A := (fun z : (Int32 × rb_St) => rb_WK E k_Reader_mark d σ0 res 88 [some (va_rf r0), none, some (.int x2), some (.int x3), some (.int x4), some (.int z.1), none] [] z.2)) ((1 : Int32), σ_32) (fun z => t_Reader_mark_b88 hdd  (r0) (x2) (x3) (x4) (z.1) z.2)
  · refine rb_TC.mono (rk_iconst (1 : Int32) d_Reader_mark_77 (by decide)) ?_
    refine rb_TC.mono (rk_goto 82 d_Reader_mark_78 (by decide)) ?_
    refine rt_pZ r_14 fp_Reader_mark_215 d_Reader_mark_82 (fun σ_33 => ?_)
    refine rb_TC.mono (rk_iconst (1 : Int32) d_Reader_mark_85 (by decide)) ?_
    refine rb_TC.mono (rk_istore (lv2 := [some (va_rf r0), none, some (.int x2), some (.int x3), some (.int x4), some (.int (1 : Int32)), none]) d_Reader_mark_86 (by decide) (fun _ => rb_one_i) rfl) ?_
    exact rb_TC.loop2 (A := (fun z : (Int32 × rb_St) => rb_WK E k_Reader_mark d σ0 res 88 [some (va_rf r0), none, some (.int x2), some (.int x3), some (.int x4), some (.int z.1), none] [] z.2)) ((1 : Int32), σ_33) (fun z => t_Reader_mark_b88 hdd  (r0) (x2) (x3) (x4) (z.1) z.2)
noncomputable def f_Reader_mark_j51 (r0 : Option Nat) (x2 : Int32) (x3 : Int32) (x4 : Int32) (sr0 : Option Nat) (σ : rb_St) : Option rb_Rs :=
  f_Reader_mark_j56 (r0) (x2) (x3) (x4) ((1 : Int32)) (sr0) σ
theorem t_Reader_mark_j51 {E : rb_EV} {d : Nat} {σ0 : rb_St} {res : rb_Rs} (hdd : 2 ≤ d)  (r0 : Option Nat) (x2 : Int32) (x3 : Int32) (x4 : Int32) (sr0 : Option Nat) (σ : rb_St) : rb_TC (f_Reader_mark_j51 r0 x2 x3 x4 sr0 σ) (fun r => r = res) (rb_WK E k_Reader_mark d σ0 res 51 [some (va_rf r0), none, some (.int x2), some (.int x3), some (.int x4), none, none] [va_rf sr0] σ) := by
  unfold f_Reader_mark_j51
  refine rb_TC.mono (rk_iconst (1 : Int32) d_Reader_mark_51 (by decide)) ?_
  refine rb_TC.mono (rk_goto 56 d_Reader_mark_52 (by decide)) ?_
  exact t_Reader_mark_j56 hdd  (r0) (x2) (x3) (x4) ((1 : Int32)) (sr0) σ
noncomputable def f_Reader_mark (r0 : Option Nat) (r1 : Option Nat) (σ : rb_St) : Option rb_Rs :=
  (rb_fc σ r1 14).bind fun _ => rb_cI (f_Str_equals (r1) ((some (rb_k σ 3))) σ) fun x_1 σ_2 => (rb_fc σ_2 r1 14).bind fun _ => rb_cI (f_Str_equals (r1) ((some (rb_k σ_2 4))) σ_2) fun x_3 σ_4 => (rb_fc σ_4 r1 14).bind fun _ => rb_cI (f_Str_equals (r1) ((some (rb_k σ_4 2))) σ_4) fun x_5 σ_6 => (rb_gR σ_6 r0 8 3).bind fun r_7 => (rb_fc σ_6 r_7 6).bind fun _ => rb_cI (f_Words_count (r_7)  σ_6) fun x_8 σ_9 => if x_8 = (1 : Int32) then ((rb_gR σ_9 r0 8 1).bind fun r_10 => (rb_gR σ_9 r0 8 1).bind fun r_11 => (rb_gI σ_9 r_11 4 13).bind fun x_12 => if x_12 = 0 then (if x_1 = 0 then (f_Reader_mark_j56 (r0) (x_1) (x_3) (x_5) ((0 : Int32)) (r_10) σ_9) else (f_Reader_mark_j51 (r0) (x_1) (x_3) (x_5) (r_10) σ_9)) else (f_Reader_mark_j51 (r0) (x_1) (x_3) (x_5) (r_10) σ_9)) else (rb_it (fun z : (Int32 × rb_St) => f_Reader_mark_b88 (r0) (x_1) (x_3) (x_5) (z.1) z.2) ((1 : Int32), σ_9))
theorem s_Reader_mark {E : rb_EV} {d : Nat} (hdd : 2 ≤ d) (r0 : Option Nat) (r1 : Option Nat) (σ : rb_St) : rb_Does E k_Reader_mark d [va_rf r0, va_rf r1] σ (f_Reader_mark r0 r1 σ) := by
  refine rb_start (lv := [some (va_rf r0), some (va_rf r1), none, none, none, none, none]) (by decide) (by simp [lg_sl, rb_as, lv_args, rb_cat_r, rb_cat_i, rb_cat_l, rb_nL, k_Reader_mark]) (fun res => ?_)
  unfold f_Reader_mark
  refine rb_TC.mono (rk_aload_n 1 d_Reader_mark_0 rfl rfl) ?_
  refine rb_TC.mono (rk_ldcs (no := 3) (by decide) d_Reader_mark_1) ?_
  refine rt_vI (As := [va_rf (some (rb_k σ 3))]) (st := []) (r1) vw_Reader_165 (s_Str_equals (Nat.le_refl _) (r1) ((some (rb_k σ 3))) σ) (Nat.le_trans (by decide) hdd) rfl (by simp [rb_cat_r, rb_cat_i, rb_cat_l]) d_Reader_mark_3 (fun x_1 σ_2 => ?_)
  refine rb_TC.mono (rk_istore_n (lv2 := [some (va_rf r0), some (va_rf r1), some (.int x_1), none, none, none, none]) 2 d_Reader_mark_6 rfl (by decide) (fun _ => rb_one_r) rfl) ?_
  refine rb_TC.mono (rk_aload_n 1 d_Reader_mark_7 rfl rfl) ?_
  refine rb_TC.mono (rk_ldcs (no := 4) (by decide) d_Reader_mark_8) ?_
  refine rt_vI (As := [va_rf (some (rb_k σ_2 4))]) (st := []) (r1) vw_Reader_165 (s_Str_equals (Nat.le_refl _) (r1) ((some (rb_k σ_2 4))) σ_2) (Nat.le_trans (by decide) hdd) rfl (by simp [rb_cat_r, rb_cat_i, rb_cat_l]) d_Reader_mark_10 (fun x_3 σ_4 => ?_)
  refine rb_TC.mono (rk_istore_n (lv2 := [some (va_rf r0), some (va_rf r1), some (.int x_1), some (.int x_3), none, none, none]) 3 d_Reader_mark_13 rfl (by decide) (fun _ => rb_one_i) rfl) ?_
  refine rb_TC.mono (rk_aload_n 1 d_Reader_mark_14 rfl rfl) ?_
  refine rb_TC.mono (rk_ldcs (no := 2) (by decide) d_Reader_mark_15) ?_
  refine rt_vI (As := [va_rf (some (rb_k σ_4 2))]) (st := []) (r1) vw_Reader_165 (s_Str_equals (Nat.le_refl _) (r1) ((some (rb_k σ_4 2))) σ_4) (Nat.le_trans (by decide) hdd) rfl (by simp [rb_cat_r, rb_cat_i, rb_cat_l]) d_Reader_mark_17 (fun x_5 σ_6 => ?_)
  refine rb_TC.mono (rk_istore (lv2 := [some (va_rf r0), some (va_rf r1), some (.int x_1), some (.int x_3), some (.int x_5), none, none]) d_Reader_mark_20 (by decide) (fun _ => rb_one_i) rfl) ?_
  refine rb_TC.mono (rk_aload_n 0 d_Reader_mark_22 rfl rfl) ?_
  refine rt_gR r0 fw_Reader_32 d_Reader_mark_23 (fun r_7 => ?_)
  refine rt_vI (As := []) (st := []) (r_7) vw_Reader_147 (s_Words_count (Nat.le_refl _) (r_7)  σ_6) (Nat.le_trans (by decide) hdd) rfl (by simp [rb_cat_r, rb_cat_i, rb_cat_l]) d_Reader_mark_26 (fun x_8 σ_9 => ?_)
  refine rb_TC.mono (rk_iconst (1 : Int32) d_Reader_mark_29 (by decide)) ?_
  refine rt_icmp_ne 85 d_Reader_mark_30 (by decide) (fun _ => ?_) (fun _ => ?_)
  · refine rb_TC.mono (rk_aload_n 0 d_Reader_mark_33 rfl rfl) ?_
    refine rt_gR r0 fw_Reader_24 d_Reader_mark_34 (fun r_10 => ?_)
    refine rb_TC.mono (rk_aload_n 0 d_Reader_mark_37 rfl rfl) ?_
    refine rt_gR r0 fw_Reader_24 d_Reader_mark_38 (fun r_11 => ?_)
    refine rt_gI r_11 fw_Reader_211 d_Reader_mark_41 (fun x_12 => ?_)
    refine rt_if_ne 51 d_Reader_mark_44 (by decide) (fun _ => ?_) (fun _ => ?_)
    · refine rb_TC.mono (rk_iload_n 2 d_Reader_mark_47 rfl rfl) ?_
      refine rt_if_eq 55 d_Reader_mark_48 (by decide) (fun _ => ?_) (fun _ => ?_)
      · refine rb_TC.mono (rk_iconst (0 : Int32) d_Reader_mark_55 (by decide)) ?_
        refine rb_TC.mono (rk_less (lv2 := [some (va_rf r0), none, some (.int x_1), some (.int x_3), some (.int x_5), none, none]) (rb_le_ok (rb_leS (rb_leN (rb_leS (rb_leS (rb_leS (rb_leN (rb_leN rb_le0))))))))) ?_
        exact t_Reader_mark_j56 hdd  (r0) (x_1) (x_3) (x_5) ((0 : Int32)) (r_10) σ_9
      · refine rb_TC.mono (rk_less (lv2 := [some (va_rf r0), none, some (.int x_1), some (.int x_3), some (.int x_5), none, none]) (rb_le_ok (rb_leS (rb_leN (rb_leS (rb_leS (rb_leS (rb_leN (rb_leN rb_le0))))))))) ?_
        exact t_Reader_mark_j51 hdd  (r0) (x_1) (x_3) (x_5) (r_10) σ_9
    · refine rb_TC.mono (rk_less (lv2 := [some (va_rf r0), none, some (.int x_1), some (.int x_3), some (.int x_5), none, none]) (rb_le_ok (rb_leS (rb_leN (rb_leS (rb_leS (rb_leS (rb_leN (rb_leN rb_le0))))))))) ?_
      exact t_Reader_mark_j51 hdd  (r0) (x_1) (x_3) (x_5) (r_10) σ_9
  · refine rb_TC.mono (rk_iconst (1 : Int32) d_Reader_mark_85 (by decide)) ?_
    refine rb_TC.mono (rk_istore (lv2 := [some (va_rf r0), some (va_rf r1), some (.int x_1), some (.int x_3), some (.int x_5), some (.int (1 : Int32)), none]) d_Reader_mark_86 (by decide) (fun _ => rb_one_i) rfl) ?_
    refine rb_TC.mono (rk_less (lv2 := [some (va_rf r0), none, some (.int x_1), some (.int x_3), some (.int x_5), some (.int (1 : Int32)), none]) (rb_le_ok (rb_leS (rb_leN (rb_leS (rb_leS (rb_leS (rb_leS (rb_leN rb_le0))))))))) ?_
    exact rb_TC.loop2 (A := (fun z : (Int32 × rb_St) => rb_WK E k_Reader_mark d σ res 88 [some (va_rf r0), none, some (.int x_1), some (.int x_3), some (.int x_5), some (.int z.1), none] [] z.2)) ((1 : Int32), σ_9) (fun z => t_Reader_mark_b88 hdd  (r0) (x_1) (x_3) (x_5) (z.1) z.2)
-- ===== RuleBuilder$Reader.readEnding(Ljava/lang/String;)Z
def k_Reader_readEnding : rb_MK := (⟨"RuleBuilder$Reader", "readEnding", "(Ljava/lang/String;)Z"⟩, prog_7_method_12_code, 3, some (.boolean))
theorem mw_Reader_readEnding : rb_Mw k_Reader_readEnding 1 := ⟨rb_inG 968 (by decide +kernel) rfl, rb_inG 92 (by decide +kernel) rfl, ⟨by decide, by decide, by decide +kernel⟩, by decide⟩
theorem fp_Reader_readEnding_123 : rb_Fp k_Reader_readEnding 123 8 6 .int := ⟨fw_Reader_123, rfl, fun q h => by cases h; exact Or.inl rfl⟩
theorem vw_Reader_233 : rb_Vw "RuleBuilder$Reader" 233 k_Str_substring2 14 2 := ⟨mw_Str_substring2, rb_inG 969 (by decide +kernel) rfl, rb_inG 630 (by decide +kernel) rfl, rb_inG 631 (by decide +kernel) rfl, by decide, by decide, _, rfl, rfl⟩
theorem vw_Reader_236 : rb_Vw "RuleBuilder$Reader" 236 k_Str_substring 14 1 := ⟨mw_Str_substring, rb_inG 970 (by decide +kernel) rfl, rb_inG 625 (by decide +kernel) rfl, rb_inG 626 (by decide +kernel) rfl, by decide, by decide, _, rfl, rfl⟩
theorem vw_Reader_238 : rb_Vw "RuleBuilder$Reader" 238 k_Rules_renewEnding 4 2 := ⟨mw_Rules_renewEnding, rb_inG 971 (by decide +kernel) rfl, rb_inG 972 (by decide +kernel) rfl, rb_inG 973 (by decide +kernel) rfl, by decide, by decide, _, rfl, rfl⟩
theorem d_Reader_readEnding_0 : decode prog_7_method_12_code 0 = .ok (.aload_n 0, 1) := by decide +kernel
theorem d_Reader_readEnding_1 : decode prog_7_method_12_code 1 = .ok (.getfield 24, 3) := by decide +kernel
theorem d_Reader_readEnding_4 : decode prog_7_method_12_code 4 = .ok (.aload_n 1, 1) := by decide +kernel
theorem d_Reader_readEnding_5 : decode prog_7_method_12_code 5 = .ok (.invokevirtual 195, 3) := by decide +kernel
theorem d_Reader_readEnding_8 : decode prog_7_method_12_code 8 = .ok (.istore_n 2, 1) := by decide +kernel
theorem d_Reader_readEnding_9 : decode prog_7_method_12_code 9 = .ok (.aload_n 0, 1) := by decide +kernel
theorem d_Reader_readEnding_10 : decode prog_7_method_12_code 10 = .ok (.aload_n 0, 1) := by decide +kernel
theorem d_Reader_readEnding_11 : decode prog_7_method_12_code 11 = .ok (.getfield 24, 3) := by decide +kernel
theorem d_Reader_readEnding_14 : decode prog_7_method_12_code 14 = .ok (.aload_n 1, 1) := by decide +kernel
theorem d_Reader_readEnding_15 : decode prog_7_method_12_code 15 = .ok (.iconst 0, 1) := by decide +kernel
theorem d_Reader_readEnding_16 : decode prog_7_method_12_code 16 = .ok (.iload_n 2, 1) := by decide +kernel
theorem d_Reader_readEnding_17 : decode prog_7_method_12_code 17 = .ok (.invokevirtual 233, 3) := by decide +kernel
theorem d_Reader_readEnding_20 : decode prog_7_method_12_code 20 = .ok (.aload_n 1, 1) := by decide +kernel
theorem d_Reader_readEnding_21 : decode prog_7_method_12_code 21 = .ok (.iload_n 2, 1) := by decide +kernel
theorem d_Reader_readEnding_22 : decode prog_7_method_12_code 22 = .ok (.invokevirtual 236, 3) := by decide +kernel
theorem d_Reader_readEnding_25 : decode prog_7_method_12_code 25 = .ok (.invokevirtual 238, 3) := by decide +kernel
theorem d_Reader_readEnding_28 : decode prog_7_method_12_code 28 = .ok (.putfield 123, 3) := by decide +kernel
theorem d_Reader_readEnding_31 : decode prog_7_method_12_code 31 = .ok (.aload_n 0, 1) := by decide +kernel
theorem d_Reader_readEnding_32 : decode prog_7_method_12_code 32 = .ok (.getfield 123, 3) := by decide +kernel
theorem d_Reader_readEnding_35 : decode prog_7_method_12_code 35 = .ok (.iconst (-1), 1) := by decide +kernel
theorem d_Reader_readEnding_36 : decode prog_7_method_12_code 36 = .ok (.if_icmp .eq 7, 3) := by decide +kernel
theorem d_Reader_readEnding_39 : decode prog_7_method_12_code 39 = .ok (.iconst 1, 1) := by decide +kernel
theorem d_Reader_readEnding_40 : decode prog_7_method_12_code 40 = .ok (.goto 4, 3) := by decide +kernel
theorem d_Reader_readEnding_43 : decode prog_7_method_12_code 43 = .ok (.iconst 0, 1) := by decide +kernel
theorem d_Reader_readEnding_44 : decode prog_7_method_12_code 44 = .ok (.ireturn, 1) := by decide +kernel
noncomputable def f_Reader_readEnding (r0 : Option Nat) (r1 : Option Nat) (σ : rb_St) : Option rb_Rs :=
  (rb_gR σ r0 8 1).bind fun r_1 => (rb_fc σ r_1 4).bind fun _ => rb_cI (f_Rules_fromLength (r_1) (r1) σ) fun x_2 σ_3 => (rb_gR σ_3 r0 8 1).bind fun r_4 => (rb_fc σ_3 r1 14).bind fun _ => rb_cR (f_Str_substring2 (r1) ((0 : Int32)) (x_2) σ_3) fun r_5 σ_6 => (rb_fc σ_6 r1 14).bind fun _ => rb_cR (f_Str_substring (r1) (x_2) σ_6) fun r_7 σ_8 => (rb_fc σ_8 r_4 4).bind fun _ => rb_cI (f_Rules_renewEnding (r_4) (r_5) (r_7) σ_8) fun x_9 σ_10 => (rb_pI σ_10 r0 8 6 x_9).bind fun σ_11 => (rb_gI σ_11 r0 8 6).bind fun x_12 => if x_12 = (-1 : Int32) then (some (some (.int (0 : Int32)), σ_11)) else (some (some (.int (1 : Int32)), σ_11))
theorem s_Reader_readEnding {E : rb_EV} {d : Nat} (hdd : 7 ≤ d) (r0 : Option Nat) (r1 : Option Nat) (σ : rb_St) : rb_Does E k_Reader_readEnding d [va_rf r0, va_rf r1] σ (f_Reader_readEnding r0 r1 σ) := by
  refine rb_start (lv := [some (va_rf r0), some (va_rf r1), none]) (by decide) (by simp [lg_sl, rb_as, lv_args, rb_cat_r, rb_cat_i, rb_cat_l, rb_nL, k_Reader_readEnding]) (fun res => ?_)
  unfold f_Reader_readEnding
  refine rb_TC.mono (rk_aload_n 0 d_Reader_readEnding_0 rfl rfl) ?_
  refine rt_gR r0 fw_Reader_24 d_Reader_readEnding_1 (fun r_1 => ?_)
  refine rb_TC.mono (rk_aload_n 1 d_Reader_readEnding_4 rfl rfl) ?_
  refine rt_vI (As := [va_rf r1]) (st := []) (r_1) vw_Reader_195 (s_Rules_fromLength (Nat.le_refl _) (r_1) (r1) σ) (Nat.le_trans (by decide) hdd) rfl (by simp [rb_cat_r, rb_cat_i, rb_cat_l]) d_Reader_readEnding_5 (fun x_2 σ_3 => ?_)
  refine rb_TC.mono (rk_istore_n (lv2 := [some (va_rf r0), some (va_rf r1), some (.int x_2)]) 2 d_Reader_readEnding_8 rfl (by decide) (fun _ => rb_one_r) rfl) ?_
  refine rb_TC.mono (rk_aload_n 0 d_Reader_readEnding_9 rfl rfl) ?_
  refine rb_TC.mono (rk_aload_n 0 d_Reader_readEnding_10 rfl rfl) ?_
  refine rt_gR r0 fw_Reader_24 d_Reader_readEnding_11 (fun r_4 => ?_)
  refine rb_TC.mono (rk_aload_n 1 d_Reader_readEnding_14 rfl rfl) ?_
  refine rb_TC.mono (rk_iconst (0 : Int32) d_Reader_readEnding_15 (by decide)) ?_
  refine rb_TC.mono (rk_iload_n 2 d_Reader_readEnding_16 rfl rfl) ?_
  refine rt_vR (As := [.int (0 : Int32), .int x_2]) (st := [va_rf r_4, va_rf r0]) (r1) vw_Reader_233 (s_Str_substring2 (Nat.le_refl _) (r1) ((0 : Int32)) (x_2) σ_3) (Nat.le_trans (by decide) hdd) rfl (by simp [rb_cat_r, rb_cat_i, rb_cat_l]) d_Reader_readEnding_17 (fun r_5 σ_6 => ?_)
  refine rb_TC.mono (rk_aload_n 1 d_Reader_readEnding_20 rfl rfl) ?_
  refine rb_TC.mono (rk_iload_n 2 d_Reader_readEnding_21 rfl rfl) ?_
  refine rt_vR (As := [.int x_2]) (st := [va_rf r_5, va_rf r_4, va_rf r0]) (r1) vw_Reader_236 (s_Str_substring (Nat.le_refl _) (r1) (x_2) σ_6) (Nat.le_trans (by decide) hdd) rfl (by simp [rb_cat_r, rb_cat_i, rb_cat_l]) d_Reader_readEnding_22 (fun r_7 σ_8 => ?_)
  refine rt_vI (As := [va_rf r_5, va_rf r_7]) (st := [va_rf r0]) (r_4) vw_Reader_238 (s_Rules_renewEnding (Nat.le_refl _) (r_4) (r_5) (r_7) σ_8) (Nat.le_trans (by decide) hdd) rfl (by simp [rb_cat_r, rb_cat_i, rb_cat_l]) d_Reader_readEnding_25 (fun x_9 σ_10 => ?_)
  refine rt_pI r0 fp_Reader_readEnding_123 d_Reader_readEnding_28 (fun σ_11 => ?_)
  refine rb_TC.mono (rk_aload_n 0 d_Reader_readEnding_31 rfl rfl) ?_
  refine rt_gI r0 fw_Reader_123 d_Reader_readEnding_32 (fun x_12 => ?_)
  refine rb_TC.mono (rk_iconst (-1 : Int32) d_Reader_readEnding_35 (by decide)) ?_
  refine rt_icmp_eq 43 d_Reader_readEnding_36 (by decide) (fun _ => ?_) (fun _ => ?_)
  · refine rb_TC.mono (rk_iconst (0 : Int32) d_Reader_readEnding_43 (by decide)) ?_
    exact rt_iret (ty := .boolean) rfl (by decide) (fun h => h) d_Reader_readEnding_44
  · refine rb_TC.mono (rk_iconst (1 : Int32) d_Reader_readEnding_39 (by decide)) ?_
    refine rb_TC.mono (rk_goto 44 d_Reader_readEnding_40 (by decide)) ?_
    exact rt_iret (ty := .boolean) rfl (by decide) (fun h => h) d_Reader_readEnding_44
-- ===== RuleBuilder$Reader.addRules(I)Z
def k_Reader_addRules : rb_MK := (⟨"RuleBuilder$Reader", "addRules", "(I)Z"⟩, prog_7_method_13_code, 5, some (.boolean))
theorem mw_Reader_addRules : rb_Mw k_Reader_addRules 1 := ⟨rb_inG 983 (by decide +kernel) rfl, rb_inG 92 (by decide +kernel) rfl, ⟨by decide, by decide, by decide +kernel⟩, by decide⟩
theorem fw_Reader_245 : rb_Fw "RuleBuilder$Reader" 245 4 12 := ⟨_, rfl, by decide, by decide, by decide, rfl, rb_inG 178 (by decide +kernel) rfl⟩
theorem fp_Reader_addRules_245 : rb_Fp k_Reader_addRules 245 4 12 (.object "RuleBuilder$Name") ∧ ((∃ n, (.object "RuleBuilder$Name" : FieldType) = .object n) ∨ ∃ t, (.object "RuleBuilder$Name" : FieldType) = .array t) := ⟨⟨fw_Reader_245, rfl, fun q h => by cases h; exact Or.inl rfl⟩, Or.inl ⟨_, rfl⟩⟩
theorem fw_Reader_249 : rb_Fw "RuleBuilder$Reader" 249 12 4 := ⟨_, rfl, by decide, by decide, by decide, rfl, rb_inG 896 (by decide +kernel) rfl⟩
theorem fp_Reader_addRules_249 : rb_Fp k_Reader_addRules 249 12 4 .boolean := ⟨fw_Reader_249, rfl, fun q h => by cases h; exact Or.inl rfl⟩
theorem fw_Reader_252 : rb_Fw "RuleBuilder$Reader" 252 12 8 := ⟨_, rfl, by decide, by decide, by decide, rfl, rb_inG 907 (by decide +kernel) rfl⟩
theorem fp_Reader_addRules_252 : rb_Fp k_Reader_addRules 252 12 8 .boolean := ⟨fw_Reader_252, rfl, fun q h => by cases h; exact Or.inl rfl⟩
theorem vw_Reader_242 : rb_Vw "RuleBuilder$Reader" 242 k_Store_forgetLatestTargets 3 0 := ⟨mw_Store_forgetLatestTargets, rb_inG 984 (by decide +kernel) rfl, rb_inG 985 (by decide +kernel) rfl, rb_inG 986 (by decide +kernel) rfl, by decide, by decide, _, rfl, rfl⟩
theorem vw_Reader_255 : rb_Vw "RuleBuilder$Reader" 255 k_Rules_addPrerequisite 4 2 := ⟨mw_Rules_addPrerequisite, rb_inG 988 (by decide +kernel) rfl, rb_inG 989 (by decide +kernel) rfl, rb_inG 990 (by decide +kernel) rfl, by decide, by decide, _, rfl, rfl⟩
theorem d_Reader_addRules_0 : decode prog_7_method_13_code 0 = .ok (.aload_n 0, 1) := by decide +kernel
theorem d_Reader_addRules_1 : decode prog_7_method_13_code 1 = .ok (.getfield 20, 3) := by decide +kernel
theorem d_Reader_addRules_4 : decode prog_7_method_13_code 4 = .ok (.invokevirtual 242, 3) := by decide +kernel
theorem d_Reader_addRules_7 : decode prog_7_method_13_code 7 = .ok (.aload_n 0, 1) := by decide +kernel
theorem d_Reader_addRules_8 : decode prog_7_method_13_code 8 = .ok (.getfield 24, 3) := by decide +kernel
theorem d_Reader_addRules_11 : decode prog_7_method_13_code 11 = .ok (.getfield 245, 3) := by decide +kernel
theorem d_Reader_addRules_14 : decode prog_7_method_13_code 14 = .ok (.ifnonnull 18, 3) := by decide +kernel
theorem d_Reader_addRules_17 : decode prog_7_method_13_code 17 = .ok (.aload_n 0, 1) := by decide +kernel
theorem d_Reader_addRules_18 : decode prog_7_method_13_code 18 = .ok (.getfield 24, 3) := by decide +kernel
theorem d_Reader_addRules_21 : decode prog_7_method_13_code 21 = .ok (.aload_n 0, 1) := by decide +kernel
theorem d_Reader_addRules_22 : decode prog_7_method_13_code 22 = .ok (.getfield 32, 3) := by decide +kernel
theorem d_Reader_addRules_25 : decode prog_7_method_13_code 25 = .ok (.iconst 0, 1) := by decide +kernel
theorem d_Reader_addRules_26 : decode prog_7_method_13_code 26 = .ok (.invokevirtual 218, 3) := by decide +kernel
theorem d_Reader_addRules_29 : decode prog_7_method_13_code 29 = .ok (.putfield 245, 3) := by decide +kernel
theorem d_Reader_addRules_32 : decode prog_7_method_13_code 32 = .ok (.iconst 0, 1) := by decide +kernel
theorem d_Reader_addRules_33 : decode prog_7_method_13_code 33 = .ok (.istore_n 2, 1) := by decide +kernel
theorem d_Reader_addRules_34 : decode prog_7_method_13_code 34 = .ok (.iload_n 2, 1) := by decide +kernel
theorem d_Reader_addRules_35 : decode prog_7_method_13_code 35 = .ok (.iload_n 1, 1) := by decide +kernel
theorem d_Reader_addRules_36 : decode prog_7_method_13_code 36 = .ok (.if_icmp .ge 77, 3) := by decide +kernel
theorem d_Reader_addRules_39 : decode prog_7_method_13_code 39 = .ok (.aload_n 0, 1) := by decide +kernel
theorem d_Reader_addRules_40 : decode prog_7_method_13_code 40 = .ok (.getfield 32, 3) := by decide +kernel
theorem d_Reader_addRules_43 : decode prog_7_method_13_code 43 = .ok (.iload_n 2, 1) := by decide +kernel
theorem d_Reader_addRules_44 : decode prog_7_method_13_code 44 = .ok (.invokevirtual 218, 3) := by decide +kernel
theorem d_Reader_addRules_47 : decode prog_7_method_13_code 47 = .ok (.astore_n 3, 1) := by decide +kernel
theorem d_Reader_addRules_48 : decode prog_7_method_13_code 48 = .ok (.aload_n 3, 1) := by decide +kernel
theorem d_Reader_addRules_49 : decode prog_7_method_13_code 49 = .ok (.ifnonnull 5, 3) := by decide +kernel
theorem d_Reader_addRules_52 : decode prog_7_method_13_code 52 = .ok (.iconst 0, 1) := by decide +kernel
theorem d_Reader_addRules_53 : decode prog_7_method_13_code 53 = .ok (.ireturn, 1) := by decide +kernel
theorem d_Reader_addRules_54 : decode prog_7_method_13_code 54 = .ok (.aload_n 3, 1) := by decide +kernel
theorem d_Reader_addRules_55 : decode prog_7_method_13_code 55 = .ok (.iconst 1, 1) := by decide +kernel
theorem d_Reader_addRules_56 : decode prog_7_method_13_code 56 = .ok (.putfield 249, 3) := by decide +kernel
theorem d_Reader_addRules_59 : decode prog_7_method_13_code 59 = .ok (.aload_n 3, 1) := by decide +kernel
theorem d_Reader_addRules_60 : decode prog_7_method_13_code 60 = .ok (.iconst 1, 1) := by decide +kernel
theorem d_Reader_addRules_61 : decode prog_7_method_13_code 61 = .ok (.putfield 252, 3) := by decide +kernel
theorem d_Reader_addRules_64 : decode prog_7_method_13_code 64 = .ok (.iload_n 1, 1) := by decide +kernel
theorem d_Reader_addRules_65 : decode prog_7_method_13_code 65 = .ok (.istore 4, 2) := by decide +kernel
theorem d_Reader_addRules_67 : decode prog_7_method_13_code 67 = .ok (.iload 4, 2) := by decide +kernel
theorem d_Reader_addRules_69 : decode prog_7_method_13_code 69 = .ok (.aload_n 0, 1) := by decide +kernel
theorem d_Reader_addRules_70 : decode prog_7_method_13_code 70 = .ok (.getfield 32, 3) := by decide +kernel
theorem d_Reader_addRules_73 : decode prog_7_method_13_code 73 = .ok (.invokevirtual 147, 3) := by decide +kernel
theorem d_Reader_addRules_76 : decode prog_7_method_13_code 76 = .ok (.if_icmp .ge 31, 3) := by decide +kernel
theorem d_Reader_addRules_79 : decode prog_7_method_13_code 79 = .ok (.aload_n 0, 1) := by decide +kernel
theorem d_Reader_addRules_80 : decode prog_7_method_13_code 80 = .ok (.getfield 24, 3) := by decide +kernel
theorem d_Reader_addRules_83 : decode prog_7_method_13_code 83 = .ok (.aload_n 3, 1) := by decide +kernel
theorem d_Reader_addRules_84 : decode prog_7_method_13_code 84 = .ok (.aload_n 0, 1) := by decide +kernel
theorem d_Reader_addRules_85 : decode prog_7_method_13_code 85 = .ok (.getfield 32, 3) := by decide +kernel
theorem d_Reader_addRules_88 : decode prog_7_method_13_code 88 = .ok (.iload 4, 2) := by decide +kernel
theorem d_Reader_addRules_90 : decode prog_7_method_13_code 90 = .ok (.invokevirtual 218, 3) := by decide +kernel
theorem d_Reader_addRules_93 : decode prog_7_method_13_code 93 = .ok (.invokevirtual 255, 3) := by decide +kernel
theorem d_Reader_addRules_96 : decode prog_7_method_13_code 96 = .ok (.ifCond .ne 5, 3) := by decide +kernel
theorem d_Reader_addRules_99 : decode prog_7_method_13_code 99 = .ok (.iconst 0, 1) := by decide +kernel
theorem d_Reader_addRules_100 : decode prog_7_method_13_code 100 = .ok (.ireturn, 1) := by decide +kernel
theorem d_Reader_addRules_101 : decode prog_7_method_13_code 101 = .ok (.iinc 4 1, 3) := by decide +kernel
theorem d_Reader_addRules_104 : decode prog_7_method_13_code 104 = .ok (.goto (-37), 3) := by decide +kernel
theorem d_Reader_addRules_107 : decode prog_7_method_13_code 107 = .ok (.iinc 2 1, 3) := by decide +kernel
theorem d_Reader_addRules_110 : decode prog_7_method_13_code 110 = .ok (.goto (-76), 3) := by decide +kernel
theorem d_Reader_addRules_113 : decode prog_7_method_13_code 113 = .ok (.iconst 1, 1) := by decide +kernel
theorem d_Reader_addRules_114 : decode prog_7_method_13_code 114 = .ok (.ireturn, 1) := by decide +kernel
noncomputable def f_Reader_addRules_b67 (r0 : Option Nat) (x1 : Int32) (x2 : Int32) (r3 : Option Nat) (x4 : Int32) (σ : rb_St) : Option ((Int32 × rb_St) ⊕ ((Int32 × rb_St) ⊕ rb_Rs)) :=
  (rb_gR σ r0 8 3).bind fun r_15 => (rb_fc σ r_15 6).bind fun _ => rb_cI (f_Words_count (r_15)  σ) fun x_16 σ_17 => if x_16 ≤ x4 then ((some (.inl ((x2 + 1), σ_17))).map Sum.inr) else ((rb_gR σ_17 r0 8 1).bind fun r_18 => (rb_gR σ_17 r0 8 3).bind fun r_19 => (rb_fc σ_17 r_19 6).bind fun _ => rb_cR (f_Words_name (r_19) (x4) σ_17) fun r_20 σ_21 => (rb_fc σ_21 r_18 4).bind fun _ => rb_cI (f_Rules_addPrerequisite (r_18) (r3) (r_20) σ_21) fun x_22 σ_23 => if x_22 = 0 then (((some (some (.int (0 : Int32)), σ_23)).map Sum.inr).map Sum.inr) else (some (.inl ((x4 + 1), σ_23))))
theorem t_Reader_addRules_b67 {E : rb_EV} {d : Nat} {σ0 : rb_St} {res : rb_Rs} (hdd : 1 ≤ d)  (r0 : Option Nat) (x1 : Int32) (x2 : Int32) (r3 : Option Nat) (x4 : Int32) (σ : rb_St) : rb_TC (f_Reader_addRules_b67 r0 x1 x2 r3 x4 σ) (Sum.elim (fun z : (Int32 × rb_St) => rb_WK E k_Reader_addRules d σ0 res 67 [some (va_rf r0), some (.int x1), some (.int x2), some (va_rf r3), some (.int z.1)] [] z.2) (Sum.elim (fun z : (Int32 × rb_St) => rb_WK E k_Reader_addRules d σ0 res 34 [some (va_rf r0), some (.int x1), some (.int z.1), none, none] [] z.2) (fun r => r = res))) (rb_WK E k_Reader_addRules d σ0 res 67 [some (va_rf r0), some (.int x1), some (.int x2), some (va_rf r3), some (.int x4)] [] σ) := by
  unfold f_Reader_addRules_b67
  refine rb_TC.mono (rk_iload d_Reader_addRules_67 rfl) ?_
  refine rb_TC.mono (rk_aload_n 0 d_Reader_addRules_69 rfl rfl) ?_
  refine rt_gR r0 fw_Reader_32 d_Reader_addRules_70 (fun r_15 => ?_)
  refine rt_vI (As := []) (st := [.int x4]) (r_15) vw_Reader_147 (s_Words_count (Nat.le_refl _) (r_15)  σ) (Nat.le_trans (by decide) hdd) rfl (by simp [rb_cat_r, rb_cat_i, rb_cat_l]) d_Reader_addRules_73 (fun x_16 σ_17 => ?_)
  refine rt_icmp_ge 107 d_Reader_addRules_76 (by decide) (fun _ => ?_) (fun _ => ?_)
  · refine rb_TC.out ?_
    refine rb_TC.mono (rk_iinc (lv2 := [some (va_rf r0), some (.int x1), some (.int (x2 + 1)), some (va_rf r3), some (.int x4)]) (x2 + 1) d_Reader_addRules_107 rfl rfl (by decide) (fun _ => rb_one_i) rfl) ?_
    refine rb_TC.mono (rk_goto 34 d_Reader_addRules_110 (by decide)) ?_
    refine rb_TC.mono (rk_less (lv2 := [some (va_rf r0), some (.int x1), some (.int (x2 + 1)), none, none]) (rb_le_ok (rb_leS (rb_leS (rb_leS (rb_leN (rb_leN rb_le0))))))) ?_
    exact rb_back
  · refine rb_TC.mono (rk_aload_n 0 d_Reader_addRules_79 rfl rfl) ?_
    refine rt_gR r0 fw_Reader_24 d_Reader_addRules_80 (fun r_18 => ?_)
    refine rb_TC.mono (rk_aload_n 3 d_Reader_addRules_83 rfl rfl) ?_
    refine rb_TC.mono (rk_aload_n 0 d_Reader_addRules_84 rfl rfl) ?_
    refine rt_gR r0 fw_Reader_32 d_Reader_addRules_85 (fun r_19 => ?_)
    refine rb_TC.mono (rk_iload d_Reader_addRules_88 rfl) ?_
    refine rt_vR (As := [.int x4]) (st := [va_rf r3, va_rf r_18]) (r_19) vw_Reader_218 (s_Words_name (Nat.le_refl _) (r_19) (x4) σ_17) (Nat.le_trans (by decide) hdd) rfl (by simp [rb_cat_r, rb_cat_i, rb_cat_l]) d_Reader_addRules_90 (fun r_20 σ_21 => ?_)
    refine rt_vI (As := [va_rf r3, va_rf r_20]) (st := []) (r_18) vw_Reader_255 (s_Rules_addPrerequisite (Nat.le_refl _) (r_18) (r3) (r_20) σ_21) (Nat.le_trans (by decide) hdd) rfl (by simp [rb_cat_r, rb_cat_i, rb_cat_l]) d_Reader_addRules_93 (fun x_22 σ_23 => ?_)
    refine rt_if_ne 101 d_Reader_addRules_96 (by decide) (fun _ => ?_) (fun _ => ?_)
    · refine rb_TC.out ?_
      refine rb_TC.out ?_
      refine rb_TC.mono (rk_iconst (0 : Int32) d_Reader_addRules_99 (by decide)) ?_
      exact rt_iret (ty := .boolean) rfl (by decide) (fun h => h) d_Reader_addRules_100
    · refine rb_TC.mono (rk_iinc (lv2 := [some (va_rf r0), some (.int x1), some (.int x2), some (va_rf r3), some (.int (x4 + 1))]) (x4 + 1) d_Reader_addRules_101 rfl rfl (by decide) (fun _ => rb_one_r) rfl) ?_
      refine rb_TC.mono (rk_goto 67 d_Reader_addRules_104 (by decide)) ?_
      exact rb_back
noncomputable def f_Reader_addRules_b34 (r0 : Option Nat) (x1 : Int32) (x2 : Int32) (σ : rb_St) : Option ((Int32 × rb_St) ⊕ rb_Rs) :=
  if x1 ≤ x2 then ((some (some (.int (1 : Int32)), σ)).map Sum.inr) else ((rb_gR σ r0 8 3).bind fun r_10 => (rb_fc σ r_10 6).bind fun _ => rb_cR (f_Words_name (r_10) (x2) σ) fun r_11 σ_12 => if r_11 = none then ((some (some (.int (0 : Int32)), σ_12)).map Sum.inr) else ((rb_pZ σ_12 r_11 12 4 (1 : Int32)).bind fun σ_13 => (rb_pZ σ_13 r_11 12 8 (1 : Int32)).bind fun σ_14 => rb_it (fun z : (Int32 × rb_St) => f_Reader_addRules_b67 (r0) (x1) (x2) (r_11) (z.1) z.2) (x1, σ_14)))
theorem t_Reader_addRules_b34 {E : rb_EV} {d : Nat} {σ0 : rb_St} {res : rb_Rs} (hdd : 1 ≤ d)  (r0 : Option Nat) (x1 : Int32) (x2 : Int32) (σ : rb_St) : rb_TC (f_Reader_addRules_b34 r0 x1 x2 σ) (Sum.elim (fun z : (Int32 × rb_St) => rb_WK E k_Reader_addRules d σ0 res 34 [some (va_rf r0), some (.int x1), some (.int z.1), none, none] [] z.2) (fun r => r = res)) (rb_WK E k_Reader_addRules d σ0 res 34 [some (va_rf r0), some (.int x1), some (.int x2), none, none] [] σ) := by
  unfold f_Reader_addRules_b34
  refine rb_TC.mono (rk_iload_n 2 d_Reader_addRules_34 rfl rfl) ?_
  refine rb_TC.mono (rk_iload_n 1 d_Reader_addRules_35 rfl rfl) ?_
  refine rt_icmp_ge 113 d_Reader_addRules_36 (by decide) (fun _ => ?_) (fun _ => ?_)
  · refine rb_TC.out ?_
    refine rb_TC.mono (rk_iconst (1 : Int32) d_Reader_addRules_113 (by decide)) ?_
    exact rt_iret (ty := .boolean) rfl (by decide) (fun h => h) d_Reader_addRules_114
  · refine rb_TC.mono (rk_aload_n 0 d_Reader_addRules_39 rfl rfl) ?_
    refine rt_gR r0 fw_Reader_32 d_Reader_addRules_40 (fun r_10 => ?_)
    refine rb_TC.mono (rk_iload_n 2 d_Reader_addRules_43 rfl rfl) ?_
    refine rt_vR (As := [.int x2]) (st := []) (r_10) vw_Reader_218 (s_Words_name (Nat.le_refl _) (r_10) (x2) σ) (Nat.le_trans (by decide) hdd) rfl (by simp [rb_cat_r, rb_cat_i, rb_cat_l]) d_Reader_addRules_44 (fun r_11 σ_12 => ?_)
    refine rb_TC.mono (rk_astore_n (lv2 := [some (va_rf r0), some (.int x1), some (.int x2), some (va_rf r_11), none]) 3 d_Reader_addRules_47 rfl (by decide) (fun _ => rb_one_i) rfl) ?_
    refine rb_TC.mono (rk_aload_n 3 d_Reader_addRules_48 rfl rfl) ?_
    refine rt_ifnonnull 54 d_Reader_addRules_49 (by decide) (fun _ => ?_) (fun _ => ?_)
    · refine rb_TC.out ?_
      refine rb_TC.mono (rk_iconst (0 : Int32) d_Reader_addRules_52 (by decide)) ?_
      exact rt_iret (ty := .boolean) rfl (by decide) (fun h => h) d_Reader_addRules_53
    · refine rb_TC.mono (rk_aload_n 3 d_Reader_addRules_54 rfl rfl) ?_
      refine rb_TC.mono (rk_iconst (1 : Int32) d_Reader_addRules_55 (by decide)) ?_
      refine rt_pZ r_11 fp_Reader_addRules_249 d_Reader_addRules_56 (fun σ_13 => ?_)
      refine rb_TC.mono (rk_aload_n 3 d_Reader_addRules_59 rfl rfl) ?_
      refine rb_TC.mono (rk_iconst (1 : Int32) d_Reader_addRules_60 (by decide)) ?_
      refine rt_pZ r_11 fp_Reader_addRules_252 d_Reader_addRules_61 (fun σ_14 => ?_)
      refine rb_TC.mono (rk_iload_n 1 d_Reader_addRules_64 rfl rfl) ?_
      refine rb_TC.mono (rk_istore (lv2 := [some (va_rf r0), some (.int x1), some (.int x2), some (va_rf r_11), some (.int x1)]) d_Reader_addRules_65 (by decide) (fun _ => rb_one_r) rfl) ?_
      exact rb_TC.loop2 (A := (fun z : (Int32 × rb_St) => rb_WK E k_Reader_addRules d σ0 res 67 [some (va_rf r0), some (.int x1), some (.int x2), some (va_rf r_11), some (.int z.1)] [] z.2)) (x1, σ_14) (fun z => t_Reader_addRules_b67 hdd  (r0) (x1) (x2) (r_11) (z.1) z.2)
noncomputable def f_Reader_addRules (r0 : Option Nat) (x1 : Int32) (σ : rb_St) : Option rb_Rs :=
  (rb_gR σ r0 8 0).bind fun r_1 => (rb_fc σ r_1 3).bind fun _ => rb_cV (f_Store_forgetLatestTargets (r_1)  σ) fun σ_2 => (rb_gR σ_2 r0 8 1).bind fun r_3 => (rb_gR σ_2 r_3 4 12).bind fun r_4 => if r_4 = none then ((rb_gR σ_2 r0 8 1).bind fun r_5 => (rb_gR σ_2 r0 8 3).bind fun r_6 => (rb_fc σ_2 r_6 6).bind fun _ => rb_cR (f_Words_name (r_6) ((0 : Int32)) σ_2) fun r_7 σ_8 => (rb_pR σ_8 r_5 4 12 r_7).bind fun σ_9 => rb_it (fun z : (Int32 × rb_St) => f_Reader_addRules_b34 (r0) (x1) (z.1) z.2) ((0 : Int32), σ_9)) else (rb_it (fun z : (Int32 × rb_St) => f_Reader_addRules_b34 (r0) (x1) (z.1) z.2) ((0 : Int32), σ_2))
theorem s_Reader_addRules {E : rb_EV} {d : Nat} (hdd : 1 ≤ d) (r0 : Option Nat) (x1 : Int32) (σ : rb_St) : rb_Does E k_Reader_addRules d [va_rf r0, .int x1] σ (f_Reader_addRules r0 x1 σ) := by
  refine rb_start (lv := [some (va_rf r0), some (.int x1), none, none, none]) (by decide) (by simp [lg_sl, rb_as, lv_args, rb_cat_r, rb_cat_i, rb_cat_l, rb_nL, k_Reader_addRules]) (fun res => ?_)
  unfold f_Reader_addRules
  refine rb_TC.mono (rk_aload_n 0 d_Reader_addRules_0 rfl rfl) ?_
  refine rt_gR r0 fw_Reader_20 d_Reader_addRules_1 (fun r_1 => ?_)
  refine rt_vV (As := []) (st := []) (r_1) vw_Reader_242 (s_Store_forgetLatestTargets (Nat.le_refl _) (r_1)  σ) (Nat.le_trans (by decide) hdd) rfl (by simp [rb_cat_r, rb_cat_i, rb_cat_l]) d_Reader_addRules_4 (fun σ_2 => ?_)
  refine rb_TC.mono (rk_aload_n 0 d_Reader_addRules_7 rfl rfl) ?_
  refine rt_gR r0 fw_Reader_24 d_Reader_addRules_8 (fun r_3 => ?_)
  refine rt_gR r_3 fw_Reader_245 d_Reader_addRules_11 (fun r_4 => ?_)
  refine rt_ifnonnull 32 d_Reader_addRules_14 (by decide) (fun _ => ?_) (fun _ => ?_)
  · refine rb_TC.mono (rk_aload_n 0 d_Reader_addRules_17 rfl rfl) ?_
    refine rt_gR r0 fw_Reader_24 d_Reader_addRules_18 (fun r_5 => ?_)
    refine rb_TC.mono (rk_aload_n 0 d_Reader_addRules_21 rfl rfl) ?_
    refine rt_gR r0 fw_Reader_32 d_Reader_addRules_22 (fun r_6 => ?_)
    refine rb_TC.mono (rk_iconst (0 : Int32) d_Reader_addRules_25 (by decide)) ?_
    refine rt_vR (As := [.int (0 : Int32)]) (st := [va_rf r_5]) (r_6) vw_Reader_218 (s_Words_name (Nat.le_refl _) (r_6) ((0 : Int32)) σ_2) (Nat.le_trans (by decide) hdd) rfl (by simp [rb_cat_r, rb_cat_i, rb_cat_l]) d_Reader_addRules_26 (fun r_7 σ_8 => ?_)
    refine rt_pR r_5 fp_Reader_addRules_245 d_Reader_addRules_29 (fun σ_9 => ?_)
    refine rb_TC.mono (rk_iconst (0 : Int32) d_Reader_addRules_32 (by decide)) ?_
    refine rb_TC.mono (rk_istore_n (lv2 := [some (va_rf r0), some (.int x1), some (.int (0 : Int32)), none, none]) 2 d_Reader_addRules_33 rfl (by decide) (fun _ => rb_one_i) rfl) ?_
    exact rb_TC.loop2 (A := (fun z : (Int32 × rb_St) => rb_WK E k_Reader_addRules d σ res 34 [some (va_rf r0), some (.int x1), some (.int z.1), none, none] [] z.2)) ((0 : Int32), σ_9) (fun z => t_Reader_addRules_b34 hdd  (r0) (x1) (z.1) z.2)
  · refine rb_TC.mono (rk_iconst (0 : Int32) d_Reader_addRules_32 (by decide)) ?_
    refine rb_TC.mono (rk_istore_n (lv2 := [some (va_rf r0), some (.int x1), some (.int (0 : Int32)), none, none]) 2 d_Reader_addRules_33 rfl (by decide) (fun _ => rb_one_i) rfl) ?_
    exact rb_TC.loop2 (A := (fun z : (Int32 × rb_St) => rb_WK E k_Reader_addRules d σ res 34 [some (va_rf r0), some (.int x1), some (.int z.1), none, none] [] z.2)) ((0 : Int32), σ_2) (fun z => t_Reader_addRules_b34 hdd  (r0) (x1) (z.1) z.2)
-- ===== RuleBuilder$Reader.readRuleLine(Ljava/lang/String;)Z
def k_Reader_readRuleLine : rb_MK := (⟨"RuleBuilder$Reader", "readRuleLine", "(Ljava/lang/String;)Z"⟩, prog_7_method_7_code, 6, some (.boolean))
theorem mw_Reader_readRuleLine : rb_Mw k_Reader_readRuleLine 1 := ⟨rb_inG 718 (by decide +kernel) rfl, rb_inG 92 (by decide +kernel) rfl, ⟨by decide, by decide, by decide +kernel⟩, by decide⟩
theorem fp_Reader_readRuleLine_107 : rb_Fp k_Reader_readRuleLine 107 8 7 .int := ⟨fw_Reader_107, rfl, fun q h => by cases h; exact Or.inl rfl⟩
theorem fp_Reader_readRuleLine_73 : rb_Fp k_Reader_readRuleLine 73 8 5 .int := ⟨fw_Reader_73, rfl, fun q h => by cases h; exact Or.inl rfl⟩
theorem fw_Reader_138 : rb_Fw "RuleBuilder$Reader" 138 5 0 := ⟨_, rfl, by decide, by decide, by decide, rfl, rb_inG 228 (by decide +kernel) rfl⟩
theorem sw_Reader_150 : rb_Sw "RuleBuilder$Reader" 150 k_Reader_isLastColon 2 := ⟨mw_Reader_isLastColon, rb_inG 798 (by decide +kernel) rfl, rb_inG 799 (by decide +kernel) rfl⟩
theorem vw_Reader_134 : rb_Vw "RuleBuilder$Reader" 134 k_Exp_expand 5 2 := ⟨mw_Exp_expand, rb_inG 719 (by decide +kernel) rfl, rb_inG 720 (by decide +kernel) rfl, rb_inG 721 (by decide +kernel) rfl, by decide, by decide, _, rfl, rfl⟩
theorem vw_Reader_141 : rb_Vw "RuleBuilder$Reader" 141 k_Words_clear 6 0 := ⟨mw_Words_clear, rb_inG 785 (by decide +kernel) rfl, rb_inG 786 (by decide +kernel) rfl, rb_inG 787 (by decide +kernel) rfl, by decide, by decide, _, rfl, rfl⟩
theorem vw_Reader_144 : rb_Vw "RuleBuilder$Reader" 144 k_Words_addWords 6 2 := ⟨mw_Words_addWords, rb_inG 789 (by decide +kernel) rfl, rb_inG 790 (by decide +kernel) rfl, rb_inG 791 (by decide +kernel) rfl, by decide, by decide, _, rfl, rfl⟩
theorem vw_Reader_159 : rb_Vw "RuleBuilder$Reader" 159 k_Reader_kindOf 8 1 := ⟨mw_Reader_kindOf, rb_inG 808 (by decide +kernel) rfl, rb_inG 810 (by decide +kernel) rfl, rb_inG 12 (by decide +kernel) rfl, by decide, by decide, _, rfl, rfl⟩
theorem vw_Reader_171 : rb_Vw "RuleBuilder$Reader" 171 k_Reader_readSuffixes 8 0 := ⟨mw_Reader_readSuffixes, rb_inG 837 (by decide +kernel) rfl, rb_inG 839 (by decide +kernel) rfl, rb_inG 13 (by decide +kernel) rfl, by decide, by decide, _, rfl, rfl⟩
theorem vw_Reader_174 : rb_Vw "RuleBuilder$Reader" 174 k_Words_meet 6 3 := ⟨mw_Words_meet, rb_inG 856 (by decide +kernel) rfl, rb_inG 857 (by decide +kernel) rfl, rb_inG 858 (by decide +kernel) rfl, by decide, by decide, _, rfl, rfl⟩
theorem vw_Reader_178 : rb_Vw "RuleBuilder$Reader" 178 k_Reader_mark 8 1 := ⟨mw_Reader_mark, rb_inG 957 (by decide +kernel) rfl, rb_inG 959 (by decide +kernel) rfl, rb_inG 14 (by decide +kernel) rfl, by decide, by decide, _, rfl, rfl⟩
theorem vw_Reader_181 : rb_Vw "RuleBuilder$Reader" 181 k_Reader_readEnding 8 1 := ⟨mw_Reader_readEnding, rb_inG 965 (by decide +kernel) rfl, rb_inG 967 (by decide +kernel) rfl, rb_inG 15 (by decide +kernel) rfl, by decide, by decide, _, rfl, rfl⟩
theorem vw_Reader_184 : rb_Vw "RuleBuilder$Reader" 184 k_Reader_addRules 8 1 := ⟨mw_Reader_addRules, rb_inG 980 (by decide +kernel) rfl, rb_inG 982 (by decide +kernel) rfl, rb_inG 17 (by decide +kernel) rfl, by decide, by decide, _, rfl, rfl⟩
theorem vw_Reader_80 : rb_Vw "RuleBuilder$Reader" 80 k_Text_indexOf 2 1 := ⟨mw_Text_indexOf, rb_inG 700 (by decide +kernel) rfl, rb_inG 422 (by decide +kernel) rfl, rb_inG 423 (by decide +kernel) rfl, by decide, by decide, _, rfl, rfl⟩
theorem d_Reader_readRuleLine_0 : decode prog_7_method_7_code 0 = .ok (.aload_n 0, 1) := by decide +kernel
theorem d_Reader_readRuleLine_1 : decode prog_7_method_7_code 1 = .ok (.getfield 28, 3) := by decide +kernel
theorem d_Reader_readRuleLine_4 : decode prog_7_method_7_code 4 = .ok (.aload_n 1, 1) := by decide +kernel
theorem d_Reader_readRuleLine_5 : decode prog_7_method_7_code 5 = .ok (.aconst_null, 1) := by decide +kernel
theorem d_Reader_readRuleLine_6 : decode prog_7_method_7_code 6 = .ok (.invokevirtual 134, 3) := by decide +kernel
theorem d_Reader_readRuleLine_9 : decode prog_7_method_7_code 9 = .ok (.ifCond .ne 5, 3) := by decide +kernel
theorem d_Reader_readRuleLine_12 : decode prog_7_method_7_code 12 = .ok (.iconst 0, 1) := by decide +kernel
theorem d_Reader_readRuleLine_13 : decode prog_7_method_7_code 13 = .ok (.ireturn, 1) := by decide +kernel
theorem d_Reader_readRuleLine_14 : decode prog_7_method_7_code 14 = .ok (.aload_n 0, 1) := by decide +kernel
theorem d_Reader_readRuleLine_15 : decode prog_7_method_7_code 15 = .ok (.getfield 28, 3) := by decide +kernel
theorem d_Reader_readRuleLine_18 : decode prog_7_method_7_code 18 = .ok (.getfield 138, 3) := by decide +kernel
theorem d_Reader_readRuleLine_21 : decode prog_7_method_7_code 21 = .ok (.astore_n 2, 1) := by decide +kernel
theorem d_Reader_readRuleLine_22 : decode prog_7_method_7_code 22 = .ok (.aload_n 2, 1) := by decide +kernel
theorem d_Reader_readRuleLine_23 : decode prog_7_method_7_code 23 = .ok (.bipush 58, 2) := by decide +kernel
theorem d_Reader_readRuleLine_25 : decode prog_7_method_7_code 25 = .ok (.invokevirtual 80, 3) := by decide +kernel
theorem d_Reader_readRuleLine_28 : decode prog_7_method_7_code 28 = .ok (.istore_n 3, 1) := by decide +kernel
theorem d_Reader_readRuleLine_29 : decode prog_7_method_7_code 29 = .ok (.aload_n 0, 1) := by decide +kernel
theorem d_Reader_readRuleLine_30 : decode prog_7_method_7_code 30 = .ok (.getfield 32, 3) := by decide +kernel
theorem d_Reader_readRuleLine_33 : decode prog_7_method_7_code 33 = .ok (.invokevirtual 141, 3) := by decide +kernel
theorem d_Reader_readRuleLine_36 : decode prog_7_method_7_code 36 = .ok (.aload_n 0, 1) := by decide +kernel
theorem d_Reader_readRuleLine_37 : decode prog_7_method_7_code 37 = .ok (.getfield 32, 3) := by decide +kernel
theorem d_Reader_readRuleLine_40 : decode prog_7_method_7_code 40 = .ok (.iconst 0, 1) := by decide +kernel
theorem d_Reader_readRuleLine_41 : decode prog_7_method_7_code 41 = .ok (.iload_n 3, 1) := by decide +kernel
theorem d_Reader_readRuleLine_42 : decode prog_7_method_7_code 42 = .ok (.invokevirtual 144, 3) := by decide +kernel
theorem d_Reader_readRuleLine_45 : decode prog_7_method_7_code 45 = .ok (.aload_n 0, 1) := by decide +kernel
theorem d_Reader_readRuleLine_46 : decode prog_7_method_7_code 46 = .ok (.getfield 32, 3) := by decide +kernel
theorem d_Reader_readRuleLine_49 : decode prog_7_method_7_code 49 = .ok (.invokevirtual 147, 3) := by decide +kernel
theorem d_Reader_readRuleLine_52 : decode prog_7_method_7_code 52 = .ok (.istore 4, 2) := by decide +kernel
theorem d_Reader_readRuleLine_54 : decode prog_7_method_7_code 54 = .ok (.iload 4, 2) := by decide +kernel
theorem d_Reader_readRuleLine_56 : decode prog_7_method_7_code 56 = .ok (.ifCond .eq 11, 3) := by decide +kernel
theorem d_Reader_readRuleLine_59 : decode prog_7_method_7_code 59 = .ok (.aload_n 2, 1) := by decide +kernel
theorem d_Reader_readRuleLine_60 : decode prog_7_method_7_code 60 = .ok (.iload_n 3, 1) := by decide +kernel
theorem d_Reader_readRuleLine_61 : decode prog_7_method_7_code 61 = .ok (.invokestatic 150, 3) := by decide +kernel
theorem d_Reader_readRuleLine_64 : decode prog_7_method_7_code 64 = .ok (.ifCond .ne 5, 3) := by decide +kernel
theorem d_Reader_readRuleLine_67 : decode prog_7_method_7_code 67 = .ok (.iconst 0, 1) := by decide +kernel
theorem d_Reader_readRuleLine_68 : decode prog_7_method_7_code 68 = .ok (.ireturn, 1) := by decide +kernel
theorem d_Reader_readRuleLine_69 : decode prog_7_method_7_code 69 = .ok (.aload_n 0, 1) := by decide +kernel
theorem d_Reader_readRuleLine_70 : decode prog_7_method_7_code 70 = .ok (.getfield 32, 3) := by decide +kernel
theorem d_Reader_readRuleLine_73 : decode prog_7_method_7_code 73 = .ok (.iload_n 3, 1) := by decide +kernel
theorem d_Reader_readRuleLine_74 : decode prog_7_method_7_code 74 = .ok (.iconst 1, 1) := by decide +kernel
theorem d_Reader_readRuleLine_75 : decode prog_7_method_7_code 75 = .ok (.iadd, 1) := by decide +kernel
theorem d_Reader_readRuleLine_76 : decode prog_7_method_7_code 76 = .ok (.aload_n 2, 1) := by decide +kernel
theorem d_Reader_readRuleLine_77 : decode prog_7_method_7_code 77 = .ok (.invokevirtual 42, 3) := by decide +kernel
theorem d_Reader_readRuleLine_80 : decode prog_7_method_7_code 80 = .ok (.invokevirtual 144, 3) := by decide +kernel
theorem d_Reader_readRuleLine_83 : decode prog_7_method_7_code 83 = .ok (.aload_n 0, 1) := by decide +kernel
theorem d_Reader_readRuleLine_84 : decode prog_7_method_7_code 84 = .ok (.iconst (-1), 1) := by decide +kernel
theorem d_Reader_readRuleLine_85 : decode prog_7_method_7_code 85 = .ok (.putfield 107, 3) := by decide +kernel
theorem d_Reader_readRuleLine_88 : decode prog_7_method_7_code 88 = .ok (.iload 4, 2) := by decide +kernel
theorem d_Reader_readRuleLine_90 : decode prog_7_method_7_code 90 = .ok (.iconst 1, 1) := by decide +kernel
theorem d_Reader_readRuleLine_91 : decode prog_7_method_7_code 91 = .ok (.if_icmp .ne 14, 3) := by decide +kernel
theorem d_Reader_readRuleLine_94 : decode prog_7_method_7_code 94 = .ok (.aload_n 0, 1) := by decide +kernel
theorem d_Reader_readRuleLine_95 : decode prog_7_method_7_code 95 = .ok (.getfield 32, 3) := by decide +kernel
theorem d_Reader_readRuleLine_98 : decode prog_7_method_7_code 98 = .ok (.iconst 0, 1) := by decide +kernel
theorem d_Reader_readRuleLine_99 : decode prog_7_method_7_code 99 = .ok (.invokevirtual 154, 3) := by decide +kernel
theorem d_Reader_readRuleLine_102 : decode prog_7_method_7_code 102 = .ok (.goto 5, 3) := by decide +kernel
theorem d_Reader_readRuleLine_105 : decode prog_7_method_7_code 105 = .ok (.ldc 157, 2) := by decide +kernel
theorem d_Reader_readRuleLine_107 : decode prog_7_method_7_code 107 = .ok (.astore 5, 2) := by decide +kernel
theorem d_Reader_readRuleLine_109 : decode prog_7_method_7_code 109 = .ok (.aload_n 0, 1) := by decide +kernel
theorem d_Reader_readRuleLine_110 : decode prog_7_method_7_code 110 = .ok (.aload_n 0, 1) := by decide +kernel
theorem d_Reader_readRuleLine_111 : decode prog_7_method_7_code 111 = .ok (.aload 5, 2) := by decide +kernel
theorem d_Reader_readRuleLine_113 : decode prog_7_method_7_code 113 = .ok (.invokevirtual 159, 3) := by decide +kernel
theorem d_Reader_readRuleLine_116 : decode prog_7_method_7_code 116 = .ok (.putfield 73, 3) := by decide +kernel
theorem d_Reader_readRuleLine_119 : decode prog_7_method_7_code 119 = .ok (.aload_n 0, 1) := by decide +kernel
theorem d_Reader_readRuleLine_120 : decode prog_7_method_7_code 120 = .ok (.getfield 73, 3) := by decide +kernel
theorem d_Reader_readRuleLine_123 : decode prog_7_method_7_code 123 = .ok (.tableswitch 105 1 4 #[29, 105, 98, 81], 29) := by decide +kernel
theorem d_Reader_readRuleLine_152 : decode prog_7_method_7_code 152 = .ok (.aload 5, 2) := by decide +kernel
theorem d_Reader_readRuleLine_154 : decode prog_7_method_7_code 154 = .ok (.ldc 163, 2) := by decide +kernel
theorem d_Reader_readRuleLine_156 : decode prog_7_method_7_code 156 = .ok (.invokevirtual 165, 3) := by decide +kernel
theorem d_Reader_readRuleLine_159 : decode prog_7_method_7_code 159 = .ok (.ifCond .eq 8, 3) := by decide +kernel
theorem d_Reader_readRuleLine_162 : decode prog_7_method_7_code 162 = .ok (.aload_n 0, 1) := by decide +kernel
theorem d_Reader_readRuleLine_163 : decode prog_7_method_7_code 163 = .ok (.invokevirtual 171, 3) := by decide +kernel
theorem d_Reader_readRuleLine_166 : decode prog_7_method_7_code 166 = .ok (.ireturn, 1) := by decide +kernel
theorem d_Reader_readRuleLine_167 : decode prog_7_method_7_code 167 = .ok (.aload_n 0, 1) := by decide +kernel
theorem d_Reader_readRuleLine_168 : decode prog_7_method_7_code 168 = .ok (.getfield 32, 3) := by decide +kernel
theorem d_Reader_readRuleLine_171 : decode prog_7_method_7_code 171 = .ok (.aload_n 0, 1) := by decide +kernel
theorem d_Reader_readRuleLine_172 : decode prog_7_method_7_code 172 = .ok (.getfield 20, 3) := by decide +kernel
theorem d_Reader_readRuleLine_175 : decode prog_7_method_7_code 175 = .ok (.iconst 1, 1) := by decide +kernel
theorem d_Reader_readRuleLine_176 : decode prog_7_method_7_code 176 = .ok (.aload_n 0, 1) := by decide +kernel
theorem d_Reader_readRuleLine_177 : decode prog_7_method_7_code 177 = .ok (.getfield 32, 3) := by decide +kernel
theorem d_Reader_readRuleLine_180 : decode prog_7_method_7_code 180 = .ok (.invokevirtual 147, 3) := by decide +kernel
theorem d_Reader_readRuleLine_183 : decode prog_7_method_7_code 183 = .ok (.invokevirtual 174, 3) := by decide +kernel
theorem d_Reader_readRuleLine_186 : decode prog_7_method_7_code 186 = .ok (.ifCond .eq 16, 3) := by decide +kernel
theorem d_Reader_readRuleLine_189 : decode prog_7_method_7_code 189 = .ok (.aload_n 0, 1) := by decide +kernel
theorem d_Reader_readRuleLine_190 : decode prog_7_method_7_code 190 = .ok (.aload 5, 2) := by decide +kernel
theorem d_Reader_readRuleLine_192 : decode prog_7_method_7_code 192 = .ok (.invokevirtual 178, 3) := by decide +kernel
theorem d_Reader_readRuleLine_195 : decode prog_7_method_7_code 195 = .ok (.ifCond .eq 7, 3) := by decide +kernel
theorem d_Reader_readRuleLine_198 : decode prog_7_method_7_code 198 = .ok (.iconst 1, 1) := by decide +kernel
theorem d_Reader_readRuleLine_199 : decode prog_7_method_7_code 199 = .ok (.goto 4, 3) := by decide +kernel
theorem d_Reader_readRuleLine_202 : decode prog_7_method_7_code 202 = .ok (.iconst 0, 1) := by decide +kernel
theorem d_Reader_readRuleLine_203 : decode prog_7_method_7_code 203 = .ok (.ireturn, 1) := by decide +kernel
theorem d_Reader_readRuleLine_204 : decode prog_7_method_7_code 204 = .ok (.aload_n 0, 1) := by decide +kernel
theorem d_Reader_readRuleLine_205 : decode prog_7_method_7_code 205 = .ok (.getfield 32, 3) := by decide +kernel
theorem d_Reader_readRuleLine_208 : decode prog_7_method_7_code 208 = .ok (.invokevirtual 147, 3) := by decide +kernel
theorem d_Reader_readRuleLine_211 : decode prog_7_method_7_code 211 = .ok (.iconst 1, 1) := by decide +kernel
theorem d_Reader_readRuleLine_212 : decode prog_7_method_7_code 212 = .ok (.if_icmp .ne 7, 3) := by decide +kernel
theorem d_Reader_readRuleLine_215 : decode prog_7_method_7_code 215 = .ok (.iconst 1, 1) := by decide +kernel
theorem d_Reader_readRuleLine_216 : decode prog_7_method_7_code 216 = .ok (.goto 4, 3) := by decide +kernel
theorem d_Reader_readRuleLine_219 : decode prog_7_method_7_code 219 = .ok (.iconst 0, 1) := by decide +kernel
theorem d_Reader_readRuleLine_220 : decode prog_7_method_7_code 220 = .ok (.ireturn, 1) := by decide +kernel
theorem d_Reader_readRuleLine_221 : decode prog_7_method_7_code 221 = .ok (.aload_n 0, 1) := by decide +kernel
theorem d_Reader_readRuleLine_222 : decode prog_7_method_7_code 222 = .ok (.aload 5, 2) := by decide +kernel
theorem d_Reader_readRuleLine_224 : decode prog_7_method_7_code 224 = .ok (.invokevirtual 181, 3) := by decide +kernel
theorem d_Reader_readRuleLine_227 : decode prog_7_method_7_code 227 = .ok (.ireturn, 1) := by decide +kernel
theorem d_Reader_readRuleLine_228 : decode prog_7_method_7_code 228 = .ok (.aload_n 0, 1) := by decide +kernel
theorem d_Reader_readRuleLine_229 : decode prog_7_method_7_code 229 = .ok (.getfield 32, 3) := by decide +kernel
theorem d_Reader_readRuleLine_232 : decode prog_7_method_7_code 232 = .ok (.aload_n 0, 1) := by decide +kernel
theorem d_Reader_readRuleLine_233 : decode prog_7_method_7_code 233 = .ok (.getfield 20, 3) := by decide +kernel
theorem d_Reader_readRuleLine_236 : decode prog_7_method_7_code 236 = .ok (.iconst 0, 1) := by decide +kernel
theorem d_Reader_readRuleLine_237 : decode prog_7_method_7_code 237 = .ok (.aload_n 0, 1) := by decide +kernel
theorem d_Reader_readRuleLine_238 : decode prog_7_method_7_code 238 = .ok (.getfield 32, 3) := by decide +kernel
theorem d_Reader_readRuleLine_241 : decode prog_7_method_7_code 241 = .ok (.invokevirtual 147, 3) := by decide +kernel
theorem d_Reader_readRuleLine_244 : decode prog_7_method_7_code 244 = .ok (.invokevirtual 174, 3) := by decide +kernel
theorem d_Reader_readRuleLine_247 : decode prog_7_method_7_code 247 = .ok (.ifCond .eq 16, 3) := by decide +kernel
theorem d_Reader_readRuleLine_250 : decode prog_7_method_7_code 250 = .ok (.aload_n 0, 1) := by decide +kernel
theorem d_Reader_readRuleLine_251 : decode prog_7_method_7_code 251 = .ok (.iload 4, 2) := by decide +kernel
theorem d_Reader_readRuleLine_253 : decode prog_7_method_7_code 253 = .ok (.invokevirtual 184, 3) := by decide +kernel
theorem d_Reader_readRuleLine_256 : decode prog_7_method_7_code 256 = .ok (.ifCond .eq 7, 3) := by decide +kernel
theorem d_Reader_readRuleLine_259 : decode prog_7_method_7_code 259 = .ok (.iconst 1, 1) := by decide +kernel
theorem d_Reader_readRuleLine_260 : decode prog_7_method_7_code 260 = .ok (.goto 4, 3) := by decide +kernel
theorem d_Reader_readRuleLine_263 : decode prog_7_method_7_code 263 = .ok (.iconst 0, 1) := by decide +kernel
theorem d_Reader_readRuleLine_264 : decode prog_7_method_7_code 264 = .ok (.ireturn, 1) := by decide +kernel
noncomputable def f_Reader_readRuleLine_j107 (r0 : Option Nat) (x4 : Int32) (sr0 : Option Nat) (σ : rb_St) : Option rb_Rs :=
  (rb_fc σ r0 8).bind fun _ => rb_cI (f_Reader_kindOf (r0) (sr0) σ) fun x_25 σ_26 => (rb_pI σ_26 r0 8 5 x_25).bind fun σ_27 => (rb_gI σ_27 r0 8 5).bind fun x_28 => if x_28 = 1 then ((rb_fc σ_27 sr0 14).bind fun _ => rb_cI (f_Str_equals (sr0) ((some (rb_k σ_27 1))) σ_27) fun x_30 σ_31 => if x_30 = 0 then ((rb_gR σ_31 r0 8 3).bind fun r_32 => (rb_gR σ_31 r0 8 0).bind fun r_33 => (rb_gR σ_31 r0 8 3).bind fun r_34 => (rb_fc σ_31 r_34 6).bind fun _ => rb_cI (f_Words_count (r_34)  σ_31) fun x_35 σ_36 => (rb_fc σ_36 r_32 6).bind fun _ => rb_cI (f_Words_meet (r_32) (r_33) ((1 : Int32)) (x_35) σ_36) fun x_37 σ_38 => if x_37 = 0 then (some (some (.int (0 : Int32)), σ_38)) else ((rb_fc σ_38 r0 8).bind fun _ => rb_cI (f_Reader_mark (r0) (sr0) σ_38) fun x_39 σ_40 => if x_39 = 0 then (some (some (.int (0 : Int32)), σ_40)) else (some (some (.int (1 : Int32)), σ_40)))) else ((rb_fc σ_31 r0 8).bind fun _ => rb_cI (f_Reader_readSuffixes (r0)  σ_31) fun x_41 σ_42 => if rb_isZ x_41 then some (some (.int x_41), σ_42) else none)) else if x_28 = 2 then ((rb_gR σ_27 r0 8 3).bind fun r_44 => (rb_gR σ_27 r0 8 0).bind fun r_45 => (rb_gR σ_27 r0 8 3).bind fun r_46 => (rb_fc σ_27 r_46 6).bind fun _ => rb_cI (f_Words_count (r_46)  σ_27) fun x_47 σ_48 => (rb_fc σ_48 r_44 6).bind fun _ => rb_cI (f_Words_meet (r_44) (r_45) ((0 : Int32)) (x_47) σ_48) fun x_49 σ_50 => if x_49 = 0 then (some (some (.int (0 : Int32)), σ_50)) else ((rb_fc σ_50 r0 8).bind fun _ => rb_cI (f_Reader_addRules (r0) (x4) σ_50) fun x_51 σ_52 => if x_51 = 0 then (some (some (.int (0 : Int32)), σ_52)) else (some (some (.int (1 : Int32)), σ_52)))) else if x_28 = 3 then ((rb_fc σ_27 r0 8).bind fun _ => rb_cI (f_Reader_readEnding (r0) (sr0) σ_27) fun x_54 σ_55 => if rb_isZ x_54 then some (some (.int x_54), σ_55) else none) else if x_28 = 4 then ((rb_gR σ_27 r0 8 3).bind fun r_57 => (rb_fc σ_27 r_57 6).bind fun _ => rb_cI (f_Words_count (r_57)  σ_27) fun x_58 σ_59 => if x_58 = (1 : Int32) then (some (some (.int (1 : Int32)), σ_59)) else (some (some (.int (0 : Int32)), σ_59))) else ((rb_gR σ_27 r0 8 3).bind fun r_60 => (rb_gR σ_27 r0 8 0).bind fun r_61 => (rb_gR σ_27 r0 8 3).bind fun r_62 => (rb_fc σ_27 r_62 6).bind fun _ => rb_cI (f_Words_count (r_62)  σ_27) fun x_63 σ_64 => (rb_fc σ_64 r_60 6).bind fun _ => rb_cI (f_Words_meet (r_60) (r_61) ((0 : Int32)) (x_63) σ_64) fun x_65 σ_66 => if x_65 = 0 then (some (some (.int (0 : Int32)), σ_66)) else ((rb_fc σ_66 r0 8).bind fun _ => rb_cI (f_Reader_addRules (r0) (x4) σ_66) fun x_67 σ_68 => if x_67 = 0 then (some (some (.int (0 : Int32)), σ_68)) else (some (some (.int (1 : Int32)), σ_68))))
theorem t_Reader_readRuleLine_j107 {E : rb_EV} {d : Nat} {σ0 : rb_St} {res : rb_Rs} (hdd : 42 ≤ d)  (r0 : Option Nat) (x4 : Int32) (sr0 : Option Nat) (σ : rb_St) : rb_TC (f_Reader_readRuleLine_j107 r0 x4 sr0 σ) (fun r => r = res) (rb_WK E k_Reader_readRuleLine d σ0 res 107 [some (va_rf r0), none, none, none, some (.int x4), none] [va_rf sr0] σ) := by
  unfold f_Reader_readRuleLine_j107
  refine rb_TC.mono (rk_astore (lv2 := [some (va_rf r0), none, none, none, some (.int x4), some (va_rf sr0)]) d_Reader_readRuleLine_107 (by decide) (fun _ => rb_one_i) rfl) ?_
  refine rb_TC.mono (rk_aload_n 0 d_Reader_readRuleLine_109 rfl rfl) ?_
  refine rb_TC.mono (rk_aload_n 0 d_Reader_readRuleLine_110 rfl rfl) ?_
  refine rb_TC.mono (rk_aload d_Reader_readRuleLine_111 rfl) ?_
  refine rt_vI (As := [va_rf sr0]) (st := [va_rf r0]) (r0) vw_Reader_159 (s_Reader_kindOf (Nat.le_refl _) (r0) (sr0) σ) (Nat.le_trans (by decide) hdd) rfl (by simp [rb_cat_r, rb_cat_i, rb_cat_l]) d_Reader_readRuleLine_113 (fun x_25 σ_26 => ?_)
  refine rt_pI r0 fp_Reader_readRuleLine_73 d_Reader_readRuleLine_116 (fun σ_27 => ?_)
  refine rb_TC.mono (rk_aload_n 0 d_Reader_readRuleLine_119 rfl rfl) ?_
  refine rt_gI r0 fw_Reader_73 d_Reader_readRuleLine_120 (fun x_28 => ?_)
  refine rb_TC.ite (fun h_29 => ?_) (fun h_29 => ?_)
  · refine rb_TC.mono (rk_tabIn 152 d_Reader_readRuleLine_123 (by rw [h_29]; decide) (by rw [h_29]; decide) (by rw [h_29]; rfl) (by decide)) ?_
    refine rb_TC.mono (rk_aload d_Reader_readRuleLine_152 rfl) ?_
    refine rb_TC.mono (rk_ldcs (no := 1) (by decide) d_Reader_readRuleLine_154) ?_
    refine rt_vI (As := [va_rf (some (rb_k σ_27 1))]) (st := []) (sr0) vw_Reader_165 (s_Str_equals (Nat.le_refl _) (sr0) ((some (rb_k σ_27 1))) σ_27) (Nat.le_trans (by decide) hdd) rfl (by simp [rb_cat_r, rb_cat_i, rb_cat_l]) d_Reader_readRuleLine_156 (fun x_30 σ_31 => ?_)
    refine rt_if_eq 167 d_Reader_readRuleLine_159 (by decide) (fun _ => ?_) (fun _ => ?_)
    · refine rb_TC.mono (rk_aload_n 0 d_Reader_readRuleLine_167 rfl rfl) ?_
      refine rt_gR r0 fw_Reader_32 d_Reader_readRuleLine_168 (fun r_32 => ?_)
      refine rb_TC.mono (rk_aload_n 0 d_Reader_readRuleLine_171 rfl rfl) ?_
      refine rt_gR r0 fw_Reader_20 d_Reader_readRuleLine_172 (fun r_33 => ?_)
      refine rb_TC.mono (rk_iconst (1 : Int32) d_Reader_readRuleLine_175 (by decide)) ?_
      refine rb_TC.mono (rk_aload_n 0 d_Reader_readRuleLine_176 rfl rfl) ?_
      refine rt_gR r0 fw_Reader_32 d_Reader_readRuleLine_177 (fun r_34 => ?_)
      refine rt_vI (As := []) (st := [.int (1 : Int32), va_rf r_33, va_rf r_32]) (r_34) vw_Reader_147 (s_Words_count (Nat.le_refl _) (r_34)  σ_31) (Nat.le_trans (by decide) hdd) rfl (by simp [rb_cat_r, rb_cat_i, rb_cat_l]) d_Reader_readRuleLine_180 (fun x_35 σ_36 => ?_)
      refine rt_vI (As := [va_rf r_33, .int (1 : Int32), .int x_35]) (st := []) (r_32) vw_Reader_174 (s_Words_meet (Nat.le_refl _) (r_32) (r_33) ((1 : Int32)) (x_35) σ_36) (Nat.le_trans (by decide) hdd) rfl (by simp [rb_cat_r, rb_cat_i, rb_cat_l]) d_Reader_readRuleLine_183 (fun x_37 σ_38 => ?_)
      refine rt_if_eq 202 d_Reader_readRuleLine_186 (by decide) (fun _ => ?_) (fun _ => ?_)
      · refine rb_TC.mono (rk_iconst (0 : Int32) d_Reader_readRuleLine_202 (by decide)) ?_
        exact rt_iret (ty := .boolean) rfl (by decide) (fun h => h) d_Reader_readRuleLine_203
      · refine rb_TC.mono (rk_aload_n 0 d_Reader_readRuleLine_189 rfl rfl) ?_
        refine rb_TC.mono (rk_aload d_Reader_readRuleLine_190 rfl) ?_
        refine rt_vI (As := [va_rf sr0]) (st := []) (r0) vw_Reader_178 (s_Reader_mark (Nat.le_refl _) (r0) (sr0) σ_38) (Nat.le_trans (by decide) hdd) rfl (by simp [rb_cat_r, rb_cat_i, rb_cat_l]) d_Reader_readRuleLine_192 (fun x_39 σ_40 => ?_)
        refine rt_if_eq 202 d_Reader_readRuleLine_195 (by decide) (fun _ => ?_) (fun _ => ?_)
        · refine rb_TC.mono (rk_iconst (0 : Int32) d_Reader_readRuleLine_202 (by decide)) ?_
          exact rt_iret (ty := .boolean) rfl (by decide) (fun h => h) d_Reader_readRuleLine_203
        · refine rb_TC.mono (rk_iconst (1 : Int32) d_Reader_readRuleLine_198 (by decide)) ?_
          refine rb_TC.mono (rk_goto 203 d_Reader_readRuleLine_199 (by decide)) ?_
          exact rt_iret (ty := .boolean) rfl (by decide) (fun h => h) d_Reader_readRuleLine_203
    · refine rb_TC.mono (rk_aload_n 0 d_Reader_readRuleLine_162 rfl rfl) ?_
      refine rt_vI (As := []) (st := []) (r0) vw_Reader_171 (s_Reader_readSuffixes (Nat.le_refl _) (r0)  σ_31) (Nat.le_trans (by decide) hdd) rfl (by simp [rb_cat_r, rb_cat_i, rb_cat_l]) d_Reader_readRuleLine_163 (fun x_41 σ_42 => ?_)
      refine rb_TC.ite (fun hn => ?_) (fun _ => rb_TC.none)
      exact rt_iret (ty := .boolean) rfl (rb_nar_Z hn) (fun h => h) d_Reader_readRuleLine_166
  refine rb_TC.ite (fun h_43 => ?_) (fun h_43 => ?_)
  · refine rb_TC.mono (rk_tabIn 228 d_Reader_readRuleLine_123 (by rw [h_43]; decide) (by rw [h_43]; decide) (by rw [h_43]; rfl) (by decide)) ?_
    refine rb_TC.mono (rk_aload_n 0 d_Reader_readRuleLine_228 rfl rfl) ?_
    refine rt_gR r0 fw_Reader_32 d_Reader_readRuleLine_229 (fun r_44 => ?_)
    refine rb_TC.mono (rk_aload_n 0 d_Reader_readRuleLine_232 rfl rfl) ?_
    refine rt_gR r0 fw_Reader_20 d_Reader_readRuleLine_233 (fun r_45 => ?_)
    refine rb_TC.mono (rk_iconst (0 : Int32) d_Reader_readRuleLine_236 (by decide)) ?_
    refine rb_TC.mono (rk_aload_n 0 d_Reader_readRuleLine_237 rfl rfl) ?_
    refine rt_gR r0 fw_Reader_32 d_Reader_readRuleLine_238 (fun r_46 => ?_)
    refine rt_vI (As := []) (st := [.int (0 : Int32), va_rf r_45, va_rf r_44]) (r_46) vw_Reader_147 (s_Words_count (Nat.le_refl _) (r_46)  σ_27) (Nat.le_trans (by decide) hdd) rfl (by simp [rb_cat_r, rb_cat_i, rb_cat_l]) d_Reader_readRuleLine_241 (fun x_47 σ_48 => ?_)
    refine rt_vI (As := [va_rf r_45, .int (0 : Int32), .int x_47]) (st := []) (r_44) vw_Reader_174 (s_Words_meet (Nat.le_refl _) (r_44) (r_45) ((0 : Int32)) (x_47) σ_48) (Nat.le_trans (by decide) hdd) rfl (by simp [rb_cat_r, rb_cat_i, rb_cat_l]) d_Reader_readRuleLine_244 (fun x_49 σ_50 => ?_)
    refine rt_if_eq 263 d_Reader_readRuleLine_247 (by decide) (fun _ => ?_) (fun _ => ?_)
    · refine rb_TC.mono (rk_iconst (0 : Int32) d_Reader_readRuleLine_263 (by decide)) ?_
      exact rt_iret (ty := .boolean) rfl (by decide) (fun h => h) d_Reader_readRuleLine_264
    · refine rb_TC.mono (rk_aload_n 0 d_Reader_readRuleLine_250 rfl rfl) ?_
      refine rb_TC.mono (rk_iload d_Reader_readRuleLine_251 rfl) ?_
      refine rt_vI (As := [.int x4]) (st := []) (r0) vw_Reader_184 (s_Reader_addRules (Nat.le_refl _) (r0) (x4) σ_50) (Nat.le_trans (by decide) hdd) rfl (by simp [rb_cat_r, rb_cat_i, rb_cat_l]) d_Reader_readRuleLine_253 (fun x_51 σ_52 => ?_)
      refine rt_if_eq 263 d_Reader_readRuleLine_256 (by decide) (fun _ => ?_) (fun _ => ?_)
      · refine rb_TC.mono (rk_iconst (0 : Int32) d_Reader_readRuleLine_263 (by decide)) ?_
        exact rt_iret (ty := .boolean) rfl (by decide) (fun h => h) d_Reader_readRuleLine_264
      · refine rb_TC.mono (rk_iconst (1 : Int32) d_Reader_readRuleLine_259 (by decide)) ?_
        refine rb_TC.mono (rk_goto 264 d_Reader_readRuleLine_260 (by decide)) ?_
        exact rt_iret (ty := .boolean) rfl (by decide) (fun h => h) d_Reader_readRuleLine_264
  refine rb_TC.ite (fun h_53 => ?_) (fun h_53 => ?_)
  · refine rb_TC.mono (rk_tabIn 221 d_Reader_readRuleLine_123 (by rw [h_53]; decide) (by rw [h_53]; decide) (by rw [h_53]; rfl) (by decide)) ?_
    refine rb_TC.mono (rk_aload_n 0 d_Reader_readRuleLine_221 rfl rfl) ?_
    refine rb_TC.mono (rk_aload d_Reader_readRuleLine_222 rfl) ?_
    refine rt_vI (As := [va_rf sr0]) (st := []) (r0) vw_Reader_181 (s_Reader_readEnding (Nat.le_refl _) (r0) (sr0) σ_27) (Nat.le_trans (by decide) hdd) rfl (by simp [rb_cat_r, rb_cat_i, rb_cat_l]) d_Reader_readRuleLine_224 (fun x_54 σ_55 => ?_)
    refine rb_TC.ite (fun hn => ?_) (fun _ => rb_TC.none)
    exact rt_iret (ty := .boolean) rfl (rb_nar_Z hn) (fun h => h) d_Reader_readRuleLine_227
  refine rb_TC.ite (fun h_56 => ?_) (fun h_56 => ?_)
  · refine rb_TC.mono (rk_tabIn 204 d_Reader_readRuleLine_123 (by rw [h_56]; decide) (by rw [h_56]; decide) (by rw [h_56]; rfl) (by decide)) ?_
    refine rb_TC.mono (rk_aload_n 0 d_Reader_readRuleLine_204 rfl rfl) ?_
    refine rt_gR r0 fw_Reader_32 d_Reader_readRuleLine_205 (fun r_57 => ?_)
    refine rt_vI (As := []) (st := []) (r_57) vw_Reader_147 (s_Words_count (Nat.le_refl _) (r_57)  σ_27) (Nat.le_trans (by decide) hdd) rfl (by simp [rb_cat_r, rb_cat_i, rb_cat_l]) d_Reader_readRuleLine_208 (fun x_58 σ_59 => ?_)
    refine rb_TC.mono (rk_iconst (1 : Int32) d_Reader_readRuleLine_211 (by decide)) ?_
    refine rt_icmp_ne 219 d_Reader_readRuleLine_212 (by decide) (fun _ => ?_) (fun _ => ?_)
    · refine rb_TC.mono (rk_iconst (1 : Int32) d_Reader_readRuleLine_215 (by decide)) ?_
      refine rb_TC.mono (rk_goto 220 d_Reader_readRuleLine_216 (by decide)) ?_
      exact rt_iret (ty := .boolean) rfl (by decide) (fun h => h) d_Reader_readRuleLine_220
    · refine rb_TC.mono (rk_iconst (0 : Int32) d_Reader_readRuleLine_219 (by decide)) ?_
      exact rt_iret (ty := .boolean) rfl (by decide) (fun h => h) d_Reader_readRuleLine_220
  have h_29 := rb_neI h_29
  rw [show ((1 : Int32)).toInt = 1 by decide] at h_29
  have h_43 := rb_neI h_43
  rw [show ((2 : Int32)).toInt = 2 by decide] at h_43
  have h_53 := rb_neI h_53
  rw [show ((3 : Int32)).toInt = 3 by decide] at h_53
  have h_56 := rb_neI h_56
  rw [show ((4 : Int32)).toInt = 4 by decide] at h_56
  refine rb_TC.mono (rk_tabOut 228 d_Reader_readRuleLine_123 (by omega) (by decide)) ?_
  refine rb_TC.mono (rk_aload_n 0 d_Reader_readRuleLine_228 rfl rfl) ?_
  refine rt_gR r0 fw_Reader_32 d_Reader_readRuleLine_229 (fun r_60 => ?_)
  refine rb_TC.mono (rk_aload_n 0 d_Reader_readRuleLine_232 rfl rfl) ?_
  refine rt_gR r0 fw_Reader_20 d_Reader_readRuleLine_233 (fun r_61 => ?_)
  refine rb_TC.mono (rk_iconst (0 : Int32) d_Reader_readRuleLine_236 (by decide)) ?_
  refine rb_TC.mono (rk_aload_n 0 d_Reader_readRuleLine_237 rfl rfl) ?_
  refine rt_gR r0 fw_Reader_32 d_Reader_readRuleLine_238 (fun r_62 => ?_)
  refine rt_vI (As := []) (st := [.int (0 : Int32), va_rf r_61, va_rf r_60]) (r_62) vw_Reader_147 (s_Words_count (Nat.le_refl _) (r_62)  σ_27) (Nat.le_trans (by decide) hdd) rfl (by simp [rb_cat_r, rb_cat_i, rb_cat_l]) d_Reader_readRuleLine_241 (fun x_63 σ_64 => ?_)
  refine rt_vI (As := [va_rf r_61, .int (0 : Int32), .int x_63]) (st := []) (r_60) vw_Reader_174 (s_Words_meet (Nat.le_refl _) (r_60) (r_61) ((0 : Int32)) (x_63) σ_64) (Nat.le_trans (by decide) hdd) rfl (by simp [rb_cat_r, rb_cat_i, rb_cat_l]) d_Reader_readRuleLine_244 (fun x_65 σ_66 => ?_)
  refine rt_if_eq 263 d_Reader_readRuleLine_247 (by decide) (fun _ => ?_) (fun _ => ?_)
  · refine rb_TC.mono (rk_iconst (0 : Int32) d_Reader_readRuleLine_263 (by decide)) ?_
    exact rt_iret (ty := .boolean) rfl (by decide) (fun h => h) d_Reader_readRuleLine_264
  · refine rb_TC.mono (rk_aload_n 0 d_Reader_readRuleLine_250 rfl rfl) ?_
    refine rb_TC.mono (rk_iload d_Reader_readRuleLine_251 rfl) ?_
    refine rt_vI (As := [.int x4]) (st := []) (r0) vw_Reader_184 (s_Reader_addRules (Nat.le_refl _) (r0) (x4) σ_66) (Nat.le_trans (by decide) hdd) rfl (by simp [rb_cat_r, rb_cat_i, rb_cat_l]) d_Reader_readRuleLine_253 (fun x_67 σ_68 => ?_)
    refine rt_if_eq 263 d_Reader_readRuleLine_256 (by decide) (fun _ => ?_) (fun _ => ?_)
    · refine rb_TC.mono (rk_iconst (0 : Int32) d_Reader_readRuleLine_263 (by decide)) ?_
      exact rt_iret (ty := .boolean) rfl (by decide) (fun h => h) d_Reader_readRuleLine_264
    · refine rb_TC.mono (rk_iconst (1 : Int32) d_Reader_readRuleLine_259 (by decide)) ?_
      refine rb_TC.mono (rk_goto 264 d_Reader_readRuleLine_260 (by decide)) ?_
      exact rt_iret (ty := .boolean) rfl (by decide) (fun h => h) d_Reader_readRuleLine_264
noncomputable def f_Reader_readRuleLine (r0 : Option Nat) (r1 : Option Nat) (σ : rb_St) : Option rb_Rs :=
  (rb_gR σ r0 8 2).bind fun r_1 => (rb_fc σ r_1 5).bind fun _ => rb_cI (f_Exp_expand (r_1) (r1) (none) σ) fun x_2 σ_3 => if x_2 = 0 then (some (some (.int (0 : Int32)), σ_3)) else ((rb_gR σ_3 r0 8 2).bind fun r_4 => (rb_gR σ_3 r_4 5 0).bind fun r_5 => (rb_fc σ_3 r_5 2).bind fun _ => rb_cI (f_Text_indexOf (r_5) ((58 : Int32)) σ_3) fun x_6 σ_7 => (rb_gR σ_7 r0 8 3).bind fun r_8 => (rb_fc σ_7 r_8 6).bind fun _ => rb_cV (f_Words_clear (r_8)  σ_7) fun σ_9 => (rb_gR σ_9 r0 8 3).bind fun r_10 => (rb_fc σ_9 r_10 6).bind fun _ => rb_cV (f_Words_addWords (r_10) ((0 : Int32)) (x_6) σ_9) fun σ_11 => (rb_gR σ_11 r0 8 3).bind fun r_12 => (rb_fc σ_11 r_12 6).bind fun _ => rb_cI (f_Words_count (r_12)  σ_11) fun x_13 σ_14 => if x_13 = 0 then (some (some (.int (0 : Int32)), σ_14)) else (rb_cI (f_Reader_isLastColon (r_5) (x_6) σ_14) fun x_15 σ_16 => if x_15 = 0 then (some (some (.int (0 : Int32)), σ_16)) else ((rb_gR σ_16 r0 8 3).bind fun r_17 => (rb_fc σ_16 r_5 2).bind fun _ => rb_cI (f_Text_length (r_5)  σ_16) fun x_18 σ_19 => (rb_fc σ_19 r_17 6).bind fun _ => rb_cV (f_Words_addWords (r_17) ((x_6 + (1 : Int32))) (x_18) σ_19) fun σ_20 => (rb_pI σ_20 r0 8 7 (-1 : Int32)).bind fun σ_21 => if x_13 = (1 : Int32) then ((rb_gR σ_21 r0 8 3).bind fun r_22 => (rb_fc σ_21 r_22 6).bind fun _ => rb_cR (f_Words_cut (r_22) ((0 : Int32)) σ_21) fun r_23 σ_24 => f_Reader_readRuleLine_j107 (r0) (x_13) (r_23) σ_24) else (f_Reader_readRuleLine_j107 (r0) (x_13) ((some (rb_k σ_21 0))) σ_21))))
theorem s_Reader_readRuleLine {E : rb_EV} {d : Nat} (hdd : 42 ≤ d) (r0 : Option Nat) (r1 : Option Nat) (σ : rb_St) : rb_Does E k_Reader_readRuleLine d [va_rf r0, va_rf r1] σ (f_Reader_readRuleLine r0 r1 σ) := by
  refine rb_start (lv := [some (va_rf r0), some (va_rf r1), none, none, none, none]) (by decide) (by simp [lg_sl, rb_as, lv_args, rb_cat_r, rb_cat_i, rb_cat_l, rb_nL, k_Reader_readRuleLine]) (fun res => ?_)
  unfold f_Reader_readRuleLine
  refine rb_TC.mono (rk_aload_n 0 d_Reader_readRuleLine_0 rfl rfl) ?_
  refine rt_gR r0 fw_Reader_28 d_Reader_readRuleLine_1 (fun r_1 => ?_)
  refine rb_TC.mono (rk_aload_n 1 d_Reader_readRuleLine_4 rfl rfl) ?_
  refine rb_TC.mono (rk_null d_Reader_readRuleLine_5) ?_
  refine rt_vI (As := [va_rf r1, va_rf none]) (st := []) (r_1) vw_Reader_134 (s_Exp_expand (Nat.le_refl _) (r_1) (r1) (none) σ) (Nat.le_trans (by decide) hdd) rfl (by simp [rb_cat_r, rb_cat_i, rb_cat_l]) d_Reader_readRuleLine_6 (fun x_2 σ_3 => ?_)
  refine rt_if_ne 14 d_Reader_readRuleLine_9 (by decide) (fun _ => ?_) (fun _ => ?_)
  · refine rb_TC.mono (rk_iconst (0 : Int32) d_Reader_readRuleLine_12 (by decide)) ?_
    exact rt_iret (ty := .boolean) rfl (by decide) (fun h => h) d_Reader_readRuleLine_13
  · refine rb_TC.mono (rk_aload_n 0 d_Reader_readRuleLine_14 rfl rfl) ?_
    refine rt_gR r0 fw_Reader_28 d_Reader_readRuleLine_15 (fun r_4 => ?_)
    refine rt_gR r_4 fw_Reader_138 d_Reader_readRuleLine_18 (fun r_5 => ?_)
    refine rb_TC.mono (rk_astore_n (lv2 := [some (va_rf r0), some (va_rf r1), some (va_rf r_5), none, none, none]) 2 d_Reader_readRuleLine_21 rfl (by decide) (fun _ => rb_one_r) rfl) ?_
    refine rb_TC.mono (rk_aload_n 2 d_Reader_readRuleLine_22 rfl rfl) ?_
    refine rb_TC.mono (rk_bipush (58 : Int32) d_Reader_readRuleLine_23 (by decide)) ?_
    refine rt_vI (As := [.int (58 : Int32)]) (st := []) (r_5) vw_Reader_80 (s_Text_indexOf (Nat.le_refl _) (r_5) ((58 : Int32)) σ_3) (Nat.le_trans (by decide) hdd) rfl (by simp [rb_cat_r, rb_cat_i, rb_cat_l]) d_Reader_readRuleLine_25 (fun x_6 σ_7 => ?_)
    refine rb_TC.mono (rk_istore_n (lv2 := [some (va_rf r0), some (va_rf r1), some (va_rf r_5), some (.int x_6), none, none]) 3 d_Reader_readRuleLine_28 rfl (by decide) (fun _ => rb_one_r) rfl) ?_
    refine rb_TC.mono (rk_aload_n 0 d_Reader_readRuleLine_29 rfl rfl) ?_
    refine rt_gR r0 fw_Reader_32 d_Reader_readRuleLine_30 (fun r_8 => ?_)
    refine rt_vV (As := []) (st := []) (r_8) vw_Reader_141 (s_Words_clear (Nat.le_refl _) (r_8)  σ_7) (Nat.le_trans (by decide) hdd) rfl (by simp [rb_cat_r, rb_cat_i, rb_cat_l]) d_Reader_readRuleLine_33 (fun σ_9 => ?_)
    refine rb_TC.mono (rk_aload_n 0 d_Reader_readRuleLine_36 rfl rfl) ?_
    refine rt_gR r0 fw_Reader_32 d_Reader_readRuleLine_37 (fun r_10 => ?_)
    refine rb_TC.mono (rk_iconst (0 : Int32) d_Reader_readRuleLine_40 (by decide)) ?_
    refine rb_TC.mono (rk_iload_n 3 d_Reader_readRuleLine_41 rfl rfl) ?_
    refine rt_vV (As := [.int (0 : Int32), .int x_6]) (st := []) (r_10) vw_Reader_144 (s_Words_addWords (Nat.le_refl _) (r_10) ((0 : Int32)) (x_6) σ_9) (Nat.le_trans (by decide) hdd) rfl (by simp [rb_cat_r, rb_cat_i, rb_cat_l]) d_Reader_readRuleLine_42 (fun σ_11 => ?_)
    refine rb_TC.mono (rk_aload_n 0 d_Reader_readRuleLine_45 rfl rfl) ?_
    refine rt_gR r0 fw_Reader_32 d_Reader_readRuleLine_46 (fun r_12 => ?_)
    refine rt_vI (As := []) (st := []) (r_12) vw_Reader_147 (s_Words_count (Nat.le_refl _) (r_12)  σ_11) (Nat.le_trans (by decide) hdd) rfl (by simp [rb_cat_r, rb_cat_i, rb_cat_l]) d_Reader_readRuleLine_49 (fun x_13 σ_14 => ?_)
    refine rb_TC.mono (rk_istore (lv2 := [some (va_rf r0), some (va_rf r1), some (va_rf r_5), some (.int x_6), some (.int x_13), none]) d_Reader_readRuleLine_52 (by decide) (fun _ => rb_one_i) rfl) ?_
    refine rb_TC.mono (rk_iload d_Reader_readRuleLine_54 rfl) ?_
    refine rt_if_eq 67 d_Reader_readRuleLine_56 (by decide) (fun _ => ?_) (fun _ => ?_)
    · refine rb_TC.mono (rk_iconst (0 : Int32) d_Reader_readRuleLine_67 (by decide)) ?_
      exact rt_iret (ty := .boolean) rfl (by decide) (fun h => h) d_Reader_readRuleLine_68
    · refine rb_TC.mono (rk_aload_n 2 d_Reader_readRuleLine_59 rfl rfl) ?_
      refine rb_TC.mono (rk_iload_n 3 d_Reader_readRuleLine_60 rfl rfl) ?_
      refine rt_sI (As := [va_rf r_5, .int x_6]) (st := []) sw_Reader_150 (s_Reader_isLastColon (Nat.le_refl _) (r_5) (x_6) σ_14) (Nat.le_trans (by decide) hdd) rfl (by simp [rb_cat_r, rb_cat_i, rb_cat_l]) d_Reader_readRuleLine_61 (fun x_15 σ_16 => ?_)
      refine rt_if_ne 69 d_Reader_readRuleLine_64 (by decide) (fun _ => ?_) (fun _ => ?_)
      · refine rb_TC.mono (rk_iconst (0 : Int32) d_Reader_readRuleLine_67 (by decide)) ?_
        exact rt_iret (ty := .boolean) rfl (by decide) (fun h => h) d_Reader_readRuleLine_68
      · refine rb_TC.mono (rk_aload_n 0 d_Reader_readRuleLine_69 rfl rfl) ?_
        refine rt_gR r0 fw_Reader_32 d_Reader_readRuleLine_70 (fun r_17 => ?_)
        refine rb_TC.mono (rk_iload_n 3 d_Reader_readRuleLine_73 rfl rfl) ?_
        refine rb_TC.mono (rk_iconst (1 : Int32) d_Reader_readRuleLine_74 (by decide)) ?_
        refine rb_TC.mono (rk_iadd d_Reader_readRuleLine_75) ?_
        refine rb_TC.mono (rk_aload_n 2 d_Reader_readRuleLine_76 rfl rfl) ?_
        refine rt_vI (As := []) (st := [.int (x_6 + (1 : Int32)), va_rf r_17]) (r_5) vw_Reader_42 (s_Text_length (Nat.le_refl _) (r_5)  σ_16) (Nat.le_trans (by decide) hdd) rfl (by simp [rb_cat_r, rb_cat_i, rb_cat_l]) d_Reader_readRuleLine_77 (fun x_18 σ_19 => ?_)
        refine rt_vV (As := [.int (x_6 + (1 : Int32)), .int x_18]) (st := []) (r_17) vw_Reader_144 (s_Words_addWords (Nat.le_refl _) (r_17) ((x_6 + (1 : Int32))) (x_18) σ_19) (Nat.le_trans (by decide) hdd) rfl (by simp [rb_cat_r, rb_cat_i, rb_cat_l]) d_Reader_readRuleLine_80 (fun σ_20 => ?_)
        refine rb_TC.mono (rk_aload_n 0 d_Reader_readRuleLine_83 rfl rfl) ?_
        refine rb_TC.mono (rk_iconst (-1 : Int32) d_Reader_readRuleLine_84 (by decide)) ?_
        refine rt_pI r0 fp_Reader_readRuleLine_107 d_Reader_readRuleLine_85 (fun σ_21 => ?_)
        refine rb_TC.mono (rk_iload d_Reader_readRuleLine_88 rfl) ?_
        refine rb_TC.mono (rk_iconst (1 : Int32) d_Reader_readRuleLine_90 (by decide)) ?_
        refine rt_icmp_ne 105 d_Reader_readRuleLine_91 (by decide) (fun _ => ?_) (fun _ => ?_)
        · refine rb_TC.mono (rk_aload_n 0 d_Reader_readRuleLine_94 rfl rfl) ?_
          refine rt_gR r0 fw_Reader_32 d_Reader_readRuleLine_95 (fun r_22 => ?_)
          refine rb_TC.mono (rk_iconst (0 : Int32) d_Reader_readRuleLine_98 (by decide)) ?_
          refine rt_vR (As := [.int (0 : Int32)]) (st := []) (r_22) vw_Reader_154 (s_Words_cut (Nat.le_refl _) (r_22) ((0 : Int32)) σ_21) (Nat.le_trans (by decide) hdd) rfl (by simp [rb_cat_r, rb_cat_i, rb_cat_l]) d_Reader_readRuleLine_99 (fun r_23 σ_24 => ?_)
          refine rb_TC.mono (rk_goto 107 d_Reader_readRuleLine_102 (by decide)) ?_
          refine rb_TC.mono (rk_less (lv2 := [some (va_rf r0), none, none, none, some (.int x_13), none]) (rb_le_ok (rb_leS (rb_leN (rb_leN (rb_leN (rb_leS (rb_leN rb_le0)))))))) ?_
          exact t_Reader_readRuleLine_j107 hdd  (r0) (x_13) (r_23) σ_24
        · refine rb_TC.mono (rk_ldcs (no := 0) (by decide) d_Reader_readRuleLine_105) ?_
          refine rb_TC.mono (rk_less (lv2 := [some (va_rf r0), none, none, none, some (.int x_13), none]) (rb_le_ok (rb_leS (rb_leN (rb_leN (rb_leN (rb_leS (rb_leN rb_le0)))))))) ?_
          exact t_Reader_readRuleLine_j107 hdd  (r0) (x_13) ((some (rb_k σ_21 0))) σ_21
-- ===== RuleBuilder$Reader.readLine()Z
def k_Reader_readLine : rb_MK := (⟨"RuleBuilder$Reader", "readLine", "()Z"⟩, prog_7_method_4_code, 5, some (.boolean))
theorem mw_Reader_readLine : rb_Mw k_Reader_readLine 0 := ⟨rb_inG 558 (by decide +kernel) rfl, rb_inG 92 (by decide +kernel) rfl, ⟨by decide, by decide, by decide +kernel⟩, by decide⟩
theorem sw_Reader_91 : rb_Sw "RuleBuilder$Reader" 91 k_Exp_isDefinition 3 := ⟨mw_Exp_isDefinition, rb_inG 710 (by decide +kernel) rfl, rb_inG 412 (by decide +kernel) rfl⟩
theorem vw_Reader_103 : rb_Vw "RuleBuilder$Reader" 103 k_Reader_readRuleLine 8 1 := ⟨mw_Reader_readRuleLine, rb_inG 715 (by decide +kernel) rfl, rb_inG 717 (by decide +kernel) rfl, rb_inG 4 (by decide +kernel) rfl, by decide, by decide, _, rfl, rfl⟩
theorem vw_Reader_77 : rb_Vw "RuleBuilder$Reader" 77 k_Reader_readCommandLine 8 0 := ⟨mw_Reader_readCommandLine, rb_inG 559 (by decide +kernel) rfl, rb_inG 561 (by decide +kernel) rfl, rb_inG 2 (by decide +kernel) rfl, by decide, by decide, _, rfl, rfl⟩
theorem vw_Reader_84 : rb_Vw "RuleBuilder$Reader" 84 k_Text_behindSpaces 2 2 := ⟨mw_Text_behindSpaces, rb_inG 701 (by decide +kernel) rfl, rb_inG 702 (by decide +kernel) rfl, rb_inG 703 (by decide +kernel) rfl, by decide, by decide, _, rfl, rfl⟩
theorem vw_Reader_88 : rb_Vw "RuleBuilder$Reader" 88 k_Text_beforeSpaces 2 2 := ⟨mw_Text_beforeSpaces, rb_inG 706 (by decide +kernel) rfl, rb_inG 707 (by decide +kernel) rfl, rb_inG 708 (by decide +kernel) rfl, by decide, by decide, _, rfl, rfl⟩
theorem vw_Reader_99 : rb_Vw "RuleBuilder$Reader" 99 k_Exp_define 5 2 := ⟨mw_Exp_define, rb_inG 711 (by decide +kernel) rfl, rb_inG 712 (by decide +kernel) rfl, rb_inG 713 (by decide +kernel) rfl, by decide, by decide, _, rfl, rfl⟩
theorem d_Reader_readLine_0 : decode prog_7_method_4_code 0 = .ok (.aload_n 0, 1) := by decide +kernel
theorem d_Reader_readLine_1 : decode prog_7_method_4_code 1 = .ok (.getfield 14, 3) := by decide +kernel
theorem d_Reader_readLine_4 : decode prog_7_method_4_code 4 = .ok (.iconst 0, 1) := by decide +kernel
theorem d_Reader_readLine_5 : decode prog_7_method_4_code 5 = .ok (.invokevirtual 46, 3) := by decide +kernel
theorem d_Reader_readLine_8 : decode prog_7_method_4_code 8 = .ok (.bipush 9, 2) := by decide +kernel
theorem d_Reader_readLine_10 : decode prog_7_method_4_code 10 = .ok (.if_icmp .ne 8, 3) := by decide +kernel
theorem d_Reader_readLine_13 : decode prog_7_method_4_code 13 = .ok (.aload_n 0, 1) := by decide +kernel
theorem d_Reader_readLine_14 : decode prog_7_method_4_code 14 = .ok (.invokevirtual 77, 3) := by decide +kernel
theorem d_Reader_readLine_17 : decode prog_7_method_4_code 17 = .ok (.ireturn, 1) := by decide +kernel
theorem d_Reader_readLine_18 : decode prog_7_method_4_code 18 = .ok (.aload_n 0, 1) := by decide +kernel
theorem d_Reader_readLine_19 : decode prog_7_method_4_code 19 = .ok (.getfield 14, 3) := by decide +kernel
theorem d_Reader_readLine_22 : decode prog_7_method_4_code 22 = .ok (.bipush 35, 2) := by decide +kernel
theorem d_Reader_readLine_24 : decode prog_7_method_4_code 24 = .ok (.invokevirtual 80, 3) := by decide +kernel
theorem d_Reader_readLine_27 : decode prog_7_method_4_code 27 = .ok (.istore_n 1, 1) := by decide +kernel
theorem d_Reader_readLine_28 : decode prog_7_method_4_code 28 = .ok (.aload_n 0, 1) := by decide +kernel
theorem d_Reader_readLine_29 : decode prog_7_method_4_code 29 = .ok (.getfield 14, 3) := by decide +kernel
theorem d_Reader_readLine_32 : decode prog_7_method_4_code 32 = .ok (.iconst 0, 1) := by decide +kernel
theorem d_Reader_readLine_33 : decode prog_7_method_4_code 33 = .ok (.iload_n 1, 1) := by decide +kernel
theorem d_Reader_readLine_34 : decode prog_7_method_4_code 34 = .ok (.invokevirtual 84, 3) := by decide +kernel
theorem d_Reader_readLine_37 : decode prog_7_method_4_code 37 = .ok (.istore_n 2, 1) := by decide +kernel
theorem d_Reader_readLine_38 : decode prog_7_method_4_code 38 = .ok (.aload_n 0, 1) := by decide +kernel
theorem d_Reader_readLine_39 : decode prog_7_method_4_code 39 = .ok (.getfield 14, 3) := by decide +kernel
theorem d_Reader_readLine_42 : decode prog_7_method_4_code 42 = .ok (.iload_n 2, 1) := by decide +kernel
theorem d_Reader_readLine_43 : decode prog_7_method_4_code 43 = .ok (.iload_n 1, 1) := by decide +kernel
theorem d_Reader_readLine_44 : decode prog_7_method_4_code 44 = .ok (.invokevirtual 88, 3) := by decide +kernel
theorem d_Reader_readLine_47 : decode prog_7_method_4_code 47 = .ok (.istore_n 3, 1) := by decide +kernel
theorem d_Reader_readLine_48 : decode prog_7_method_4_code 48 = .ok (.iload_n 2, 1) := by decide +kernel
theorem d_Reader_readLine_49 : decode prog_7_method_4_code 49 = .ok (.iload_n 3, 1) := by decide +kernel
theorem d_Reader_readLine_50 : decode prog_7_method_4_code 50 = .ok (.if_icmp .ne 5, 3) := by decide +kernel
theorem d_Reader_readLine_53 : decode prog_7_method_4_code 53 = .ok (.iconst 1, 1) := by decide +kernel
theorem d_Reader_readLine_54 : decode prog_7_method_4_code 54 = .ok (.ireturn, 1) := by decide +kernel
theorem d_Reader_readLine_55 : decode prog_7_method_4_code 55 = .ok (.aload_n 0, 1) := by decide +kernel
theorem d_Reader_readLine_56 : decode prog_7_method_4_code 56 = .ok (.getfield 14, 3) := by decide +kernel
theorem d_Reader_readLine_59 : decode prog_7_method_4_code 59 = .ok (.iload_n 2, 1) := by decide +kernel
theorem d_Reader_readLine_60 : decode prog_7_method_4_code 60 = .ok (.iload_n 3, 1) := by decide +kernel
theorem d_Reader_readLine_61 : decode prog_7_method_4_code 61 = .ok (.invokestatic 91, 3) := by decide +kernel
theorem d_Reader_readLine_64 : decode prog_7_method_4_code 64 = .ok (.ifCond .eq 43, 3) := by decide +kernel
theorem d_Reader_readLine_67 : decode prog_7_method_4_code 67 = .ok (.aload_n 0, 1) := by decide +kernel
theorem d_Reader_readLine_68 : decode prog_7_method_4_code 68 = .ok (.getfield 14, 3) := by decide +kernel
theorem d_Reader_readLine_71 : decode prog_7_method_4_code 71 = .ok (.iload_n 2, 1) := by decide +kernel
theorem d_Reader_readLine_72 : decode prog_7_method_4_code 72 = .ok (.iconst 2, 1) := by decide +kernel
theorem d_Reader_readLine_73 : decode prog_7_method_4_code 73 = .ok (.iadd, 1) := by decide +kernel
theorem d_Reader_readLine_74 : decode prog_7_method_4_code 74 = .ok (.iload_n 3, 1) := by decide +kernel
theorem d_Reader_readLine_75 : decode prog_7_method_4_code 75 = .ok (.invokevirtual 84, 3) := by decide +kernel
theorem d_Reader_readLine_78 : decode prog_7_method_4_code 78 = .ok (.istore 4, 2) := by decide +kernel
theorem d_Reader_readLine_80 : decode prog_7_method_4_code 80 = .ok (.aload_n 0, 1) := by decide +kernel
theorem d_Reader_readLine_81 : decode prog_7_method_4_code 81 = .ok (.getfield 28, 3) := by decide +kernel
theorem d_Reader_readLine_84 : decode prog_7_method_4_code 84 = .ok (.aload_n 0, 1) := by decide +kernel
theorem d_Reader_readLine_85 : decode prog_7_method_4_code 85 = .ok (.getfield 14, 3) := by decide +kernel
theorem d_Reader_readLine_88 : decode prog_7_method_4_code 88 = .ok (.iload_n 2, 1) := by decide +kernel
theorem d_Reader_readLine_89 : decode prog_7_method_4_code 89 = .ok (.invokevirtual 46, 3) := by decide +kernel
theorem d_Reader_readLine_92 : decode prog_7_method_4_code 92 = .ok (.aload_n 0, 1) := by decide +kernel
theorem d_Reader_readLine_93 : decode prog_7_method_4_code 93 = .ok (.getfield 14, 3) := by decide +kernel
theorem d_Reader_readLine_96 : decode prog_7_method_4_code 96 = .ok (.iload 4, 2) := by decide +kernel
theorem d_Reader_readLine_98 : decode prog_7_method_4_code 98 = .ok (.iload_n 3, 1) := by decide +kernel
theorem d_Reader_readLine_99 : decode prog_7_method_4_code 99 = .ok (.invokevirtual 95, 3) := by decide +kernel
theorem d_Reader_readLine_102 : decode prog_7_method_4_code 102 = .ok (.invokevirtual 99, 3) := by decide +kernel
theorem d_Reader_readLine_105 : decode prog_7_method_4_code 105 = .ok (.iconst 1, 1) := by decide +kernel
theorem d_Reader_readLine_106 : decode prog_7_method_4_code 106 = .ok (.ireturn, 1) := by decide +kernel
theorem d_Reader_readLine_107 : decode prog_7_method_4_code 107 = .ok (.aload_n 0, 1) := by decide +kernel
theorem d_Reader_readLine_108 : decode prog_7_method_4_code 108 = .ok (.aload_n 0, 1) := by decide +kernel
theorem d_Reader_readLine_109 : decode prog_7_method_4_code 109 = .ok (.getfield 14, 3) := by decide +kernel
theorem d_Reader_readLine_112 : decode prog_7_method_4_code 112 = .ok (.iload_n 2, 1) := by decide +kernel
theorem d_Reader_readLine_113 : decode prog_7_method_4_code 113 = .ok (.iload_n 3, 1) := by decide +kernel
theorem d_Reader_readLine_114 : decode prog_7_method_4_code 114 = .ok (.invokevirtual 95, 3) := by decide +kernel
theorem d_Reader_readLine_117 : decode prog_7_method_4_code 117 = .ok (.invokevirtual 103, 3) := by decide +kernel
theorem d_Reader_readLine_120 : decode prog_7_method_4_code 120 = .ok (.ireturn, 1) := by decide +kernel
noncomputable def f_Reader_readLine (r0 : Option Nat) (σ : rb_St) : Option rb_Rs :=
  (rb_gR σ r0 8 4).bind fun r_1 => (rb_fc σ r_1 2).bind fun _ => rb_cI (f_Text_at (r_1) ((0 : Int32)) σ) fun x_2 σ_3 => if x_2 = (9 : Int32) then ((rb_fc σ_3 r0 8).bind fun _ => rb_cI (f_Reader_readCommandLine (r0)  σ_3) fun x_4 σ_5 => if rb_isZ x_4 then some (some (.int x_4), σ_5) else none) else ((rb_gR σ_3 r0 8 4).bind fun r_6 => (rb_fc σ_3 r_6 2).bind fun _ => rb_cI (f_Text_indexOf (r_6) ((35 : Int32)) σ_3) fun x_7 σ_8 => (rb_gR σ_8 r0 8 4).bind fun r_9 => (rb_fc σ_8 r_9 2).bind fun _ => rb_cI (f_Text_behindSpaces (r_9) ((0 : Int32)) (x_7) σ_8) fun x_10 σ_11 => (rb_gR σ_11 r0 8 4).bind fun r_12 => (rb_fc σ_11 r_12 2).bind fun _ => rb_cI (f_Text_beforeSpaces (r_12) (x_10) (x_7) σ_11) fun x_13 σ_14 => if x_10 = x_13 then (some (some (.int (1 : Int32)), σ_14)) else ((rb_gR σ_14 r0 8 4).bind fun r_15 => rb_cI (f_Exp_isDefinition (r_15) (x_10) (x_13) σ_14) fun x_16 σ_17 => if x_16 = 0 then ((rb_gR σ_17 r0 8 4).bind fun r_18 => (rb_fc σ_17 r_18 2).bind fun _ => rb_cR (f_Text_cut (r_18) (x_10) (x_13) σ_17) fun r_19 σ_20 => (rb_fc σ_20 r0 8).bind fun _ => rb_cI (f_Reader_readRuleLine (r0) (r_19) σ_20) fun x_21 σ_22 => if rb_isZ x_21 then some (some (.int x_21), σ_22) else none) else ((rb_gR σ_17 r0 8 4).bind fun r_23 => (rb_fc σ_17 r_23 2).bind fun _ => rb_cI (f_Text_behindSpaces (r_23) ((x_10 + (2 : Int32))) (x_13) σ_17) fun x_24 σ_25 => (rb_gR σ_25 r0 8 2).bind fun r_26 => (rb_gR σ_25 r0 8 4).bind fun r_27 => (rb_fc σ_25 r_27 2).bind fun _ => rb_cI (f_Text_at (r_27) (x_10) σ_25) fun x_28 σ_29 => (rb_gR σ_29 r0 8 4).bind fun r_30 => (rb_fc σ_29 r_30 2).bind fun _ => rb_cR (f_Text_cut (r_30) (x_24) (x_13) σ_29) fun r_31 σ_32 => (rb_fc σ_32 r_26 5).bind fun _ => rb_cV (f_Exp_define (r_26) (x_28) (r_31) σ_32) fun σ_33 => some (some (.int (1 : Int32)), σ_33))))
theorem s_Reader_readLine {E : rb_EV} {d : Nat} (hdd : 43 ≤ d) (r0 : Option Nat) (σ : rb_St) : rb_Does E k_Reader_readLine d [va_rf r0] σ (f_Reader_readLine r0 σ) := by
  refine rb_start (lv := [some (va_rf r0), none, none, none, none]) (by decide) (by simp [lg_sl, rb_as, lv_args, rb_cat_r, rb_cat_i, rb_cat_l, rb_nL, k_Reader_readLine]) (fun res => ?_)
  unfold f_Reader_readLine
  refine rb_TC.mono (rk_aload_n 0 d_Reader_readLine_0 rfl rfl) ?_
  refine rt_gR r0 fw_Reader_14 d_Reader_readLine_1 (fun r_1 => ?_)
  refine rb_TC.mono (rk_iconst (0 : Int32) d_Reader_readLine_4 (by decide)) ?_
  refine rt_vI (As := [.int (0 : Int32)]) (st := []) (r_1) vw_Reader_46 (s_Text_at (Nat.le_refl _) (r_1) ((0 : Int32)) σ) (Nat.le_trans (by decide) hdd) rfl (by simp [rb_cat_r, rb_cat_i, rb_cat_l]) d_Reader_readLine_5 (fun x_2 σ_3 => ?_)
  refine rb_TC.mono (rk_bipush (9 : Int32) d_Reader_readLine_8 (by decide)) ?_
  refine rt_icmp_ne 18 d_Reader_readLine_10 (by decide) (fun _ => ?_) (fun _ => ?_)
  · refine rb_TC.mono (rk_aload_n 0 d_Reader_readLine_13 rfl rfl) ?_
    refine rt_vI (As := []) (st := []) (r0) vw_Reader_77 (s_Reader_readCommandLine (Nat.le_refl _) (r0)  σ_3) (Nat.le_trans (by decide) hdd) rfl (by simp [rb_cat_r, rb_cat_i, rb_cat_l]) d_Reader_readLine_14 (fun x_4 σ_5 => ?_)
    refine rb_TC.ite (fun hn => ?_) (fun _ => rb_TC.none)
    exact rt_iret (ty := .boolean) rfl (rb_nar_Z hn) (fun h => h) d_Reader_readLine_17
  · refine rb_TC.mono (rk_aload_n 0 d_Reader_readLine_18 rfl rfl) ?_
    refine rt_gR r0 fw_Reader_14 d_Reader_readLine_19 (fun r_6 => ?_)
    refine rb_TC.mono (rk_bipush (35 : Int32) d_Reader_readLine_22 (by decide)) ?_
    refine rt_vI (As := [.int (35 : Int32)]) (st := []) (r_6) vw_Reader_80 (s_Text_indexOf (Nat.le_refl _) (r_6) ((35 : Int32)) σ_3) (Nat.le_trans (by decide) hdd) rfl (by simp [rb_cat_r, rb_cat_i, rb_cat_l]) d_Reader_readLine_24 (fun x_7 σ_8 => ?_)
    refine rb_TC.mono (rk_istore_n (lv2 := [some (va_rf r0), some (.int x_7), none, none, none]) 1 d_Reader_readLine_27 rfl (by decide) (fun _ => rb_one_r) rfl) ?_
    refine rb_TC.mono (rk_aload_n 0 d_Reader_readLine_28 rfl rfl) ?_
    refine rt_gR r0 fw_Reader_14 d_Reader_readLine_29 (fun r_9 => ?_)
    refine rb_TC.mono (rk_iconst (0 : Int32) d_Reader_readLine_32 (by decide)) ?_
    refine rb_TC.mono (rk_iload_n 1 d_Reader_readLine_33 rfl rfl) ?_
    refine rt_vI (As := [.int (0 : Int32), .int x_7]) (st := []) (r_9) vw_Reader_84 (s_Text_behindSpaces (Nat.le_refl _) (r_9) ((0 : Int32)) (x_7) σ_8) (Nat.le_trans (by decide) hdd) rfl (by simp [rb_cat_r, rb_cat_i, rb_cat_l]) d_Reader_readLine_34 (fun x_10 σ_11 => ?_)
    refine rb_TC.mono (rk_istore_n (lv2 := [some (va_rf r0), some (.int x_7), some (.int x_10), none, none]) 2 d_Reader_readLine_37 rfl (by decide) (fun _ => rb_one_i) rfl) ?_
    refine rb_TC.mono (rk_aload_n 0 d_Reader_readLine_38 rfl rfl) ?_
    refine rt_gR r0 fw_Reader_14 d_Reader_readLine_39 (fun r_12 => ?_)
    refine rb_TC.mono (rk_iload_n 2 d_Reader_readLine_42 rfl rfl) ?_
    refine rb_TC.mono (rk_iload_n 1 d_Reader_readLine_43 rfl rfl) ?_
    refine rt_vI (As := [.int x_10, .int x_7]) (st := []) (r_12) vw_Reader_88 (s_Text_beforeSpaces (Nat.le_refl _) (r_12) (x_10) (x_7) σ_11) (Nat.le_trans (by decide) hdd) rfl (by simp [rb_cat_r, rb_cat_i, rb_cat_l]) d_Reader_readLine_44 (fun x_13 σ_14 => ?_)
    refine rb_TC.mono (rk_istore_n (lv2 := [some (va_rf r0), some (.int x_7), some (.int x_10), some (.int x_13), none]) 3 d_Reader_readLine_47 rfl (by decide) (fun _ => rb_one_i) rfl) ?_
    refine rb_TC.mono (rk_iload_n 2 d_Reader_readLine_48 rfl rfl) ?_
    refine rb_TC.mono (rk_iload_n 3 d_Reader_readLine_49 rfl rfl) ?_
    refine rt_icmp_ne 55 d_Reader_readLine_50 (by decide) (fun _ => ?_) (fun _ => ?_)
    · refine rb_TC.mono (rk_iconst (1 : Int32) d_Reader_readLine_53 (by decide)) ?_
      exact rt_iret (ty := .boolean) rfl (by decide) (fun h => h) d_Reader_readLine_54
    · refine rb_TC.mono (rk_aload_n 0 d_Reader_readLine_55 rfl rfl) ?_
      refine rt_gR r0 fw_Reader_14 d_Reader_readLine_56 (fun r_15 => ?_)
      refine rb_TC.mono (rk_iload_n 2 d_Reader_readLine_59 rfl rfl) ?_
      refine rb_TC.mono (rk_iload_n 3 d_Reader_readLine_60 rfl rfl) ?_
      refine rt_sI (As := [va_rf r_15, .int x_10, .int x_13]) (st := []) sw_Reader_91 (s_Exp_isDefinition (Nat.le_refl _) (r_15) (x_10) (x_13) σ_14) (Nat.le_trans (by decide) hdd) rfl (by simp [rb_cat_r, rb_cat_i, rb_cat_l]) d_Reader_readLine_61 (fun x_16 σ_17 => ?_)
      refine rt_if_eq 107 d_Reader_readLine_64 (by decide) (fun _ => ?_) (fun _ => ?_)
      · refine rb_TC.mono (rk_aload_n 0 d_Reader_readLine_107 rfl rfl) ?_
        refine rb_TC.mono (rk_aload_n 0 d_Reader_readLine_108 rfl rfl) ?_
        refine rt_gR r0 fw_Reader_14 d_Reader_readLine_109 (fun r_18 => ?_)
        refine rb_TC.mono (rk_iload_n 2 d_Reader_readLine_112 rfl rfl) ?_
        refine rb_TC.mono (rk_iload_n 3 d_Reader_readLine_113 rfl rfl) ?_
        refine rt_vR (As := [.int x_10, .int x_13]) (st := [va_rf r0]) (r_18) vw_Reader_95 (s_Text_cut (Nat.le_refl _) (r_18) (x_10) (x_13) σ_17) (Nat.le_trans (by decide) hdd) rfl (by simp [rb_cat_r, rb_cat_i, rb_cat_l]) d_Reader_readLine_114 (fun r_19 σ_20 => ?_)
        refine rt_vI (As := [va_rf r_19]) (st := []) (r0) vw_Reader_103 (s_Reader_readRuleLine (Nat.le_refl _) (r0) (r_19) σ_20) (Nat.le_trans (by decide) hdd) rfl (by simp [rb_cat_r, rb_cat_i, rb_cat_l]) d_Reader_readLine_117 (fun x_21 σ_22 => ?_)
        refine rb_TC.ite (fun hn => ?_) (fun _ => rb_TC.none)
        exact rt_iret (ty := .boolean) rfl (rb_nar_Z hn) (fun h => h) d_Reader_readLine_120
      · refine rb_TC.mono (rk_aload_n 0 d_Reader_readLine_67 rfl rfl) ?_
        refine rt_gR r0 fw_Reader_14 d_Reader_readLine_68 (fun r_23 => ?_)
        refine rb_TC.mono (rk_iload_n 2 d_Reader_readLine_71 rfl rfl) ?_
        refine rb_TC.mono (rk_iconst (2 : Int32) d_Reader_readLine_72 (by decide)) ?_
        refine rb_TC.mono (rk_iadd d_Reader_readLine_73) ?_
        refine rb_TC.mono (rk_iload_n 3 d_Reader_readLine_74 rfl rfl) ?_
        refine rt_vI (As := [.int (x_10 + (2 : Int32)), .int x_13]) (st := []) (r_23) vw_Reader_84 (s_Text_behindSpaces (Nat.le_refl _) (r_23) ((x_10 + (2 : Int32))) (x_13) σ_17) (Nat.le_trans (by decide) hdd) rfl (by simp [rb_cat_r, rb_cat_i, rb_cat_l]) d_Reader_readLine_75 (fun x_24 σ_25 => ?_)
        refine rb_TC.mono (rk_istore (lv2 := [some (va_rf r0), some (.int x_7), some (.int x_10), some (.int x_13), some (.int x_24)]) d_Reader_readLine_78 (by decide) (fun _ => rb_one_i) rfl) ?_
        refine rb_TC.mono (rk_aload_n 0 d_Reader_readLine_80 rfl rfl) ?_
        refine rt_gR r0 fw_Reader_28 d_Reader_readLine_81 (fun r_26 => ?_)
        refine rb_TC.mono (rk_aload_n 0 d_Reader_readLine_84 rfl rfl) ?_
        refine rt_gR r0 fw_Reader_14 d_Reader_readLine_85 (fun r_27 => ?_)
        refine rb_TC.mono (rk_iload_n 2 d_Reader_readLine_88 rfl rfl) ?_
        refine rt_vI (As := [.int x_10]) (st := [va_rf r_26]) (r_27) vw_Reader_46 (s_Text_at (Nat.le_refl _) (r_27) (x_10) σ_25) (Nat.le_trans (by decide) hdd) rfl (by simp [rb_cat_r, rb_cat_i, rb_cat_l]) d_Reader_readLine_89 (fun x_28 σ_29 => ?_)
        refine rb_TC.mono (rk_aload_n 0 d_Reader_readLine_92 rfl rfl) ?_
        refine rt_gR r0 fw_Reader_14 d_Reader_readLine_93 (fun r_30 => ?_)
        refine rb_TC.mono (rk_iload d_Reader_readLine_96 rfl) ?_
        refine rb_TC.mono (rk_iload_n 3 d_Reader_readLine_98 rfl rfl) ?_
        refine rt_vR (As := [.int x_24, .int x_13]) (st := [.int x_28, va_rf r_26]) (r_30) vw_Reader_95 (s_Text_cut (Nat.le_refl _) (r_30) (x_24) (x_13) σ_29) (Nat.le_trans (by decide) hdd) rfl (by simp [rb_cat_r, rb_cat_i, rb_cat_l]) d_Reader_readLine_99 (fun r_31 σ_32 => ?_)
        refine rt_vV (As := [.int x_28, va_rf r_31]) (st := []) (r_26) vw_Reader_99 (s_Exp_define (Nat.le_refl _) (r_26) (x_28) (r_31) σ_32) (Nat.le_trans (by decide) hdd) rfl (by simp [rb_cat_r, rb_cat_i, rb_cat_l]) d_Reader_readLine_102 (fun σ_33 => ?_)
        refine rb_TC.mono (rk_iconst (1 : Int32) d_Reader_readLine_105 (by decide)) ?_
        exact rt_iret (ty := .boolean) rfl (by decide) (fun h => h) d_Reader_readLine_106
-- ===== RuleBuilder$Reader.read(LRuleBuilder$Text;)I
def k_Reader_read : rb_MK := (⟨"RuleBuilder$Reader", "read", "(LRuleBuilder$Text;)I"⟩, prog_7_method_2_code, 5, some (.int))
theorem mw_Reader_read : rb_Mw k_Reader_read 1 := ⟨rb_inG 530 (by decide +kernel) rfl, rb_inG 92 (by decide +kernel) rfl, ⟨by decide, by decide, by decide +kernel⟩, by decide⟩
theorem vw_Reader_36 : rb_Vw "RuleBuilder$Reader" 36 k_Reader_forgetAll 8 0 := ⟨mw_Reader_forgetAll, rb_inG 531 (by decide +kernel) rfl, rb_inG 533 (by decide +kernel) rfl, rb_inG 0 (by decide +kernel) rfl, by decide, by decide, _, rfl, rfl⟩
theorem vw_Reader_39 : rb_Vw "RuleBuilder$Reader" 39 k_Text_clear 2 0 := ⟨mw_Text_clear, rb_inG 551 (by decide +kernel) rfl, rb_inG 400 (by decide +kernel) rfl, rb_inG 401 (by decide +kernel) rfl, by decide, by decide, _, rfl, rfl⟩
theorem vw_Reader_50 : rb_Vw "RuleBuilder$Reader" 50 k_Text_add 2 1 := ⟨mw_Text_add, rb_inG 554 (by decide +kernel) rfl, rb_inG 392 (by decide +kernel) rfl, rb_inG 393 (by decide +kernel) rfl, by decide, by decide, _, rfl, rfl⟩
theorem vw_Reader_54 : rb_Vw "RuleBuilder$Reader" 54 k_Reader_readLine 8 0 := ⟨mw_Reader_readLine, rb_inG 555 (by decide +kernel) rfl, rb_inG 557 (by decide +kernel) rfl, rb_inG 1 (by decide +kernel) rfl, by decide, by decide, _, rfl, rfl⟩
theorem d_Reader_read_0 : decode prog_7_method_2_code 0 = .ok (.aload_n 0, 1) := by decide +kernel
theorem d_Reader_read_1 : decode prog_7_method_2_code 1 = .ok (.invokevirtual 36, 3) := by decide +kernel
theorem d_Reader_read_4 : decode prog_7_method_2_code 4 = .ok (.iconst 0, 1) := by decide +kernel
theorem d_Reader_read_5 : decode prog_7_method_2_code 5 = .ok (.istore_n 2, 1) := by decide +kernel
theorem d_Reader_read_6 : decode prog_7_method_2_code 6 = .ok (.iconst 1, 1) := by decide +kernel
theorem d_Reader_read_7 : decode prog_7_method_2_code 7 = .ok (.istore_n 3, 1) := by decide +kernel
theorem d_Reader_read_8 : decode prog_7_method_2_code 8 = .ok (.aload_n 0, 1) := by decide +kernel
theorem d_Reader_read_9 : decode prog_7_method_2_code 9 = .ok (.getfield 14, 3) := by decide +kernel
theorem d_Reader_read_12 : decode prog_7_method_2_code 12 = .ok (.invokevirtual 39, 3) := by decide +kernel
theorem d_Reader_read_15 : decode prog_7_method_2_code 15 = .ok (.iconst 0, 1) := by decide +kernel
theorem d_Reader_read_16 : decode prog_7_method_2_code 16 = .ok (.istore 4, 2) := by decide +kernel
theorem d_Reader_read_18 : decode prog_7_method_2_code 18 = .ok (.iload 4, 2) := by decide +kernel
theorem d_Reader_read_20 : decode prog_7_method_2_code 20 = .ok (.aload_n 1, 1) := by decide +kernel
theorem d_Reader_read_21 : decode prog_7_method_2_code 21 = .ok (.invokevirtual 42, 3) := by decide +kernel
theorem d_Reader_read_24 : decode prog_7_method_2_code 24 = .ok (.if_icmp .gt 117, 3) := by decide +kernel
theorem d_Reader_read_27 : decode prog_7_method_2_code 27 = .ok (.aload_n 1, 1) := by decide +kernel
theorem d_Reader_read_28 : decode prog_7_method_2_code 28 = .ok (.iload 4, 2) := by decide +kernel
theorem d_Reader_read_30 : decode prog_7_method_2_code 30 = .ok (.invokevirtual 46, 3) := by decide +kernel
theorem d_Reader_read_33 : decode prog_7_method_2_code 33 = .ok (.bipush 92, 2) := by decide +kernel
theorem d_Reader_read_35 : decode prog_7_method_2_code 35 = .ok (.if_icmp .ne 35, 3) := by decide +kernel
theorem d_Reader_read_38 : decode prog_7_method_2_code 38 = .ok (.aload_n 1, 1) := by decide +kernel
theorem d_Reader_read_39 : decode prog_7_method_2_code 39 = .ok (.iload 4, 2) := by decide +kernel
theorem d_Reader_read_41 : decode prog_7_method_2_code 41 = .ok (.iconst 1, 1) := by decide +kernel
theorem d_Reader_read_42 : decode prog_7_method_2_code 42 = .ok (.iadd, 1) := by decide +kernel
theorem d_Reader_read_43 : decode prog_7_method_2_code 43 = .ok (.invokevirtual 46, 3) := by decide +kernel
theorem d_Reader_read_46 : decode prog_7_method_2_code 46 = .ok (.bipush 10, 2) := by decide +kernel
theorem d_Reader_read_48 : decode prog_7_method_2_code 48 = .ok (.if_icmp .ne 22, 3) := by decide +kernel
theorem d_Reader_read_51 : decode prog_7_method_2_code 51 = .ok (.aload_n 0, 1) := by decide +kernel
theorem d_Reader_read_52 : decode prog_7_method_2_code 52 = .ok (.getfield 14, 3) := by decide +kernel
theorem d_Reader_read_55 : decode prog_7_method_2_code 55 = .ok (.bipush 32, 2) := by decide +kernel
theorem d_Reader_read_57 : decode prog_7_method_2_code 57 = .ok (.invokevirtual 50, 3) := by decide +kernel
theorem d_Reader_read_60 : decode prog_7_method_2_code 60 = .ok (.pop, 1) := by decide +kernel
theorem d_Reader_read_61 : decode prog_7_method_2_code 61 = .ok (.iinc 2 1, 3) := by decide +kernel
theorem d_Reader_read_64 : decode prog_7_method_2_code 64 = .ok (.iinc 4 1, 3) := by decide +kernel
theorem d_Reader_read_67 : decode prog_7_method_2_code 67 = .ok (.goto 68, 3) := by decide +kernel
theorem d_Reader_read_70 : decode prog_7_method_2_code 70 = .ok (.iload 4, 2) := by decide +kernel
theorem d_Reader_read_72 : decode prog_7_method_2_code 72 = .ok (.aload_n 1, 1) := by decide +kernel
theorem d_Reader_read_73 : decode prog_7_method_2_code 73 = .ok (.invokevirtual 42, 3) := by decide +kernel
theorem d_Reader_read_76 : decode prog_7_method_2_code 76 = .ok (.if_icmp .ge 31, 3) := by decide +kernel
theorem d_Reader_read_79 : decode prog_7_method_2_code 79 = .ok (.aload_n 1, 1) := by decide +kernel
theorem d_Reader_read_80 : decode prog_7_method_2_code 80 = .ok (.iload 4, 2) := by decide +kernel
theorem d_Reader_read_82 : decode prog_7_method_2_code 82 = .ok (.invokevirtual 46, 3) := by decide +kernel
theorem d_Reader_read_85 : decode prog_7_method_2_code 85 = .ok (.bipush 10, 2) := by decide +kernel
theorem d_Reader_read_87 : decode prog_7_method_2_code 87 = .ok (.if_icmp .eq 20, 3) := by decide +kernel
theorem d_Reader_read_90 : decode prog_7_method_2_code 90 = .ok (.aload_n 0, 1) := by decide +kernel
theorem d_Reader_read_91 : decode prog_7_method_2_code 91 = .ok (.getfield 14, 3) := by decide +kernel
theorem d_Reader_read_94 : decode prog_7_method_2_code 94 = .ok (.aload_n 1, 1) := by decide +kernel
theorem d_Reader_read_95 : decode prog_7_method_2_code 95 = .ok (.iload 4, 2) := by decide +kernel
theorem d_Reader_read_97 : decode prog_7_method_2_code 97 = .ok (.invokevirtual 46, 3) := by decide +kernel
theorem d_Reader_read_100 : decode prog_7_method_2_code 100 = .ok (.invokevirtual 50, 3) := by decide +kernel
theorem d_Reader_read_103 : decode prog_7_method_2_code 103 = .ok (.pop, 1) := by decide +kernel
theorem d_Reader_read_104 : decode prog_7_method_2_code 104 = .ok (.goto 31, 3) := by decide +kernel
theorem d_Reader_read_107 : decode prog_7_method_2_code 107 = .ok (.aload_n 0, 1) := by decide +kernel
theorem d_Reader_read_108 : decode prog_7_method_2_code 108 = .ok (.invokevirtual 54, 3) := by decide +kernel
theorem d_Reader_read_111 : decode prog_7_method_2_code 111 = .ok (.ifCond .ne 10, 3) := by decide +kernel
theorem d_Reader_read_114 : decode prog_7_method_2_code 114 = .ok (.aload_n 0, 1) := by decide +kernel
theorem d_Reader_read_115 : decode prog_7_method_2_code 115 = .ok (.invokevirtual 36, 3) := by decide +kernel
theorem d_Reader_read_118 : decode prog_7_method_2_code 118 = .ok (.iload_n 3, 1) := by decide +kernel
theorem d_Reader_read_119 : decode prog_7_method_2_code 119 = .ok (.ineg, 1) := by decide +kernel
theorem d_Reader_read_120 : decode prog_7_method_2_code 120 = .ok (.ireturn, 1) := by decide +kernel
theorem d_Reader_read_121 : decode prog_7_method_2_code 121 = .ok (.iinc 2 1, 3) := by decide +kernel
theorem d_Reader_read_124 : decode prog_7_method_2_code 124 = .ok (.iload_n 2, 1) := by decide +kernel
theorem d_Reader_read_125 : decode prog_7_method_2_code 125 = .ok (.iconst 1, 1) := by decide +kernel
theorem d_Reader_read_126 : decode prog_7_method_2_code 126 = .ok (.iadd, 1) := by decide +kernel
theorem d_Reader_read_127 : decode prog_7_method_2_code 127 = .ok (.istore_n 3, 1) := by decide +kernel
theorem d_Reader_read_128 : decode prog_7_method_2_code 128 = .ok (.aload_n 0, 1) := by decide +kernel
theorem d_Reader_read_129 : decode prog_7_method_2_code 129 = .ok (.getfield 14, 3) := by decide +kernel
theorem d_Reader_read_132 : decode prog_7_method_2_code 132 = .ok (.invokevirtual 39, 3) := by decide +kernel
theorem d_Reader_read_135 : decode prog_7_method_2_code 135 = .ok (.iinc 4 1, 3) := by decide +kernel
theorem d_Reader_read_138 : decode prog_7_method_2_code 138 = .ok (.goto (-120), 3) := by decide +kernel
theorem d_Reader_read_141 : decode prog_7_method_2_code 141 = .ok (.iconst 0, 1) := by decide +kernel
theorem d_Reader_read_142 : decode prog_7_method_2_code 142 = .ok (.ireturn, 1) := by decide +kernel
noncomputable def f_Reader_read_j107 (r0 : Option Nat) (r1 : Option Nat) (x2 : Int32) (x3 : Int32) (x4 : Int32) (σ : rb_St) : Option ((Int32 × Int32 × Int32 × rb_St) ⊕ rb_Rs) :=
  (rb_fc σ r0 8).bind fun _ => rb_cI (f_Reader_readLine (r0)  σ) fun x_15 σ_16 => if x_15 = 0 then (((rb_fc σ_16 r0 8).bind fun _ => rb_cV (f_Reader_forgetAll (r0)  σ_16) fun σ_17 => some (some (.int (-x3)), σ_17)).map Sum.inr) else ((rb_gR σ_16 r0 8 4).bind fun r_18 => (rb_fc σ_16 r_18 2).bind fun _ => rb_cV (f_Text_clear (r_18)  σ_16) fun σ_19 => some (.inl ((x2 + 1), ((x2 + 1) + (1 : Int32)), (x4 + 1), σ_19)))
theorem t_Reader_read_j107 {E : rb_EV} {d : Nat} {σ0 : rb_St} {res : rb_Rs} (hdd : 44 ≤ d)  (r0 : Option Nat) (r1 : Option Nat) (x2 : Int32) (x3 : Int32) (x4 : Int32) (σ : rb_St) : rb_TC (f_Reader_read_j107 r0 r1 x2 x3 x4 σ) (Sum.elim (fun z : (Int32 × Int32 × Int32 × rb_St) => rb_WK E k_Reader_read d σ0 res 18 [some (va_rf r0), some (va_rf r1), some (.int z.1), some (.int z.2.1), some (.int z.2.2.1)] [] z.2.2.2) (fun r => r = res)) (rb_WK E k_Reader_read d σ0 res 107 [some (va_rf r0), some (va_rf r1), some (.int x2), some (.int x3), some (.int x4)] [] σ) := by
  unfold f_Reader_read_j107
  refine rb_TC.mono (rk_aload_n 0 d_Reader_read_107 rfl rfl) ?_
  refine rt_vI (As := []) (st := []) (r0) vw_Reader_54 (s_Reader_readLine (Nat.le_refl _) (r0)  σ) (Nat.le_trans (by decide) hdd) rfl (by simp [rb_cat_r, rb_cat_i, rb_cat_l]) d_Reader_read_108 (fun x_15 σ_16 => ?_)
  refine rt_if_ne 121 d_Reader_read_111 (by decide) (fun _ => ?_) (fun _ => ?_)
  · refine rb_TC.out ?_
    refine rb_TC.mono (rk_aload_n 0 d_Reader_read_114 rfl rfl) ?_
    refine rt_vV (As := []) (st := []) (r0) vw_Reader_36 (s_Reader_forgetAll (Nat.le_refl _) (r0)  σ_16) (Nat.le_trans (by decide) hdd) rfl (by simp [rb_cat_r, rb_cat_i, rb_cat_l]) d_Reader_read_115 (fun σ_17 => ?_)
    refine rb_TC.mono (rk_iload_n 3 d_Reader_read_118 rfl rfl) ?_
    refine rb_TC.mono (rk_ineg d_Reader_read_119) ?_
    exact rt_iret (ty := .int) rfl rfl (fun h => h) d_Reader_read_120
  · refine rb_TC.mono (rk_iinc (lv2 := [some (va_rf r0), some (va_rf r1), some (.int (x2 + 1)), some (.int x3), some (.int x4)]) (x2 + 1) d_Reader_read_121 rfl rfl (by decide) (fun _ => rb_one_r) rfl) ?_
    refine rb_TC.mono (rk_iload_n 2 d_Reader_read_124 rfl rfl) ?_
    refine rb_TC.mono (rk_iconst (1 : Int32) d_Reader_read_125 (by decide)) ?_
    refine rb_TC.mono (rk_iadd d_Reader_read_126) ?_
    refine rb_TC.mono (rk_istore_n (lv2 := [some (va_rf r0), some (va_rf r1), some (.int (x2 + 1)), some (.int ((x2 + 1) + (1 : Int32))), some (.int x4)]) 3 d_Reader_read_127 rfl (by decide) (fun _ => rb_one_i) rfl) ?_
    refine rb_TC.mono (rk_aload_n 0 d_Reader_read_128 rfl rfl) ?_
    refine rt_gR r0 fw_Reader_14 d_Reader_read_129 (fun r_18 => ?_)
    refine rt_vV (As := []) (st := []) (r_18) vw_Reader_39 (s_Text_clear (Nat.le_refl _) (r_18)  σ_16) (Nat.le_trans (by decide) hdd) rfl (by simp [rb_cat_r, rb_cat_i, rb_cat_l]) d_Reader_read_132 (fun σ_19 => ?_)
    refine rb_TC.mono (rk_iinc (lv2 := [some (va_rf r0), some (va_rf r1), some (.int (x2 + 1)), some (.int ((x2 + 1) + (1 : Int32))), some (.int (x4 + 1))]) (x4 + 1) d_Reader_read_135 rfl rfl (by decide) (fun _ => rb_one_i) rfl) ?_
    refine rb_TC.mono (rk_goto 18 d_Reader_read_138 (by decide)) ?_
    exact rb_back
noncomputable def f_Reader_read_j70 (r0 : Option Nat) (r1 : Option Nat) (x2 : Int32) (x3 : Int32) (x4 : Int32) (σ : rb_St) : Option ((Int32 × Int32 × Int32 × rb_St) ⊕ rb_Rs) :=
  (rb_fc σ r1 2).bind fun _ => rb_cI (f_Text_length (r1)  σ) fun x_13 σ_14 => if x_13 ≤ x4 then (f_Reader_read_j107 (r0) (r1) (x2) (x3) (x4) σ_14) else ((rb_fc σ_14 r1 2).bind fun _ => rb_cI (f_Text_at (r1) (x4) σ_14) fun x_20 σ_21 => if x_20 = (10 : Int32) then (f_Reader_read_j107 (r0) (r1) (x2) (x3) (x4) σ_21) else ((rb_gR σ_21 r0 8 4).bind fun r_22 => (rb_fc σ_21 r1 2).bind fun _ => rb_cI (f_Text_at (r1) (x4) σ_21) fun x_23 σ_24 => (rb_fc σ_24 r_22 2).bind fun _ => rb_cI (f_Text_add (r_22) (x_23) σ_24) fun x_25 σ_26 => some (.inl (x2, x3, (x4 + 1), σ_26))))
theorem t_Reader_read_j70 {E : rb_EV} {d : Nat} {σ0 : rb_St} {res : rb_Rs} (hdd : 44 ≤ d)  (r0 : Option Nat) (r1 : Option Nat) (x2 : Int32) (x3 : Int32) (x4 : Int32) (σ : rb_St) : rb_TC (f_Reader_read_j70 r0 r1 x2 x3 x4 σ) (Sum.elim (fun z : (Int32 × Int32 × Int32 × rb_St) => rb_WK E k_Reader_read d σ0 res 18 [some (va_rf r0), some (va_rf r1), some (.int z.1), some (.int z.2.1), some (.int z.2.2.1)] [] z.2.2.2) (fun r => r = res)) (rb_WK E k_Reader_read d σ0 res 70 [some (va_rf r0), some (va_rf r1), some (.int x2), some (.int x3), some (.int x4)] [] σ) := by
  unfold f_Reader_read_j70
  refine rb_TC.mono (rk_iload d_Reader_read_70 rfl) ?_
  refine rb_TC.mono (rk_aload_n 1 d_Reader_read_72 rfl rfl) ?_
  refine rt_vI (As := []) (st := [.int x4]) (r1) vw_Reader_42 (s_Text_length (Nat.le_refl _) (r1)  σ) (Nat.le_trans (by decide) hdd) rfl (by simp [rb_cat_r, rb_cat_i, rb_cat_l]) d_Reader_read_73 (fun x_13 σ_14 => ?_)
  refine rt_icmp_ge 107 d_Reader_read_76 (by decide) (fun _ => ?_) (fun _ => ?_)
  · exact t_Reader_read_j107 hdd  (r0) (r1) (x2) (x3) (x4) σ_14
  · refine rb_TC.mono (rk_aload_n 1 d_Reader_read_79 rfl rfl) ?_
    refine rb_TC.mono (rk_iload d_Reader_read_80 rfl) ?_
    refine rt_vI (As := [.int x4]) (st := []) (r1) vw_Reader_46 (s_Text_at (Nat.le_refl _) (r1) (x4) σ_14) (Nat.le_trans (by decide) hdd) rfl (by simp [rb_cat_r, rb_cat_i, rb_cat_l]) d_Reader_read_82 (fun x_20 σ_21 => ?_)
    refine rb_TC.mono (rk_bipush (10 : Int32) d_Reader_read_85 (by decide)) ?_
    refine rt_icmp_eq 107 d_Reader_read_87 (by decide) (fun _ => ?_) (fun _ => ?_)
    · exact t_Reader_read_j107 hdd  (r0) (r1) (x2) (x3) (x4) σ_21
    · refine rb_TC.mono (rk_aload_n 0 d_Reader_read_90 rfl rfl) ?_
      refine rt_gR r0 fw_Reader_14 d_Reader_read_91 (fun r_22 => ?_)
      refine rb_TC.mono (rk_aload_n 1 d_Reader_read_94 rfl rfl) ?_
      refine rb_TC.mono (rk_iload d_Reader_read_95 rfl) ?_
      refine rt_vI (As := [.int x4]) (st := [va_rf r_22]) (r1) vw_Reader_46 (s_Text_at (Nat.le_refl _) (r1) (x4) σ_21) (Nat.le_trans (by decide) hdd) rfl (by simp [rb_cat_r, rb_cat_i, rb_cat_l]) d_Reader_read_97 (fun x_23 σ_24 => ?_)
      refine rt_vI (As := [.int x_23]) (st := []) (r_22) vw_Reader_50 (s_Text_add (Nat.le_refl _) (r_22) (x_23) σ_24) (Nat.le_trans (by decide) hdd) rfl (by simp [rb_cat_r, rb_cat_i, rb_cat_l]) d_Reader_read_100 (fun x_25 σ_26 => ?_)
      refine rb_TC.mono (rk_popi d_Reader_read_103) ?_
      refine rb_TC.mono (rk_goto 135 d_Reader_read_104 (by decide)) ?_
      refine rb_TC.mono (rk_iinc (lv2 := [some (va_rf r0), some (va_rf r1), some (.int x2), some (.int x3), some (.int (x4 + 1))]) (x4 + 1) d_Reader_read_135 rfl rfl (by decide) (fun _ => rb_one_i) rfl) ?_
      refine rb_TC.mono (rk_goto 18 d_Reader_read_138 (by decide)) ?_
      exact rb_back
noncomputable def f_Reader_read_b18 (r0 : Option Nat) (r1 : Option Nat) (x2 : Int32) (x3 : Int32) (x4 : Int32) (σ : rb_St) : Option ((Int32 × Int32 × Int32 × rb_St) ⊕ rb_Rs) :=
  (rb_fc σ r1 2).bind fun _ => rb_cI (f_Text_length (r1)  σ) fun x_4 σ_5 => if x_4 < x4 then ((some (some (.int (0 : Int32)), σ_5)).map Sum.inr) else ((rb_fc σ_5 r1 2).bind fun _ => rb_cI (f_Text_at (r1) (x4) σ_5) fun x_6 σ_7 => if x_6 = (92 : Int32) then ((rb_fc σ_7 r1 2).bind fun _ => rb_cI (f_Text_at (r1) ((x4 + (1 : Int32))) σ_7) fun x_8 σ_9 => if x_8 = (10 : Int32) then ((rb_gR σ_9 r0 8 4).bind fun r_10 => (rb_fc σ_9 r_10 2).bind fun _ => rb_cI (f_Text_add (r_10) ((32 : Int32)) σ_9) fun x_11 σ_12 => some (.inl ((x2 + 1), x3, ((x4 + 1) + 1), σ_12))) else (f_Reader_read_j70 (r0) (r1) (x2) (x3) (x4) σ_9)) else (f_Reader_read_j70 (r0) (r1) (x2) (x3) (x4) σ_7))
theorem t_Reader_read_b18 {E : rb_EV} {d : Nat} {σ0 : rb_St} {res : rb_Rs} (hdd : 44 ≤ d)  (r0 : Option Nat) (r1 : Option Nat) (x2 : Int32) (x3 : Int32) (x4 : Int32) (σ : rb_St) : rb_TC (f_Reader_read_b18 r0 r1 x2 x3 x4 σ) (Sum.elim (fun z : (Int32 × Int32 × Int32 × rb_St) => rb_WK E k_Reader_read d σ0 res 18 [some (va_rf r0), some (va_rf r1), some (.int z.1), some (.int z.2.1), some (.int z.2.2.1)] [] z.2.2.2) (fun r => r = res)) (rb_WK E k_Reader_read d σ0 res 18 [some (va_rf r0), some (va_rf r1), some (.int x2), some (.int x3), some (.int x4)] [] σ) := by
  unfold f_Reader_read_b18
  refine rb_TC.mono (rk_iload d_Reader_read_18 rfl) ?_
  refine rb_TC.mono (rk_aload_n 1 d_Reader_read_20 rfl rfl) ?_
  refine rt_vI (As := []) (st := [.int x4]) (r1) vw_Reader_42 (s_Text_length (Nat.le_refl _) (r1)  σ) (Nat.le_trans (by decide) hdd) rfl (by simp [rb_cat_r, rb_cat_i, rb_cat_l]) d_Reader_read_21 (fun x_4 σ_5 => ?_)
  refine rt_icmp_gt 141 d_Reader_read_24 (by decide) (fun _ => ?_) (fun _ => ?_)
  · refine rb_TC.out ?_
    refine rb_TC.mono (rk_iconst (0 : Int32) d_Reader_read_141 (by decide)) ?_
    exact rt_iret (ty := .int) rfl rfl (fun h => h) d_Reader_read_142
  · refine rb_TC.mono (rk_aload_n 1 d_Reader_read_27 rfl rfl) ?_
    refine rb_TC.mono (rk_iload d_Reader_read_28 rfl) ?_
    refine rt_vI (As := [.int x4]) (st := []) (r1) vw_Reader_46 (s_Text_at (Nat.le_refl _) (r1) (x4) σ_5) (Nat.le_trans (by decide) hdd) rfl (by simp [rb_cat_r, rb_cat_i, rb_cat_l]) d_Reader_read_30 (fun x_6 σ_7 => ?_)
    refine rb_TC.mono (rk_bipush (92 : Int32) d_Reader_read_33 (by decide)) ?_
    refine rt_icmp_ne 70 d_Reader_read_35 (by decide) (fun _ => ?_) (fun _ => ?_)
    · refine rb_TC.mono (rk_aload_n 1 d_Reader_read_38 rfl rfl) ?_
      refine rb_TC.mono (rk_iload d_Reader_read_39 rfl) ?_
      refine rb_TC.mono (rk_iconst (1 : Int32) d_Reader_read_41 (by decide)) ?_
      refine rb_TC.mono (rk_iadd d_Reader_read_42) ?_
      refine rt_vI (As := [.int (x4 + (1 : Int32))]) (st := []) (r1) vw_Reader_46 (s_Text_at (Nat.le_refl _) (r1) ((x4 + (1 : Int32))) σ_7) (Nat.le_trans (by decide) hdd) rfl (by simp [rb_cat_r, rb_cat_i, rb_cat_l]) d_Reader_read_43 (fun x_8 σ_9 => ?_)
      refine rb_TC.mono (rk_bipush (10 : Int32) d_Reader_read_46 (by decide)) ?_
      refine rt_icmp_ne 70 d_Reader_read_48 (by decide) (fun _ => ?_) (fun _ => ?_)
      · refine rb_TC.mono (rk_aload_n 0 d_Reader_read_51 rfl rfl) ?_
        refine rt_gR r0 fw_Reader_14 d_Reader_read_52 (fun r_10 => ?_)
        refine rb_TC.mono (rk_bipush (32 : Int32) d_Reader_read_55 (by decide)) ?_
        refine rt_vI (As := [.int (32 : Int32)]) (st := []) (r_10) vw_Reader_50 (s_Text_add (Nat.le_refl _) (r_10) ((32 : Int32)) σ_9) (Nat.le_trans (by decide) hdd) rfl (by simp [rb_cat_r, rb_cat_i, rb_cat_l]) d_Reader_read_57 (fun x_11 σ_12 => ?_)
        refine rb_TC.mono (rk_popi d_Reader_read_60) ?_
        refine rb_TC.mono (rk_iinc (lv2 := [some (va_rf r0), some (va_rf r1), some (.int (x2 + 1)), some (.int x3), some (.int x4)]) (x2 + 1) d_Reader_read_61 rfl rfl (by decide) (fun _ => rb_one_r) rfl) ?_
        refine rb_TC.mono (rk_iinc (lv2 := [some (va_rf r0), some (va_rf r1), some (.int (x2 + 1)), some (.int x3), some (.int (x4 + 1))]) (x4 + 1) d_Reader_read_64 rfl rfl (by decide) (fun _ => rb_one_i) rfl) ?_
        refine rb_TC.mono (rk_goto 135 d_Reader_read_67 (by decide)) ?_
        refine rb_TC.mono (rk_iinc (lv2 := [some (va_rf r0), some (va_rf r1), some (.int (x2 + 1)), some (.int x3), some (.int ((x4 + 1) + 1))]) ((x4 + 1) + 1) d_Reader_read_135 rfl rfl (by decide) (fun _ => rb_one_i) rfl) ?_
        refine rb_TC.mono (rk_goto 18 d_Reader_read_138 (by decide)) ?_
        exact rb_back
      · exact t_Reader_read_j70 hdd  (r0) (r1) (x2) (x3) (x4) σ_9
    · exact t_Reader_read_j70 hdd  (r0) (r1) (x2) (x3) (x4) σ_7
noncomputable def f_Reader_read (r0 : Option Nat) (r1 : Option Nat) (σ : rb_St) : Option rb_Rs :=
  (rb_fc σ r0 8).bind fun _ => rb_cV (f_Reader_forgetAll (r0)  σ) fun σ_1 => (rb_gR σ_1 r0 8 4).bind fun r_2 => (rb_fc σ_1 r_2 2).bind fun _ => rb_cV (f_Text_clear (r_2)  σ_1) fun σ_3 => rb_it (fun z : (Int32 × Int32 × Int32 × rb_St) => f_Reader_read_b18 (r0) (r1) (z.1) (z.2.1) (z.2.2.1) z.2.2.2) ((0 : Int32), (1 : Int32), (0 : Int32), σ_3)
theorem s_Reader_read {E : rb_EV} {d : Nat} (hdd : 44 ≤ d) (r0 : Option Nat) (r1 : Option Nat) (σ : rb_St) : rb_Does E k_Reader_read d [va_rf r0, va_rf r1] σ (f_Reader_read r0 r1 σ) := by
  refine rb_start (lv := [some (va_rf r0), some (va_rf r1), none, none, none]) (by decide) (by simp [lg_sl, rb_as, lv_args, rb_cat_r, rb_cat_i, rb_cat_l, rb_nL, k_Reader_read]) (fun res => ?_)
  unfold f_Reader_read
  refine rb_TC.mono (rk_aload_n 0 d_Reader_read_0 rfl rfl) ?_
  refine rt_vV (As := []) (st := []) (r0) vw_Reader_36 (s_Reader_forgetAll (Nat.le_refl _) (r0)  σ) (Nat.le_trans (by decide) hdd) rfl (by simp [rb_cat_r, rb_cat_i, rb_cat_l]) d_Reader_read_1 (fun σ_1 => ?_)
  refine rb_TC.mono (rk_iconst (0 : Int32) d_Reader_read_4 (by decide)) ?_
  refine rb_TC.mono (rk_istore_n (lv2 := [some (va_rf r0), some (va_rf r1), some (.int (0 : Int32)), none, none]) 2 d_Reader_read_5 rfl (by decide) (fun _ => rb_one_r) rfl) ?_
  refine rb_TC.mono (rk_iconst (1 : Int32) d_Reader_read_6 (by decide)) ?_
  refine rb_TC.mono (rk_istore_n (lv2 := [some (va_rf r0), some (va_rf r1), some (.int (0 : Int32)), some (.int (1 : Int32)), none]) 3 d_Reader_read_7 rfl (by decide) (fun _ => rb_one_i) rfl) ?_
  refine rb_TC.mono (rk_aload_n 0 d_Reader_read_8 rfl rfl) ?_
  refine rt_gR r0 fw_Reader_14 d_Reader_read_9 (fun r_2 => ?_)
  refine rt_vV (As := []) (st := []) (r_2) vw_Reader_39 (s_Text_clear (Nat.le_refl _) (r_2)  σ_1) (Nat.le_trans (by decide) hdd) rfl (by simp [rb_cat_r, rb_cat_i, rb_cat_l]) d_Reader_read_12 (fun σ_3 => ?_)
  refine rb_TC.mono (rk_iconst (0 : Int32) d_Reader_read_15 (by decide)) ?_
  refine rb_TC.mono (rk_istore (lv2 := [some (va_rf r0), some (va_rf r1), some (.int (0 : Int32)), some (.int (1 : Int32)), some (.int (0 : Int32))]) d_Reader_read_16 (by decide) (fun _ => rb_one_i) rfl) ?_
  exact rb_TC.loop2 (A := (fun z : (Int32 × Int32 × Int32 × rb_St) => rb_WK E k_Reader_read d σ res 18 [some (va_rf r0), some (va_rf r1), some (.int z.1), some (.int z.2.1), some (.int z.2.2.1)] [] z.2.2.2)) ((0 : Int32), (1 : Int32), (0 : Int32), σ_3) (fun z => t_Reader_read_b18 hdd  (r0) (r1) (z.1) (z.2.1) (z.2.2.1) z.2.2.2)
