-- ===== RuleBuilderModel.forget()V
def k_M_forget : rb_MK := (⟨"RuleBuilderModel", "forget", "()V"⟩, prog_14_method_30_code, 2, none)
theorem mw_M_forget : rb_Mw k_M_forget 0 := ⟨rb_inG 1219 (by decide +kernel) rfl, rb_inG 94 (by decide +kernel) rfl, ⟨by decide, by decide, by decide +kernel⟩, by decide⟩
theorem fw_M_261 : rb_Fw "RuleBuilderModel" 261 13 18 := ⟨_, rfl, by decide, by decide, by decide, rfl, rb_inG 1238 (by decide +kernel) rfl⟩
theorem fp_M_forget_261 : rb_Fp k_M_forget 261 13 18 .int := ⟨fw_M_261, rfl, fun q h => by cases h; exact Or.inl rfl⟩
theorem fw_M_264 : rb_Fw "RuleBuilderModel" 264 13 22 := ⟨_, rfl, by decide, by decide, by decide, rfl, rb_inG 1242 (by decide +kernel) rfl⟩
theorem fp_M_forget_264 : rb_Fp k_M_forget 264 13 22 .boolean := ⟨fw_M_264, rfl, fun q h => by cases h; exact Or.inl rfl⟩
theorem fw_M_268 : rb_Fw "RuleBuilderModel" 268 13 23 := ⟨_, rfl, by decide, by decide, by decide, rfl, rb_inG 1243 (by decide +kernel) rfl⟩
theorem fp_M_forget_268 : rb_Fp k_M_forget 268 13 23 .boolean := ⟨fw_M_268, rfl, fun q h => by cases h; exact Or.inl rfl⟩
theorem fw_M_271 : rb_Fw "RuleBuilderModel" 271 13 26 := ⟨_, rfl, by decide, by decide, by decide, rfl, rb_inG 1246 (by decide +kernel) rfl⟩
theorem fp_M_forget_271 : rb_Fp k_M_forget 271 13 26 .int := ⟨fw_M_271, rfl, fun q h => by cases h; exact Or.inl rfl⟩
theorem fw_M_274 : rb_Fw "RuleBuilderModel" 274 13 29 := ⟨_, rfl, by decide, by decide, by decide, rfl, rb_inG 1249 (by decide +kernel) rfl⟩
theorem fp_M_forget_274 : rb_Fp k_M_forget 274 13 29 .int := ⟨fw_M_274, rfl, fun q h => by cases h; exact Or.inl rfl⟩
theorem fw_M_277 : rb_Fw "RuleBuilderModel" 277 13 33 := ⟨_, rfl, by decide, by decide, by decide, rfl, rb_inG 1253 (by decide +kernel) rfl⟩
theorem fp_M_forget_277 : rb_Fp k_M_forget 277 13 33 .int := ⟨fw_M_277, rfl, fun q h => by cases h; exact Or.inl rfl⟩
theorem fw_M_280 : rb_Fw "RuleBuilderModel" 280 13 37 := ⟨_, rfl, by decide, by decide, by decide, rfl, rb_inG 1257 (by decide +kernel) rfl⟩
theorem fp_M_forget_280 : rb_Fp k_M_forget 280 13 37 .int := ⟨fw_M_280, rfl, fun q h => by cases h; exact Or.inl rfl⟩
theorem fw_M_283 : rb_Fw "RuleBuilderModel" 283 13 38 := ⟨_, rfl, by decide, by decide, by decide, rfl, rb_inG 1258 (by decide +kernel) rfl⟩
theorem fp_M_forget_283 : rb_Fp k_M_forget 283 13 38 .int := ⟨fw_M_283, rfl, fun q h => by cases h; exact Or.inl rfl⟩
theorem fw_M_286 : rb_Fw "RuleBuilderModel" 286 13 39 := ⟨_, rfl, by decide, by decide, by decide, rfl, rb_inG 1259 (by decide +kernel) rfl⟩
theorem fp_M_forget_286 : rb_Fp k_M_forget 286 13 39 .int := ⟨fw_M_286, rfl, fun q h => by cases h; exact Or.inl rfl⟩
theorem fw_M_289 : rb_Fw "RuleBuilderModel" 289 13 40 := ⟨_, rfl, by decide, by decide, by decide, rfl, rb_inG 1260 (by decide +kernel) rfl⟩
theorem fp_M_forget_289 : rb_Fp k_M_forget 289 13 40 .int := ⟨fw_M_289, rfl, fun q h => by cases h; exact Or.inl rfl⟩
theorem fw_M_36 : rb_Fw "RuleBuilderModel" 36 13 11 := ⟨_, rfl, by decide, by decide, by decide, rfl, rb_inG 1231 (by decide +kernel) rfl⟩
theorem fw_M_54 : rb_Fw "RuleBuilderModel" 54 13 19 := ⟨_, rfl, by decide, by decide, by decide, rfl, rb_inG 1239 (by decide +kernel) rfl⟩
theorem fw_M_57 : rb_Fw "RuleBuilderModel" 57 13 20 := ⟨_, rfl, by decide, by decide, by decide, rfl, rb_inG 1240 (by decide +kernel) rfl⟩
theorem fw_M_60 : rb_Fw "RuleBuilderModel" 60 13 21 := ⟨_, rfl, by decide, by decide, by decide, rfl, rb_inG 1241 (by decide +kernel) rfl⟩
theorem fw_M_63 : rb_Fw "RuleBuilderModel" 63 13 24 := ⟨_, rfl, by decide, by decide, by decide, rfl, rb_inG 1244 (by decide +kernel) rfl⟩
theorem fw_M_66 : rb_Fw "RuleBuilderModel" 66 13 25 := ⟨_, rfl, by decide, by decide, by decide, rfl, rb_inG 1245 (by decide +kernel) rfl⟩
theorem d_M_forget_0 : decode prog_14_method_30_code 0 = .ok (.iconst 0, 1) := by decide +kernel
theorem d_M_forget_1 : decode prog_14_method_30_code 1 = .ok (.istore_n 1, 1) := by decide +kernel
theorem d_M_forget_2 : decode prog_14_method_30_code 2 = .ok (.iload_n 1, 1) := by decide +kernel
theorem d_M_forget_3 : decode prog_14_method_30_code 3 = .ok (.bipush 26, 2) := by decide +kernel
theorem d_M_forget_5 : decode prog_14_method_30_code 5 = .ok (.if_icmp .ge 16, 3) := by decide +kernel
theorem d_M_forget_8 : decode prog_14_method_30_code 8 = .ok (.aload_n 0, 1) := by decide +kernel
theorem d_M_forget_9 : decode prog_14_method_30_code 9 = .ok (.getfield 36, 3) := by decide +kernel
theorem d_M_forget_12 : decode prog_14_method_30_code 12 = .ok (.iload_n 1, 1) := by decide +kernel
theorem d_M_forget_13 : decode prog_14_method_30_code 13 = .ok (.iconst 0, 1) := by decide +kernel
theorem d_M_forget_14 : decode prog_14_method_30_code 14 = .ok (.bastore, 1) := by decide +kernel
theorem d_M_forget_15 : decode prog_14_method_30_code 15 = .ok (.iinc 1 1, 3) := by decide +kernel
theorem d_M_forget_18 : decode prog_14_method_30_code 18 = .ok (.goto (-16), 3) := by decide +kernel
theorem d_M_forget_21 : decode prog_14_method_30_code 21 = .ok (.iconst 0, 1) := by decide +kernel
theorem d_M_forget_22 : decode prog_14_method_30_code 22 = .ok (.istore_n 1, 1) := by decide +kernel
theorem d_M_forget_23 : decode prog_14_method_30_code 23 = .ok (.iload_n 1, 1) := by decide +kernel
theorem d_M_forget_24 : decode prog_14_method_30_code 24 = .ok (.bipush 32, 2) := by decide +kernel
theorem d_M_forget_26 : decode prog_14_method_30_code 26 = .ok (.if_icmp .ge 44, 3) := by decide +kernel
theorem d_M_forget_29 : decode prog_14_method_30_code 29 = .ok (.aload_n 0, 1) := by decide +kernel
theorem d_M_forget_30 : decode prog_14_method_30_code 30 = .ok (.getfield 54, 3) := by decide +kernel
theorem d_M_forget_33 : decode prog_14_method_30_code 33 = .ok (.iload_n 1, 1) := by decide +kernel
theorem d_M_forget_34 : decode prog_14_method_30_code 34 = .ok (.iconst 0, 1) := by decide +kernel
theorem d_M_forget_35 : decode prog_14_method_30_code 35 = .ok (.bastore, 1) := by decide +kernel
theorem d_M_forget_36 : decode prog_14_method_30_code 36 = .ok (.aload_n 0, 1) := by decide +kernel
theorem d_M_forget_37 : decode prog_14_method_30_code 37 = .ok (.getfield 57, 3) := by decide +kernel
theorem d_M_forget_40 : decode prog_14_method_30_code 40 = .ok (.iload_n 1, 1) := by decide +kernel
theorem d_M_forget_41 : decode prog_14_method_30_code 41 = .ok (.iconst 0, 1) := by decide +kernel
theorem d_M_forget_42 : decode prog_14_method_30_code 42 = .ok (.bastore, 1) := by decide +kernel
theorem d_M_forget_43 : decode prog_14_method_30_code 43 = .ok (.aload_n 0, 1) := by decide +kernel
theorem d_M_forget_44 : decode prog_14_method_30_code 44 = .ok (.getfield 60, 3) := by decide +kernel
theorem d_M_forget_47 : decode prog_14_method_30_code 47 = .ok (.iload_n 1, 1) := by decide +kernel
theorem d_M_forget_48 : decode prog_14_method_30_code 48 = .ok (.iconst 0, 1) := by decide +kernel
theorem d_M_forget_49 : decode prog_14_method_30_code 49 = .ok (.bastore, 1) := by decide +kernel
theorem d_M_forget_50 : decode prog_14_method_30_code 50 = .ok (.aload_n 0, 1) := by decide +kernel
theorem d_M_forget_51 : decode prog_14_method_30_code 51 = .ok (.getfield 63, 3) := by decide +kernel
theorem d_M_forget_54 : decode prog_14_method_30_code 54 = .ok (.iload_n 1, 1) := by decide +kernel
theorem d_M_forget_55 : decode prog_14_method_30_code 55 = .ok (.iconst 0, 1) := by decide +kernel
theorem d_M_forget_56 : decode prog_14_method_30_code 56 = .ok (.bastore, 1) := by decide +kernel
theorem d_M_forget_57 : decode prog_14_method_30_code 57 = .ok (.aload_n 0, 1) := by decide +kernel
theorem d_M_forget_58 : decode prog_14_method_30_code 58 = .ok (.getfield 66, 3) := by decide +kernel
theorem d_M_forget_61 : decode prog_14_method_30_code 61 = .ok (.iload_n 1, 1) := by decide +kernel
theorem d_M_forget_62 : decode prog_14_method_30_code 62 = .ok (.iconst (-1), 1) := by decide +kernel
theorem d_M_forget_63 : decode prog_14_method_30_code 63 = .ok (.iastore, 1) := by decide +kernel
theorem d_M_forget_64 : decode prog_14_method_30_code 64 = .ok (.iinc 1 1, 3) := by decide +kernel
theorem d_M_forget_67 : decode prog_14_method_30_code 67 = .ok (.goto (-44), 3) := by decide +kernel
theorem d_M_forget_70 : decode prog_14_method_30_code 70 = .ok (.aload_n 0, 1) := by decide +kernel
theorem d_M_forget_71 : decode prog_14_method_30_code 71 = .ok (.iconst 0, 1) := by decide +kernel
theorem d_M_forget_72 : decode prog_14_method_30_code 72 = .ok (.putfield 261, 3) := by decide +kernel
theorem d_M_forget_75 : decode prog_14_method_30_code 75 = .ok (.aload_n 0, 1) := by decide +kernel
theorem d_M_forget_76 : decode prog_14_method_30_code 76 = .ok (.iconst 0, 1) := by decide +kernel
theorem d_M_forget_77 : decode prog_14_method_30_code 77 = .ok (.putfield 264, 3) := by decide +kernel
theorem d_M_forget_80 : decode prog_14_method_30_code 80 = .ok (.aload_n 0, 1) := by decide +kernel
theorem d_M_forget_81 : decode prog_14_method_30_code 81 = .ok (.iconst 0, 1) := by decide +kernel
theorem d_M_forget_82 : decode prog_14_method_30_code 82 = .ok (.putfield 268, 3) := by decide +kernel
theorem d_M_forget_85 : decode prog_14_method_30_code 85 = .ok (.aload_n 0, 1) := by decide +kernel
theorem d_M_forget_86 : decode prog_14_method_30_code 86 = .ok (.iconst (-1), 1) := by decide +kernel
theorem d_M_forget_87 : decode prog_14_method_30_code 87 = .ok (.putfield 271, 3) := by decide +kernel
theorem d_M_forget_90 : decode prog_14_method_30_code 90 = .ok (.aload_n 0, 1) := by decide +kernel
theorem d_M_forget_91 : decode prog_14_method_30_code 91 = .ok (.iconst 0, 1) := by decide +kernel
theorem d_M_forget_92 : decode prog_14_method_30_code 92 = .ok (.putfield 274, 3) := by decide +kernel
theorem d_M_forget_95 : decode prog_14_method_30_code 95 = .ok (.aload_n 0, 1) := by decide +kernel
theorem d_M_forget_96 : decode prog_14_method_30_code 96 = .ok (.iconst 0, 1) := by decide +kernel
theorem d_M_forget_97 : decode prog_14_method_30_code 97 = .ok (.putfield 277, 3) := by decide +kernel
theorem d_M_forget_100 : decode prog_14_method_30_code 100 = .ok (.aload_n 0, 1) := by decide +kernel
theorem d_M_forget_101 : decode prog_14_method_30_code 101 = .ok (.iconst 0, 1) := by decide +kernel
theorem d_M_forget_102 : decode prog_14_method_30_code 102 = .ok (.putfield 280, 3) := by decide +kernel
theorem d_M_forget_105 : decode prog_14_method_30_code 105 = .ok (.aload_n 0, 1) := by decide +kernel
theorem d_M_forget_106 : decode prog_14_method_30_code 106 = .ok (.iconst (-1), 1) := by decide +kernel
theorem d_M_forget_107 : decode prog_14_method_30_code 107 = .ok (.putfield 283, 3) := by decide +kernel
theorem d_M_forget_110 : decode prog_14_method_30_code 110 = .ok (.aload_n 0, 1) := by decide +kernel
theorem d_M_forget_111 : decode prog_14_method_30_code 111 = .ok (.iconst 0, 1) := by decide +kernel
theorem d_M_forget_112 : decode prog_14_method_30_code 112 = .ok (.putfield 286, 3) := by decide +kernel
theorem d_M_forget_115 : decode prog_14_method_30_code 115 = .ok (.aload_n 0, 1) := by decide +kernel
theorem d_M_forget_116 : decode prog_14_method_30_code 116 = .ok (.iconst 0, 1) := by decide +kernel
theorem d_M_forget_117 : decode prog_14_method_30_code 117 = .ok (.putfield 289, 3) := by decide +kernel
theorem d_M_forget_120 : decode prog_14_method_30_code 120 = .ok (.return_, 1) := by decide +kernel
noncomputable def f_M_forget_b23 (r0 : Option Nat) (x1 : Int32) (σ : rb_St) : Option ((Int32 × rb_St) ⊕ rb_Rs) :=
  if (32 : Int32) ≤ x1 then (((rb_pI σ r0 13 18 (0 : Int32)).bind fun σ_1 => (rb_pZ σ_1 r0 13 22 (0 : Int32)).bind fun σ_2 => (rb_pZ σ_2 r0 13 23 (0 : Int32)).bind fun σ_3 => (rb_pI σ_3 r0 13 26 (-1 : Int32)).bind fun σ_4 => (rb_pI σ_4 r0 13 29 (0 : Int32)).bind fun σ_5 => (rb_pI σ_5 r0 13 33 (0 : Int32)).bind fun σ_6 => (rb_pI σ_6 r0 13 37 (0 : Int32)).bind fun σ_7 => (rb_pI σ_7 r0 13 38 (-1 : Int32)).bind fun σ_8 => (rb_pI σ_8 r0 13 39 (0 : Int32)).bind fun σ_9 => (rb_pI σ_9 r0 13 40 (0 : Int32)).bind fun σ_10 => some (none, σ_10)).map Sum.inr) else ((rb_gR σ r0 13 19).bind fun r_11 => (rb_sI σ r_11 104 x1 (0 : Int32)).bind fun σ_12 => (rb_gR σ_12 r0 13 20).bind fun r_13 => (rb_sI σ_12 r_13 104 x1 (0 : Int32)).bind fun σ_14 => (rb_gR σ_14 r0 13 21).bind fun r_15 => (rb_sI σ_14 r_15 104 x1 (0 : Int32)).bind fun σ_16 => (rb_gR σ_16 r0 13 24).bind fun r_17 => (rb_sI σ_16 r_17 104 x1 (0 : Int32)).bind fun σ_18 => (rb_gR σ_18 r0 13 25).bind fun r_19 => (rb_sI σ_18 r_19 102 x1 (-1 : Int32)).bind fun σ_20 => some (.inl ((x1 + 1), σ_20)))
theorem t_M_forget_b23 {E : rb_EV} {d : Nat} {σ0 : rb_St} {res : rb_Rs} (hdd : 0 ≤ d)  (r0 : Option Nat) (x1 : Int32) (σ : rb_St) : rb_TC (f_M_forget_b23 r0 x1 σ) (Sum.elim (fun z : (Int32 × rb_St) => rb_WK E k_M_forget d σ0 res 23 [some (va_rf r0), some (.int z.1)] [] z.2) (fun r => r = res)) (rb_WK E k_M_forget d σ0 res 23 [some (va_rf r0), some (.int x1)] [] σ) := by
  unfold f_M_forget_b23
  refine rb_TC.mono (rk_iload_n 1 d_M_forget_23 rfl rfl) ?_
  refine rb_TC.mono (rk_bipush (32 : Int32) d_M_forget_24 (by decide)) ?_
  refine rt_icmp_ge 70 d_M_forget_26 (by decide) (fun _ => ?_) (fun _ => ?_)
  · refine rb_TC.out ?_
    refine rb_TC.mono (rk_aload_n 0 d_M_forget_70 rfl rfl) ?_
    refine rb_TC.mono (rk_iconst (0 : Int32) d_M_forget_71 (by decide)) ?_
    refine rt_pI r0 fp_M_forget_261 d_M_forget_72 (fun σ_1 => ?_)
    refine rb_TC.mono (rk_aload_n 0 d_M_forget_75 rfl rfl) ?_
    refine rb_TC.mono (rk_iconst (0 : Int32) d_M_forget_76 (by decide)) ?_
    refine rt_pZ r0 fp_M_forget_264 d_M_forget_77 (fun σ_2 => ?_)
    refine rb_TC.mono (rk_aload_n 0 d_M_forget_80 rfl rfl) ?_
    refine rb_TC.mono (rk_iconst (0 : Int32) d_M_forget_81 (by decide)) ?_
    refine rt_pZ r0 fp_M_forget_268 d_M_forget_82 (fun σ_3 => ?_)
    refine rb_TC.mono (rk_aload_n 0 d_M_forget_85 rfl rfl) ?_
    refine rb_TC.mono (rk_iconst (-1 : Int32) d_M_forget_86 (by decide)) ?_
    refine rt_pI r0 fp_M_forget_271 d_M_forget_87 (fun σ_4 => ?_)
    refine rb_TC.mono (rk_aload_n 0 d_M_forget_90 rfl rfl) ?_
    refine rb_TC.mono (rk_iconst (0 : Int32) d_M_forget_91 (by decide)) ?_
    refine rt_pI r0 fp_M_forget_274 d_M_forget_92 (fun σ_5 => ?_)
    refine rb_TC.mono (rk_aload_n 0 d_M_forget_95 rfl rfl) ?_
    refine rb_TC.mono (rk_iconst (0 : Int32) d_M_forget_96 (by decide)) ?_
    refine rt_pI r0 fp_M_forget_277 d_M_forget_97 (fun σ_6 => ?_)
    refine rb_TC.mono (rk_aload_n 0 d_M_forget_100 rfl rfl) ?_
    refine rb_TC.mono (rk_iconst (0 : Int32) d_M_forget_101 (by decide)) ?_
    refine rt_pI r0 fp_M_forget_280 d_M_forget_102 (fun σ_7 => ?_)
    refine rb_TC.mono (rk_aload_n 0 d_M_forget_105 rfl rfl) ?_
    refine rb_TC.mono (rk_iconst (-1 : Int32) d_M_forget_106 (by decide)) ?_
    refine rt_pI r0 fp_M_forget_283 d_M_forget_107 (fun σ_8 => ?_)
    refine rb_TC.mono (rk_aload_n 0 d_M_forget_110 rfl rfl) ?_
    refine rb_TC.mono (rk_iconst (0 : Int32) d_M_forget_111 (by decide)) ?_
    refine rt_pI r0 fp_M_forget_286 d_M_forget_112 (fun σ_9 => ?_)
    refine rb_TC.mono (rk_aload_n 0 d_M_forget_115 rfl rfl) ?_
    refine rb_TC.mono (rk_iconst (0 : Int32) d_M_forget_116 (by decide)) ?_
    refine rt_pI r0 fp_M_forget_289 d_M_forget_117 (fun σ_10 => ?_)
    exact rt_vret rfl (fun h => h) d_M_forget_120
  · refine rb_TC.mono (rk_aload_n 0 d_M_forget_29 rfl rfl) ?_
    refine rt_gR r0 fw_M_54 d_M_forget_30 (fun r_11 => ?_)
    refine rb_TC.mono (rk_iload_n 1 d_M_forget_33 rfl rfl) ?_
    refine rb_TC.mono (rk_iconst (0 : Int32) d_M_forget_34 (by decide)) ?_
    refine rt_zast r_11 d_M_forget_35 (fun σ_12 => ?_)
    refine rb_TC.mono (rk_aload_n 0 d_M_forget_36 rfl rfl) ?_
    refine rt_gR r0 fw_M_57 d_M_forget_37 (fun r_13 => ?_)
    refine rb_TC.mono (rk_iload_n 1 d_M_forget_40 rfl rfl) ?_
    refine rb_TC.mono (rk_iconst (0 : Int32) d_M_forget_41 (by decide)) ?_
    refine rt_zast r_13 d_M_forget_42 (fun σ_14 => ?_)
    refine rb_TC.mono (rk_aload_n 0 d_M_forget_43 rfl rfl) ?_
    refine rt_gR r0 fw_M_60 d_M_forget_44 (fun r_15 => ?_)
    refine rb_TC.mono (rk_iload_n 1 d_M_forget_47 rfl rfl) ?_
    refine rb_TC.mono (rk_iconst (0 : Int32) d_M_forget_48 (by decide)) ?_
    refine rt_zast r_15 d_M_forget_49 (fun σ_16 => ?_)
    refine rb_TC.mono (rk_aload_n 0 d_M_forget_50 rfl rfl) ?_
    refine rt_gR r0 fw_M_63 d_M_forget_51 (fun r_17 => ?_)
    refine rb_TC.mono (rk_iload_n 1 d_M_forget_54 rfl rfl) ?_
    refine rb_TC.mono (rk_iconst (0 : Int32) d_M_forget_55 (by decide)) ?_
    refine rt_zast r_17 d_M_forget_56 (fun σ_18 => ?_)
    refine rb_TC.mono (rk_aload_n 0 d_M_forget_57 rfl rfl) ?_
    refine rt_gR r0 fw_M_66 d_M_forget_58 (fun r_19 => ?_)
    refine rb_TC.mono (rk_iload_n 1 d_M_forget_61 rfl rfl) ?_
    refine rb_TC.mono (rk_iconst (-1 : Int32) d_M_forget_62 (by decide)) ?_
    refine rt_iast r_19 d_M_forget_63 (fun σ_20 => ?_)
    refine rb_TC.mono (rk_iinc (lv2 := [some (va_rf r0), some (.int (x1 + 1))]) (x1 + 1) d_M_forget_64 rfl rfl (by decide) (fun _ => rb_one_r) rfl) ?_
    refine rb_TC.mono (rk_goto 23 d_M_forget_67 (by decide)) ?_
    exact rb_back
noncomputable def f_M_forget_b2 (r0 : Option Nat) (x1 : Int32) (σ : rb_St) : Option ((Int32 × rb_St) ⊕ rb_Rs) :=
  if (26 : Int32) ≤ x1 then ((rb_it (fun z : (Int32 × rb_St) => f_M_forget_b23 (r0) (z.1) z.2) ((0 : Int32), σ)).map Sum.inr) else ((rb_gR σ r0 13 11).bind fun r_21 => (rb_sI σ r_21 104 x1 (0 : Int32)).bind fun σ_22 => some (.inl ((x1 + 1), σ_22)))
theorem t_M_forget_b2 {E : rb_EV} {d : Nat} {σ0 : rb_St} {res : rb_Rs} (hdd : 0 ≤ d)  (r0 : Option Nat) (x1 : Int32) (σ : rb_St) : rb_TC (f_M_forget_b2 r0 x1 σ) (Sum.elim (fun z : (Int32 × rb_St) => rb_WK E k_M_forget d σ0 res 2 [some (va_rf r0), some (.int z.1)] [] z.2) (fun r => r = res)) (rb_WK E k_M_forget d σ0 res 2 [some (va_rf r0), some (.int x1)] [] σ) := by
  unfold f_M_forget_b2
  refine rb_TC.mono (rk_iload_n 1 d_M_forget_2 rfl rfl) ?_
  refine rb_TC.mono (rk_bipush (26 : Int32) d_M_forget_3 (by decide)) ?_
  refine rt_icmp_ge 21 d_M_forget_5 (by decide) (fun _ => ?_) (fun _ => ?_)
  · refine rb_TC.out ?_
    refine rb_TC.mono (rk_iconst (0 : Int32) d_M_forget_21 (by decide)) ?_
    refine rb_TC.mono (rk_istore_n (lv2 := [some (va_rf r0), some (.int (0 : Int32))]) 1 d_M_forget_22 rfl (by decide) (fun _ => rb_one_r) rfl) ?_
    exact rb_TC.loop2 (A := (fun z : (Int32 × rb_St) => rb_WK E k_M_forget d σ0 res 23 [some (va_rf r0), some (.int z.1)] [] z.2)) ((0 : Int32), σ) (fun z => t_M_forget_b23 hdd  (r0) (z.1) z.2)
  · refine rb_TC.mono (rk_aload_n 0 d_M_forget_8 rfl rfl) ?_
    refine rt_gR r0 fw_M_36 d_M_forget_9 (fun r_21 => ?_)
    refine rb_TC.mono (rk_iload_n 1 d_M_forget_12 rfl rfl) ?_
    refine rb_TC.mono (rk_iconst (0 : Int32) d_M_forget_13 (by decide)) ?_
    refine rt_zast r_21 d_M_forget_14 (fun σ_22 => ?_)
    refine rb_TC.mono (rk_iinc (lv2 := [some (va_rf r0), some (.int (x1 + 1))]) (x1 + 1) d_M_forget_15 rfl rfl (by decide) (fun _ => rb_one_r) rfl) ?_
    refine rb_TC.mono (rk_goto 2 d_M_forget_18 (by decide)) ?_
    exact rb_back
noncomputable def f_M_forget (r0 : Option Nat) (σ : rb_St) : Option rb_Rs :=
  rb_it (fun z : (Int32 × rb_St) => f_M_forget_b2 (r0) (z.1) z.2) ((0 : Int32), σ)
theorem s_M_forget {E : rb_EV} {d : Nat} (hdd : 0 ≤ d) (r0 : Option Nat) (σ : rb_St) : rb_Does E k_M_forget d [va_rf r0] σ (f_M_forget r0 σ) := by
  refine rb_start (lv := [some (va_rf r0), none]) (by decide) (by simp [lg_sl, rb_as, lv_args, rb_cat_r, rb_cat_i, rb_cat_l, rb_nL, k_M_forget]) (fun res => ?_)
  unfold f_M_forget
  refine rb_TC.mono (rk_iconst (0 : Int32) d_M_forget_0 (by decide)) ?_
  refine rb_TC.mono (rk_istore_n (lv2 := [some (va_rf r0), some (.int (0 : Int32))]) 1 d_M_forget_1 rfl (by decide) (fun _ => rb_one_r) rfl) ?_
  exact rb_TC.loop2 (A := (fun z : (Int32 × rb_St) => rb_WK E k_M_forget d σ res 2 [some (va_rf r0), some (.int z.1)] [] z.2)) ((0 : Int32), σ) (fun z => t_M_forget_b2 hdd  (r0) (z.1) z.2)
-- ===== RuleBuilderModel.<init>()V
def k_M_init : rb_MK := (⟨"RuleBuilderModel", "<init>", "()V"⟩, prog_14_method_1_code, 1, none)
theorem mw_M_init : rb_Mw k_M_init 0 := ⟨rb_inG 1214 (by decide +kernel) rfl, rb_inG 94 (by decide +kernel) rfl, ⟨by decide, by decide, by decide +kernel⟩, by decide⟩
theorem w_ac_boolean : Cond.arrayClass (newarray.typeOf .boolean) ∈ rb_G := rb_inG 1441 (by decide +kernel) rfl
theorem w_ac_long : Cond.arrayClass (newarray.typeOf .long) ∈ rb_G := rb_inG 1440 (by decide +kernel) rfl
theorem fw_M_102 : rb_Fw "RuleBuilderModel" 102 13 49 := ⟨_, rfl, by decide, by decide, by decide, rfl, rb_inG 1269 (by decide +kernel) rfl⟩
theorem fp_M_init_102 : rb_Fp k_M_init 102 13 49 (.array .int) ∧ ((∃ n, (.array .int : FieldType) = .object n) ∨ ∃ t, (.array .int : FieldType) = .array t) := ⟨⟨fw_M_102, rfl, fun q h => by cases h; exact Or.inr ⟨rfl, rfl, rfl⟩⟩, Or.inr ⟨_, rfl⟩⟩
theorem fw_M_105 : rb_Fw "RuleBuilderModel" 105 13 50 := ⟨_, rfl, by decide, by decide, by decide, rfl, rb_inG 1270 (by decide +kernel) rfl⟩
theorem fp_M_init_105 : rb_Fp k_M_init 105 13 50 (.array .int) ∧ ((∃ n, (.array .int : FieldType) = .object n) ∨ ∃ t, (.array .int : FieldType) = .array t) := ⟨⟨fw_M_105, rfl, fun q h => by cases h; exact Or.inr ⟨rfl, rfl, rfl⟩⟩, Or.inr ⟨_, rfl⟩⟩
theorem fw_M_108 : rb_Fw "RuleBuilderModel" 108 13 51 := ⟨_, rfl, by decide, by decide, by decide, rfl, rb_inG 1271 (by decide +kernel) rfl⟩
theorem fp_M_init_108 : rb_Fp k_M_init 108 13 51 (.array .int) ∧ ((∃ n, (.array .int : FieldType) = .object n) ∨ ∃ t, (.array .int : FieldType) = .array t) := ⟨⟨fw_M_108, rfl, fun q h => by cases h; exact Or.inr ⟨rfl, rfl, rfl⟩⟩, Or.inr ⟨_, rfl⟩⟩
theorem fw_M_111 : rb_Fw "RuleBuilderModel" 111 13 52 := ⟨_, rfl, by decide, by decide, by decide, rfl, rb_inG 1272 (by decide +kernel) rfl⟩
theorem fp_M_init_111 : rb_Fp k_M_init 111 13 52 (.array .int) ∧ ((∃ n, (.array .int : FieldType) = .object n) ∨ ∃ t, (.array .int : FieldType) = .array t) := ⟨⟨fw_M_111, rfl, fun q h => by cases h; exact Or.inr ⟨rfl, rfl, rfl⟩⟩, Or.inr ⟨_, rfl⟩⟩
theorem fw_M_114 : rb_Fw "RuleBuilderModel" 114 13 53 := ⟨_, rfl, by decide, by decide, by decide, rfl, rb_inG 1273 (by decide +kernel) rfl⟩
theorem fp_M_init_114 : rb_Fp k_M_init 114 13 53 (.array .int) ∧ ((∃ n, (.array .int : FieldType) = .object n) ∨ ∃ t, (.array .int : FieldType) = .array t) := ⟨⟨fw_M_114, rfl, fun q h => by cases h; exact Or.inr ⟨rfl, rfl, rfl⟩⟩, Or.inr ⟨_, rfl⟩⟩
theorem fw_M_117 : rb_Fw "RuleBuilderModel" 117 13 54 := ⟨_, rfl, by decide, by decide, by decide, rfl, rb_inG 1274 (by decide +kernel) rfl⟩
theorem fp_M_init_117 : rb_Fp k_M_init 117 13 54 (.array .int) ∧ ((∃ n, (.array .int : FieldType) = .object n) ∨ ∃ t, (.array .int : FieldType) = .array t) := ⟨⟨fw_M_117, rfl, fun q h => by cases h; exact Or.inr ⟨rfl, rfl, rfl⟩⟩, Or.inr ⟨_, rfl⟩⟩
theorem fw_M_120 : rb_Fw "RuleBuilderModel" 120 13 55 := ⟨_, rfl, by decide, by decide, by decide, rfl, rb_inG 1275 (by decide +kernel) rfl⟩
theorem fp_M_init_120 : rb_Fp k_M_init 120 13 55 (.array .int) ∧ ((∃ n, (.array .int : FieldType) = .object n) ∨ ∃ t, (.array .int : FieldType) = .array t) := ⟨⟨fw_M_120, rfl, fun q h => by cases h; exact Or.inr ⟨rfl, rfl, rfl⟩⟩, Or.inr ⟨_, rfl⟩⟩
theorem fw_M_123 : rb_Fw "RuleBuilderModel" 123 13 57 := ⟨_, rfl, by decide, by decide, by decide, rfl, rb_inG 1277 (by decide +kernel) rfl⟩
theorem fp_M_init_123 : rb_Fp k_M_init 123 13 57 (.array .int) ∧ ((∃ n, (.array .int : FieldType) = .object n) ∨ ∃ t, (.array .int : FieldType) = .array t) := ⟨⟨fw_M_123, rfl, fun q h => by cases h; exact Or.inr ⟨rfl, rfl, rfl⟩⟩, Or.inr ⟨_, rfl⟩⟩
theorem fw_M_126 : rb_Fw "RuleBuilderModel" 126 13 58 := ⟨_, rfl, by decide, by decide, by decide, rfl, rb_inG 1278 (by decide +kernel) rfl⟩
theorem fp_M_init_126 : rb_Fp k_M_init 126 13 58 (.array .boolean) ∧ ((∃ n, (.array .boolean : FieldType) = .object n) ∨ ∃ t, (.array .boolean : FieldType) = .array t) := ⟨⟨fw_M_126, rfl, fun q h => by cases h; exact Or.inr ⟨rfl, rfl, rfl⟩⟩, Or.inr ⟨_, rfl⟩⟩
theorem fw_M_129 : rb_Fw "RuleBuilderModel" 129 13 59 := ⟨_, rfl, by decide, by decide, by decide, rfl, rb_inG 1279 (by decide +kernel) rfl⟩
theorem fp_M_init_129 : rb_Fp k_M_init 129 13 59 (.array .boolean) ∧ ((∃ n, (.array .boolean : FieldType) = .object n) ∨ ∃ t, (.array .boolean : FieldType) = .array t) := ⟨⟨fw_M_129, rfl, fun q h => by cases h; exact Or.inr ⟨rfl, rfl, rfl⟩⟩, Or.inr ⟨_, rfl⟩⟩
theorem fw_M_13 : rb_Fw "RuleBuilderModel" 13 13 3 := ⟨_, rfl, by decide, by decide, by decide, rfl, rb_inG 1223 (by decide +kernel) rfl⟩
theorem fp_M_init_13 : rb_Fp k_M_init 13 13 3 (.array .long) ∧ ((∃ n, (.array .long : FieldType) = .object n) ∨ ∃ t, (.array .long : FieldType) = .array t) := ⟨⟨fw_M_13, rfl, fun q h => by cases h; exact Or.inr ⟨rfl, rfl, rfl⟩⟩, Or.inr ⟨_, rfl⟩⟩
theorem fw_M_132 : rb_Fw "RuleBuilderModel" 132 13 60 := ⟨_, rfl, by decide, by decide, by decide, rfl, rb_inG 1280 (by decide +kernel) rfl⟩
theorem fp_M_init_132 : rb_Fp k_M_init 132 13 60 (.array .int) ∧ ((∃ n, (.array .int : FieldType) = .object n) ∨ ∃ t, (.array .int : FieldType) = .array t) := ⟨⟨fw_M_132, rfl, fun q h => by cases h; exact Or.inr ⟨rfl, rfl, rfl⟩⟩, Or.inr ⟨_, rfl⟩⟩
theorem fw_M_135 : rb_Fw "RuleBuilderModel" 135 13 61 := ⟨_, rfl, by decide, by decide, by decide, rfl, rb_inG 1281 (by decide +kernel) rfl⟩
theorem fp_M_init_135 : rb_Fp k_M_init 135 13 61 (.array .int) ∧ ((∃ n, (.array .int : FieldType) = .object n) ∨ ∃ t, (.array .int : FieldType) = .array t) := ⟨⟨fw_M_135, rfl, fun q h => by cases h; exact Or.inr ⟨rfl, rfl, rfl⟩⟩, Or.inr ⟨_, rfl⟩⟩
theorem fw_M_138 : rb_Fw "RuleBuilderModel" 138 13 62 := ⟨_, rfl, by decide, by decide, by decide, rfl, rb_inG 1282 (by decide +kernel) rfl⟩
theorem fp_M_init_138 : rb_Fp k_M_init 138 13 62 (.array .long) ∧ ((∃ n, (.array .long : FieldType) = .object n) ∨ ∃ t, (.array .long : FieldType) = .array t) := ⟨⟨fw_M_138, rfl, fun q h => by cases h; exact Or.inr ⟨rfl, rfl, rfl⟩⟩, Or.inr ⟨_, rfl⟩⟩
theorem fw_M_141 : rb_Fw "RuleBuilderModel" 141 13 63 := ⟨_, rfl, by decide, by decide, by decide, rfl, rb_inG 1283 (by decide +kernel) rfl⟩
theorem fp_M_init_141 : rb_Fp k_M_init 141 13 63 (.array .int) ∧ ((∃ n, (.array .int : FieldType) = .object n) ∨ ∃ t, (.array .int : FieldType) = .array t) := ⟨⟨fw_M_141, rfl, fun q h => by cases h; exact Or.inr ⟨rfl, rfl, rfl⟩⟩, Or.inr ⟨_, rfl⟩⟩
theorem fw_M_144 : rb_Fw "RuleBuilderModel" 144 13 64 := ⟨_, rfl, by decide, by decide, by decide, rfl, rb_inG 1284 (by decide +kernel) rfl⟩
theorem fp_M_init_144 : rb_Fp k_M_init 144 13 64 (.array .boolean) ∧ ((∃ n, (.array .boolean : FieldType) = .object n) ∨ ∃ t, (.array .boolean : FieldType) = .array t) := ⟨⟨fw_M_144, rfl, fun q h => by cases h; exact Or.inr ⟨rfl, rfl, rfl⟩⟩, Or.inr ⟨_, rfl⟩⟩
theorem fw_M_147 : rb_Fw "RuleBuilderModel" 147 13 65 := ⟨_, rfl, by decide, by decide, by decide, rfl, rb_inG 1285 (by decide +kernel) rfl⟩
theorem fp_M_init_147 : rb_Fp k_M_init 147 13 65 (.array .int) ∧ ((∃ n, (.array .int : FieldType) = .object n) ∨ ∃ t, (.array .int : FieldType) = .array t) := ⟨⟨fw_M_147, rfl, fun q h => by cases h; exact Or.inr ⟨rfl, rfl, rfl⟩⟩, Or.inr ⟨_, rfl⟩⟩
theorem fw_M_150 : rb_Fw "RuleBuilderModel" 150 13 67 := ⟨_, rfl, by decide, by decide, by decide, rfl, rb_inG 1287 (by decide +kernel) rfl⟩
theorem fp_M_init_150 : rb_Fp k_M_init 150 13 67 (.array .boolean) ∧ ((∃ n, (.array .boolean : FieldType) = .object n) ∨ ∃ t, (.array .boolean : FieldType) = .array t) := ⟨⟨fw_M_150, rfl, fun q h => by cases h; exact Or.inr ⟨rfl, rfl, rfl⟩⟩, Or.inr ⟨_, rfl⟩⟩
theorem fw_M_153 : rb_Fw "RuleBuilderModel" 153 13 71 := ⟨_, rfl, by decide, by decide, by decide, rfl, rb_inG 1291 (by decide +kernel) rfl⟩
theorem fp_M_init_153 : rb_Fp k_M_init 153 13 71 (.array .int) ∧ ((∃ n, (.array .int : FieldType) = .object n) ∨ ∃ t, (.array .int : FieldType) = .array t) := ⟨⟨fw_M_153, rfl, fun q h => by cases h; exact Or.inr ⟨rfl, rfl, rfl⟩⟩, Or.inr ⟨_, rfl⟩⟩
theorem fw_M_17 : rb_Fw "RuleBuilderModel" 17 13 4 := ⟨_, rfl, by decide, by decide, by decide, rfl, rb_inG 1224 (by decide +kernel) rfl⟩
theorem fp_M_init_17 : rb_Fp k_M_init 17 13 4 (.array .boolean) ∧ ((∃ n, (.array .boolean : FieldType) = .object n) ∨ ∃ t, (.array .boolean : FieldType) = .array t) := ⟨⟨fw_M_17, rfl, fun q h => by cases h; exact Or.inr ⟨rfl, rfl, rfl⟩⟩, Or.inr ⟨_, rfl⟩⟩
theorem fw_M_21 : rb_Fw "RuleBuilderModel" 21 13 5 := ⟨_, rfl, by decide, by decide, by decide, rfl, rb_inG 1225 (by decide +kernel) rfl⟩
theorem fp_M_init_21 : rb_Fp k_M_init 21 13 5 (.array .int) ∧ ((∃ n, (.array .int : FieldType) = .object n) ∨ ∃ t, (.array .int : FieldType) = .array t) := ⟨⟨fw_M_21, rfl, fun q h => by cases h; exact Or.inr ⟨rfl, rfl, rfl⟩⟩, Or.inr ⟨_, rfl⟩⟩
theorem fw_M_24 : rb_Fw "RuleBuilderModel" 24 13 6 := ⟨_, rfl, by decide, by decide, by decide, rfl, rb_inG 1226 (by decide +kernel) rfl⟩
theorem fp_M_init_24 : rb_Fp k_M_init 24 13 6 (.array .int) ∧ ((∃ n, (.array .int : FieldType) = .object n) ∨ ∃ t, (.array .int : FieldType) = .array t) := ⟨⟨fw_M_24, rfl, fun q h => by cases h; exact Or.inr ⟨rfl, rfl, rfl⟩⟩, Or.inr ⟨_, rfl⟩⟩
theorem fw_M_27 : rb_Fw "RuleBuilderModel" 27 13 8 := ⟨_, rfl, by decide, by decide, by decide, rfl, rb_inG 1228 (by decide +kernel) rfl⟩
theorem fp_M_init_27 : rb_Fp k_M_init 27 13 8 (.array .boolean) ∧ ((∃ n, (.array .boolean : FieldType) = .object n) ∨ ∃ t, (.array .boolean : FieldType) = .array t) := ⟨⟨fw_M_27, rfl, fun q h => by cases h; exact Or.inr ⟨rfl, rfl, rfl⟩⟩, Or.inr ⟨_, rfl⟩⟩
theorem fw_M_30 : rb_Fw "RuleBuilderModel" 30 13 9 := ⟨_, rfl, by decide, by decide, by decide, rfl, rb_inG 1229 (by decide +kernel) rfl⟩
theorem fp_M_init_30 : rb_Fp k_M_init 30 13 9 (.array .int) ∧ ((∃ n, (.array .int : FieldType) = .object n) ∨ ∃ t, (.array .int : FieldType) = .array t) := ⟨⟨fw_M_30, rfl, fun q h => by cases h; exact Or.inr ⟨rfl, rfl, rfl⟩⟩, Or.inr ⟨_, rfl⟩⟩
theorem fw_M_33 : rb_Fw "RuleBuilderModel" 33 13 10 := ⟨_, rfl, by decide, by decide, by decide, rfl, rb_inG 1230 (by decide +kernel) rfl⟩
theorem fp_M_init_33 : rb_Fp k_M_init 33 13 10 (.array .int) ∧ ((∃ n, (.array .int : FieldType) = .object n) ∨ ∃ t, (.array .int : FieldType) = .array t) := ⟨⟨fw_M_33, rfl, fun q h => by cases h; exact Or.inr ⟨rfl, rfl, rfl⟩⟩, Or.inr ⟨_, rfl⟩⟩
theorem fp_M_init_36 : rb_Fp k_M_init 36 13 11 (.array .boolean) ∧ ((∃ n, (.array .boolean : FieldType) = .object n) ∨ ∃ t, (.array .boolean : FieldType) = .array t) := ⟨⟨fw_M_36, rfl, fun q h => by cases h; exact Or.inr ⟨rfl, rfl, rfl⟩⟩, Or.inr ⟨_, rfl⟩⟩
theorem fw_M_39 : rb_Fw "RuleBuilderModel" 39 13 12 := ⟨_, rfl, by decide, by decide, by decide, rfl, rb_inG 1232 (by decide +kernel) rfl⟩
theorem fp_M_init_39 : rb_Fp k_M_init 39 13 12 (.array .int) ∧ ((∃ n, (.array .int : FieldType) = .object n) ∨ ∃ t, (.array .int : FieldType) = .array t) := ⟨⟨fw_M_39, rfl, fun q h => by cases h; exact Or.inr ⟨rfl, rfl, rfl⟩⟩, Or.inr ⟨_, rfl⟩⟩
theorem fw_M_42 : rb_Fw "RuleBuilderModel" 42 13 13 := ⟨_, rfl, by decide, by decide, by decide, rfl, rb_inG 1233 (by decide +kernel) rfl⟩
theorem fp_M_init_42 : rb_Fp k_M_init 42 13 13 (.array .int) ∧ ((∃ n, (.array .int : FieldType) = .object n) ∨ ∃ t, (.array .int : FieldType) = .array t) := ⟨⟨fw_M_42, rfl, fun q h => by cases h; exact Or.inr ⟨rfl, rfl, rfl⟩⟩, Or.inr ⟨_, rfl⟩⟩
theorem fw_M_45 : rb_Fw "RuleBuilderModel" 45 13 14 := ⟨_, rfl, by decide, by decide, by decide, rfl, rb_inG 1234 (by decide +kernel) rfl⟩
theorem fp_M_init_45 : rb_Fp k_M_init 45 13 14 (.array .int) ∧ ((∃ n, (.array .int : FieldType) = .object n) ∨ ∃ t, (.array .int : FieldType) = .array t) := ⟨⟨fw_M_45, rfl, fun q h => by cases h; exact Or.inr ⟨rfl, rfl, rfl⟩⟩, Or.inr ⟨_, rfl⟩⟩
theorem fw_M_48 : rb_Fw "RuleBuilderModel" 48 13 15 := ⟨_, rfl, by decide, by decide, by decide, rfl, rb_inG 1235 (by decide +kernel) rfl⟩
theorem fp_M_init_48 : rb_Fp k_M_init 48 13 15 (.array .int) ∧ ((∃ n, (.array .int : FieldType) = .object n) ∨ ∃ t, (.array .int : FieldType) = .array t) := ⟨⟨fw_M_48, rfl, fun q h => by cases h; exact Or.inr ⟨rfl, rfl, rfl⟩⟩, Or.inr ⟨_, rfl⟩⟩
theorem fw_M_51 : rb_Fw "RuleBuilderModel" 51 13 17 := ⟨_, rfl, by decide, by decide, by decide, rfl, rb_inG 1237 (by decide +kernel) rfl⟩
theorem fp_M_init_51 : rb_Fp k_M_init 51 13 17 (.array .long) ∧ ((∃ n, (.array .long : FieldType) = .object n) ∨ ∃ t, (.array .long : FieldType) = .array t) := ⟨⟨fw_M_51, rfl, fun q h => by cases h; exact Or.inr ⟨rfl, rfl, rfl⟩⟩, Or.inr ⟨_, rfl⟩⟩
theorem fp_M_init_54 : rb_Fp k_M_init 54 13 19 (.array .boolean) ∧ ((∃ n, (.array .boolean : FieldType) = .object n) ∨ ∃ t, (.array .boolean : FieldType) = .array t) := ⟨⟨fw_M_54, rfl, fun q h => by cases h; exact Or.inr ⟨rfl, rfl, rfl⟩⟩, Or.inr ⟨_, rfl⟩⟩
theorem fp_M_init_57 : rb_Fp k_M_init 57 13 20 (.array .boolean) ∧ ((∃ n, (.array .boolean : FieldType) = .object n) ∨ ∃ t, (.array .boolean : FieldType) = .array t) := ⟨⟨fw_M_57, rfl, fun q h => by cases h; exact Or.inr ⟨rfl, rfl, rfl⟩⟩, Or.inr ⟨_, rfl⟩⟩
theorem fp_M_init_60 : rb_Fp k_M_init 60 13 21 (.array .boolean) ∧ ((∃ n, (.array .boolean : FieldType) = .object n) ∨ ∃ t, (.array .boolean : FieldType) = .array t) := ⟨⟨fw_M_60, rfl, fun q h => by cases h; exact Or.inr ⟨rfl, rfl, rfl⟩⟩, Or.inr ⟨_, rfl⟩⟩
theorem fp_M_init_63 : rb_Fp k_M_init 63 13 24 (.array .boolean) ∧ ((∃ n, (.array .boolean : FieldType) = .object n) ∨ ∃ t, (.array .boolean : FieldType) = .array t) := ⟨⟨fw_M_63, rfl, fun q h => by cases h; exact Or.inr ⟨rfl, rfl, rfl⟩⟩, Or.inr ⟨_, rfl⟩⟩
theorem fp_M_init_66 : rb_Fp k_M_init 66 13 25 (.array .int) ∧ ((∃ n, (.array .int : FieldType) = .object n) ∨ ∃ t, (.array .int : FieldType) = .array t) := ⟨⟨fw_M_66, rfl, fun q h => by cases h; exact Or.inr ⟨rfl, rfl, rfl⟩⟩, Or.inr ⟨_, rfl⟩⟩
theorem fw_M_69 : rb_Fw "RuleBuilderModel" 69 13 27 := ⟨_, rfl, by decide, by decide, by decide, rfl, rb_inG 1247 (by decide +kernel) rfl⟩
theorem fp_M_init_69 : rb_Fp k_M_init 69 13 27 (.array .int) ∧ ((∃ n, (.array .int : FieldType) = .object n) ∨ ∃ t, (.array .int : FieldType) = .array t) := ⟨⟨fw_M_69, rfl, fun q h => by cases h; exact Or.inr ⟨rfl, rfl, rfl⟩⟩, Or.inr ⟨_, rfl⟩⟩
theorem fw_M_7 : rb_Fw "RuleBuilderModel" 7 13 0 := ⟨_, rfl, by decide, by decide, by decide, rfl, rb_inG 1220 (by decide +kernel) rfl⟩
theorem fp_M_init_7 : rb_Fp k_M_init 7 13 0 (.array .int) ∧ ((∃ n, (.array .int : FieldType) = .object n) ∨ ∃ t, (.array .int : FieldType) = .array t) := ⟨⟨fw_M_7, rfl, fun q h => by cases h; exact Or.inr ⟨rfl, rfl, rfl⟩⟩, Or.inr ⟨_, rfl⟩⟩
theorem fw_M_72 : rb_Fw "RuleBuilderModel" 72 13 28 := ⟨_, rfl, by decide, by decide, by decide, rfl, rb_inG 1248 (by decide +kernel) rfl⟩
theorem fp_M_init_72 : rb_Fp k_M_init 72 13 28 (.array .int) ∧ ((∃ n, (.array .int : FieldType) = .object n) ∨ ∃ t, (.array .int : FieldType) = .array t) := ⟨⟨fw_M_72, rfl, fun q h => by cases h; exact Or.inr ⟨rfl, rfl, rfl⟩⟩, Or.inr ⟨_, rfl⟩⟩
theorem fw_M_75 : rb_Fw "RuleBuilderModel" 75 13 30 := ⟨_, rfl, by decide, by decide, by decide, rfl, rb_inG 1250 (by decide +kernel) rfl⟩
theorem fp_M_init_75 : rb_Fp k_M_init 75 13 30 (.array .int) ∧ ((∃ n, (.array .int : FieldType) = .object n) ∨ ∃ t, (.array .int : FieldType) = .array t) := ⟨⟨fw_M_75, rfl, fun q h => by cases h; exact Or.inr ⟨rfl, rfl, rfl⟩⟩, Or.inr ⟨_, rfl⟩⟩
theorem fw_M_78 : rb_Fw "RuleBuilderModel" 78 13 31 := ⟨_, rfl, by decide, by decide, by decide, rfl, rb_inG 1251 (by decide +kernel) rfl⟩
theorem fp_M_init_78 : rb_Fp k_M_init 78 13 31 (.array .int) ∧ ((∃ n, (.array .int : FieldType) = .object n) ∨ ∃ t, (.array .int : FieldType) = .array t) := ⟨⟨fw_M_78, rfl, fun q h => by cases h; exact Or.inr ⟨rfl, rfl, rfl⟩⟩, Or.inr ⟨_, rfl⟩⟩
theorem fw_M_81 : rb_Fw "RuleBuilderModel" 81 13 32 := ⟨_, rfl, by decide, by decide, by decide, rfl, rb_inG 1252 (by decide +kernel) rfl⟩
theorem fp_M_init_81 : rb_Fp k_M_init 81 13 32 (.array .int) ∧ ((∃ n, (.array .int : FieldType) = .object n) ∨ ∃ t, (.array .int : FieldType) = .array t) := ⟨⟨fw_M_81, rfl, fun q h => by cases h; exact Or.inr ⟨rfl, rfl, rfl⟩⟩, Or.inr ⟨_, rfl⟩⟩
theorem fw_M_84 : rb_Fw "RuleBuilderModel" 84 13 34 := ⟨_, rfl, by decide, by decide, by decide, rfl, rb_inG 1254 (by decide +kernel) rfl⟩
theorem fp_M_init_84 : rb_Fp k_M_init 84 13 34 (.array .long) ∧ ((∃ n, (.array .long : FieldType) = .object n) ∨ ∃ t, (.array .long : FieldType) = .array t) := ⟨⟨fw_M_84, rfl, fun q h => by cases h; exact Or.inr ⟨rfl, rfl, rfl⟩⟩, Or.inr ⟨_, rfl⟩⟩
theorem fw_M_87 : rb_Fw "RuleBuilderModel" 87 13 35 := ⟨_, rfl, by decide, by decide, by decide, rfl, rb_inG 1255 (by decide +kernel) rfl⟩
theorem fp_M_init_87 : rb_Fp k_M_init 87 13 35 (.array .long) ∧ ((∃ n, (.array .long : FieldType) = .object n) ∨ ∃ t, (.array .long : FieldType) = .array t) := ⟨⟨fw_M_87, rfl, fun q h => by cases h; exact Or.inr ⟨rfl, rfl, rfl⟩⟩, Or.inr ⟨_, rfl⟩⟩
theorem fw_M_90 : rb_Fw "RuleBuilderModel" 90 13 36 := ⟨_, rfl, by decide, by decide, by decide, rfl, rb_inG 1256 (by decide +kernel) rfl⟩
theorem fp_M_init_90 : rb_Fp k_M_init 90 13 36 (.array .int) ∧ ((∃ n, (.array .int : FieldType) = .object n) ∨ ∃ t, (.array .int : FieldType) = .array t) := ⟨⟨fw_M_90, rfl, fun q h => by cases h; exact Or.inr ⟨rfl, rfl, rfl⟩⟩, Or.inr ⟨_, rfl⟩⟩
theorem fw_M_93 : rb_Fw "RuleBuilderModel" 93 13 43 := ⟨_, rfl, by decide, by decide, by decide, rfl, rb_inG 1263 (by decide +kernel) rfl⟩
theorem fp_M_init_93 : rb_Fp k_M_init 93 13 43 (.array .int) ∧ ((∃ n, (.array .int : FieldType) = .object n) ∨ ∃ t, (.array .int : FieldType) = .array t) := ⟨⟨fw_M_93, rfl, fun q h => by cases h; exact Or.inr ⟨rfl, rfl, rfl⟩⟩, Or.inr ⟨_, rfl⟩⟩
theorem fw_M_96 : rb_Fw "RuleBuilderModel" 96 13 45 := ⟨_, rfl, by decide, by decide, by decide, rfl, rb_inG 1265 (by decide +kernel) rfl⟩
theorem fp_M_init_96 : rb_Fp k_M_init 96 13 45 (.array .int) ∧ ((∃ n, (.array .int : FieldType) = .object n) ∨ ∃ t, (.array .int : FieldType) = .array t) := ⟨⟨fw_M_96, rfl, fun q h => by cases h; exact Or.inr ⟨rfl, rfl, rfl⟩⟩, Or.inr ⟨_, rfl⟩⟩
theorem fw_M_99 : rb_Fw "RuleBuilderModel" 99 13 46 := ⟨_, rfl, by decide, by decide, by decide, rfl, rb_inG 1266 (by decide +kernel) rfl⟩
theorem fp_M_init_99 : rb_Fp k_M_init 99 13 46 (.array .int) ∧ ((∃ n, (.array .int : FieldType) = .object n) ∨ ∃ t, (.array .int : FieldType) = .array t) := ⟨⟨fw_M_99, rfl, fun q h => by cases h; exact Or.inr ⟨rfl, rfl, rfl⟩⟩, Or.inr ⟨_, rfl⟩⟩
theorem w_ml_M_1 : Cond.methodLink "RuleBuilderModel" 1 Lib.objectInit ∈ rb_G := rb_inG 1215 (by decide +kernel) rfl
theorem vw_M_156 : rb_Vw "RuleBuilderModel" 156 k_M_forget 13 0 := ⟨mw_M_forget, rb_inG 1216 (by decide +kernel) rfl, rb_inG 1218 (by decide +kernel) rfl, rb_inG 34 (by decide +kernel) rfl, by decide, by decide, _, rfl, rfl⟩
theorem d_M_init_0 : decode prog_14_method_1_code 0 = .ok (.aload_n 0, 1) := by decide +kernel
theorem d_M_init_1 : decode prog_14_method_1_code 1 = .ok (.invokespecial 1, 3) := by decide +kernel
theorem d_M_init_4 : decode prog_14_method_1_code 4 = .ok (.aload_n 0, 1) := by decide +kernel
theorem d_M_init_5 : decode prog_14_method_1_code 5 = .ok (.sipush 320, 3) := by decide +kernel
theorem d_M_init_8 : decode prog_14_method_1_code 8 = .ok (.newarray .int, 2) := by decide +kernel
theorem d_M_init_10 : decode prog_14_method_1_code 10 = .ok (.putfield 7, 3) := by decide +kernel
theorem d_M_init_13 : decode prog_14_method_1_code 13 = .ok (.aload_n 0, 1) := by decide +kernel
theorem d_M_init_14 : decode prog_14_method_1_code 14 = .ok (.bipush 32, 2) := by decide +kernel
theorem d_M_init_16 : decode prog_14_method_1_code 16 = .ok (.newarray .long, 2) := by decide +kernel
theorem d_M_init_18 : decode prog_14_method_1_code 18 = .ok (.putfield 13, 3) := by decide +kernel
theorem d_M_init_21 : decode prog_14_method_1_code 21 = .ok (.aload_n 0, 1) := by decide +kernel
theorem d_M_init_22 : decode prog_14_method_1_code 22 = .ok (.bipush 32, 2) := by decide +kernel
theorem d_M_init_24 : decode prog_14_method_1_code 24 = .ok (.newarray .boolean, 2) := by decide +kernel
theorem d_M_init_26 : decode prog_14_method_1_code 26 = .ok (.putfield 17, 3) := by decide +kernel
theorem d_M_init_29 : decode prog_14_method_1_code 29 = .ok (.aload_n 0, 1) := by decide +kernel
theorem d_M_init_30 : decode prog_14_method_1_code 30 = .ok (.bipush 32, 2) := by decide +kernel
theorem d_M_init_32 : decode prog_14_method_1_code 32 = .ok (.newarray .int, 2) := by decide +kernel
theorem d_M_init_34 : decode prog_14_method_1_code 34 = .ok (.putfield 21, 3) := by decide +kernel
theorem d_M_init_37 : decode prog_14_method_1_code 37 = .ok (.aload_n 0, 1) := by decide +kernel
theorem d_M_init_38 : decode prog_14_method_1_code 38 = .ok (.bipush 32, 2) := by decide +kernel
theorem d_M_init_40 : decode prog_14_method_1_code 40 = .ok (.newarray .int, 2) := by decide +kernel
theorem d_M_init_42 : decode prog_14_method_1_code 42 = .ok (.putfield 24, 3) := by decide +kernel
theorem d_M_init_45 : decode prog_14_method_1_code 45 = .ok (.aload_n 0, 1) := by decide +kernel
theorem d_M_init_46 : decode prog_14_method_1_code 46 = .ok (.bipush 26, 2) := by decide +kernel
theorem d_M_init_48 : decode prog_14_method_1_code 48 = .ok (.newarray .boolean, 2) := by decide +kernel
theorem d_M_init_50 : decode prog_14_method_1_code 50 = .ok (.putfield 27, 3) := by decide +kernel
theorem d_M_init_53 : decode prog_14_method_1_code 53 = .ok (.aload_n 0, 1) := by decide +kernel
theorem d_M_init_54 : decode prog_14_method_1_code 54 = .ok (.sipush 416, 3) := by decide +kernel
theorem d_M_init_57 : decode prog_14_method_1_code 57 = .ok (.newarray .int, 2) := by decide +kernel
theorem d_M_init_59 : decode prog_14_method_1_code 59 = .ok (.putfield 30, 3) := by decide +kernel
theorem d_M_init_62 : decode prog_14_method_1_code 62 = .ok (.aload_n 0, 1) := by decide +kernel
theorem d_M_init_63 : decode prog_14_method_1_code 63 = .ok (.bipush 26, 2) := by decide +kernel
theorem d_M_init_65 : decode prog_14_method_1_code 65 = .ok (.newarray .int, 2) := by decide +kernel
theorem d_M_init_67 : decode prog_14_method_1_code 67 = .ok (.putfield 33, 3) := by decide +kernel
theorem d_M_init_70 : decode prog_14_method_1_code 70 = .ok (.aload_n 0, 1) := by decide +kernel
theorem d_M_init_71 : decode prog_14_method_1_code 71 = .ok (.bipush 26, 2) := by decide +kernel
theorem d_M_init_73 : decode prog_14_method_1_code 73 = .ok (.newarray .boolean, 2) := by decide +kernel
theorem d_M_init_75 : decode prog_14_method_1_code 75 = .ok (.putfield 36, 3) := by decide +kernel
theorem d_M_init_78 : decode prog_14_method_1_code 78 = .ok (.aload_n 0, 1) := by decide +kernel
theorem d_M_init_79 : decode prog_14_method_1_code 79 = .ok (.bipush 26, 2) := by decide +kernel
theorem d_M_init_81 : decode prog_14_method_1_code 81 = .ok (.newarray .int, 2) := by decide +kernel
theorem d_M_init_83 : decode prog_14_method_1_code 83 = .ok (.putfield 39, 3) := by decide +kernel
theorem d_M_init_86 : decode prog_14_method_1_code 86 = .ok (.aload_n 0, 1) := by decide +kernel
theorem d_M_init_87 : decode prog_14_method_1_code 87 = .ok (.bipush 26, 2) := by decide +kernel
theorem d_M_init_89 : decode prog_14_method_1_code 89 = .ok (.newarray .int, 2) := by decide +kernel
theorem d_M_init_91 : decode prog_14_method_1_code 91 = .ok (.putfield 42, 3) := by decide +kernel
theorem d_M_init_94 : decode prog_14_method_1_code 94 = .ok (.aload_n 0, 1) := by decide +kernel
theorem d_M_init_95 : decode prog_14_method_1_code 95 = .ok (.sipush 320, 3) := by decide +kernel
theorem d_M_init_98 : decode prog_14_method_1_code 98 = .ok (.newarray .int, 2) := by decide +kernel
theorem d_M_init_100 : decode prog_14_method_1_code 100 = .ok (.putfield 45, 3) := by decide +kernel
theorem d_M_init_103 : decode prog_14_method_1_code 103 = .ok (.aload_n 0, 1) := by decide +kernel
theorem d_M_init_104 : decode prog_14_method_1_code 104 = .ok (.sipush 321, 3) := by decide +kernel
theorem d_M_init_107 : decode prog_14_method_1_code 107 = .ok (.newarray .int, 2) := by decide +kernel
theorem d_M_init_109 : decode prog_14_method_1_code 109 = .ok (.putfield 48, 3) := by decide +kernel
theorem d_M_init_112 : decode prog_14_method_1_code 112 = .ok (.aload_n 0, 1) := by decide +kernel
theorem d_M_init_113 : decode prog_14_method_1_code 113 = .ok (.bipush 6, 2) := by decide +kernel
theorem d_M_init_115 : decode prog_14_method_1_code 115 = .ok (.newarray .long, 2) := by decide +kernel
theorem d_M_init_117 : decode prog_14_method_1_code 117 = .ok (.putfield 51, 3) := by decide +kernel
theorem d_M_init_120 : decode prog_14_method_1_code 120 = .ok (.aload_n 0, 1) := by decide +kernel
theorem d_M_init_121 : decode prog_14_method_1_code 121 = .ok (.bipush 32, 2) := by decide +kernel
theorem d_M_init_123 : decode prog_14_method_1_code 123 = .ok (.newarray .boolean, 2) := by decide +kernel
theorem d_M_init_125 : decode prog_14_method_1_code 125 = .ok (.putfield 54, 3) := by decide +kernel
theorem d_M_init_128 : decode prog_14_method_1_code 128 = .ok (.aload_n 0, 1) := by decide +kernel
theorem d_M_init_129 : decode prog_14_method_1_code 129 = .ok (.bipush 32, 2) := by decide +kernel
theorem d_M_init_131 : decode prog_14_method_1_code 131 = .ok (.newarray .boolean, 2) := by decide +kernel
theorem d_M_init_133 : decode prog_14_method_1_code 133 = .ok (.putfield 57, 3) := by decide +kernel
theorem d_M_init_136 : decode prog_14_method_1_code 136 = .ok (.aload_n 0, 1) := by decide +kernel
theorem d_M_init_137 : decode prog_14_method_1_code 137 = .ok (.bipush 32, 2) := by decide +kernel
theorem d_M_init_139 : decode prog_14_method_1_code 139 = .ok (.newarray .boolean, 2) := by decide +kernel
theorem d_M_init_141 : decode prog_14_method_1_code 141 = .ok (.putfield 60, 3) := by decide +kernel
theorem d_M_init_144 : decode prog_14_method_1_code 144 = .ok (.aload_n 0, 1) := by decide +kernel
theorem d_M_init_145 : decode prog_14_method_1_code 145 = .ok (.bipush 32, 2) := by decide +kernel
theorem d_M_init_147 : decode prog_14_method_1_code 147 = .ok (.newarray .boolean, 2) := by decide +kernel
theorem d_M_init_149 : decode prog_14_method_1_code 149 = .ok (.putfield 63, 3) := by decide +kernel
theorem d_M_init_152 : decode prog_14_method_1_code 152 = .ok (.aload_n 0, 1) := by decide +kernel
theorem d_M_init_153 : decode prog_14_method_1_code 153 = .ok (.bipush 32, 2) := by decide +kernel
theorem d_M_init_155 : decode prog_14_method_1_code 155 = .ok (.newarray .int, 2) := by decide +kernel
theorem d_M_init_157 : decode prog_14_method_1_code 157 = .ok (.putfield 66, 3) := by decide +kernel
theorem d_M_init_160 : decode prog_14_method_1_code 160 = .ok (.aload_n 0, 1) := by decide +kernel
theorem d_M_init_161 : decode prog_14_method_1_code 161 = .ok (.bipush 80, 2) := by decide +kernel
theorem d_M_init_163 : decode prog_14_method_1_code 163 = .ok (.newarray .int, 2) := by decide +kernel
theorem d_M_init_165 : decode prog_14_method_1_code 165 = .ok (.putfield 69, 3) := by decide +kernel
theorem d_M_init_168 : decode prog_14_method_1_code 168 = .ok (.aload_n 0, 1) := by decide +kernel
theorem d_M_init_169 : decode prog_14_method_1_code 169 = .ok (.bipush 80, 2) := by decide +kernel
theorem d_M_init_171 : decode prog_14_method_1_code 171 = .ok (.newarray .int, 2) := by decide +kernel
theorem d_M_init_173 : decode prog_14_method_1_code 173 = .ok (.putfield 72, 3) := by decide +kernel
theorem d_M_init_176 : decode prog_14_method_1_code 176 = .ok (.aload_n 0, 1) := by decide +kernel
theorem d_M_init_177 : decode prog_14_method_1_code 177 = .ok (.bipush 30, 2) := by decide +kernel
theorem d_M_init_179 : decode prog_14_method_1_code 179 = .ok (.newarray .int, 2) := by decide +kernel
theorem d_M_init_181 : decode prog_14_method_1_code 181 = .ok (.putfield 75, 3) := by decide +kernel
theorem d_M_init_184 : decode prog_14_method_1_code 184 = .ok (.aload_n 0, 1) := by decide +kernel
theorem d_M_init_185 : decode prog_14_method_1_code 185 = .ok (.bipush 30, 2) := by decide +kernel
theorem d_M_init_187 : decode prog_14_method_1_code 187 = .ok (.newarray .int, 2) := by decide +kernel
theorem d_M_init_189 : decode prog_14_method_1_code 189 = .ok (.putfield 78, 3) := by decide +kernel
theorem d_M_init_192 : decode prog_14_method_1_code 192 = .ok (.aload_n 0, 1) := by decide +kernel
theorem d_M_init_193 : decode prog_14_method_1_code 193 = .ok (.bipush 30, 2) := by decide +kernel
theorem d_M_init_195 : decode prog_14_method_1_code 195 = .ok (.newarray .int, 2) := by decide +kernel
theorem d_M_init_197 : decode prog_14_method_1_code 197 = .ok (.putfield 81, 3) := by decide +kernel
theorem d_M_init_200 : decode prog_14_method_1_code 200 = .ok (.aload_n 0, 1) := by decide +kernel
theorem d_M_init_201 : decode prog_14_method_1_code 201 = .ok (.bipush 8, 2) := by decide +kernel
theorem d_M_init_203 : decode prog_14_method_1_code 203 = .ok (.newarray .long, 2) := by decide +kernel
theorem d_M_init_205 : decode prog_14_method_1_code 205 = .ok (.putfield 84, 3) := by decide +kernel
theorem d_M_init_208 : decode prog_14_method_1_code 208 = .ok (.aload_n 0, 1) := by decide +kernel
theorem d_M_init_209 : decode prog_14_method_1_code 209 = .ok (.bipush 8, 2) := by decide +kernel
theorem d_M_init_211 : decode prog_14_method_1_code 211 = .ok (.newarray .long, 2) := by decide +kernel
theorem d_M_init_213 : decode prog_14_method_1_code 213 = .ok (.putfield 87, 3) := by decide +kernel
theorem d_M_init_216 : decode prog_14_method_1_code 216 = .ok (.aload_n 0, 1) := by decide +kernel
theorem d_M_init_217 : decode prog_14_method_1_code 217 = .ok (.bipush 8, 2) := by decide +kernel
theorem d_M_init_219 : decode prog_14_method_1_code 219 = .ok (.newarray .int, 2) := by decide +kernel
theorem d_M_init_221 : decode prog_14_method_1_code 221 = .ok (.putfield 90, 3) := by decide +kernel
theorem d_M_init_224 : decode prog_14_method_1_code 224 = .ok (.aload_n 0, 1) := by decide +kernel
theorem d_M_init_225 : decode prog_14_method_1_code 225 = .ok (.bipush 120, 2) := by decide +kernel
theorem d_M_init_227 : decode prog_14_method_1_code 227 = .ok (.newarray .int, 2) := by decide +kernel
theorem d_M_init_229 : decode prog_14_method_1_code 229 = .ok (.putfield 93, 3) := by decide +kernel
theorem d_M_init_232 : decode prog_14_method_1_code 232 = .ok (.aload_n 0, 1) := by decide +kernel
theorem d_M_init_233 : decode prog_14_method_1_code 233 = .ok (.bipush 60, 2) := by decide +kernel
theorem d_M_init_235 : decode prog_14_method_1_code 235 = .ok (.newarray .int, 2) := by decide +kernel
theorem d_M_init_237 : decode prog_14_method_1_code 237 = .ok (.putfield 96, 3) := by decide +kernel
theorem d_M_init_240 : decode prog_14_method_1_code 240 = .ok (.aload_n 0, 1) := by decide +kernel
theorem d_M_init_241 : decode prog_14_method_1_code 241 = .ok (.bipush 60, 2) := by decide +kernel
theorem d_M_init_243 : decode prog_14_method_1_code 243 = .ok (.newarray .int, 2) := by decide +kernel
theorem d_M_init_245 : decode prog_14_method_1_code 245 = .ok (.putfield 99, 3) := by decide +kernel
theorem d_M_init_248 : decode prog_14_method_1_code 248 = .ok (.aload_n 0, 1) := by decide +kernel
theorem d_M_init_249 : decode prog_14_method_1_code 249 = .ok (.bipush 7, 2) := by decide +kernel
theorem d_M_init_251 : decode prog_14_method_1_code 251 = .ok (.newarray .int, 2) := by decide +kernel
theorem d_M_init_253 : decode prog_14_method_1_code 253 = .ok (.putfield 102, 3) := by decide +kernel
theorem d_M_init_256 : decode prog_14_method_1_code 256 = .ok (.aload_n 0, 1) := by decide +kernel
theorem d_M_init_257 : decode prog_14_method_1_code 257 = .ok (.bipush 7, 2) := by decide +kernel
theorem d_M_init_259 : decode prog_14_method_1_code 259 = .ok (.newarray .int, 2) := by decide +kernel
theorem d_M_init_261 : decode prog_14_method_1_code 261 = .ok (.putfield 105, 3) := by decide +kernel
theorem d_M_init_264 : decode prog_14_method_1_code 264 = .ok (.aload_n 0, 1) := by decide +kernel
theorem d_M_init_265 : decode prog_14_method_1_code 265 = .ok (.bipush 7, 2) := by decide +kernel
theorem d_M_init_267 : decode prog_14_method_1_code 267 = .ok (.newarray .int, 2) := by decide +kernel
theorem d_M_init_269 : decode prog_14_method_1_code 269 = .ok (.putfield 108, 3) := by decide +kernel
theorem d_M_init_272 : decode prog_14_method_1_code 272 = .ok (.aload_n 0, 1) := by decide +kernel
theorem d_M_init_273 : decode prog_14_method_1_code 273 = .ok (.bipush 7, 2) := by decide +kernel
theorem d_M_init_275 : decode prog_14_method_1_code 275 = .ok (.newarray .int, 2) := by decide +kernel
theorem d_M_init_277 : decode prog_14_method_1_code 277 = .ok (.putfield 111, 3) := by decide +kernel
theorem d_M_init_280 : decode prog_14_method_1_code 280 = .ok (.aload_n 0, 1) := by decide +kernel
theorem d_M_init_281 : decode prog_14_method_1_code 281 = .ok (.bipush 7, 2) := by decide +kernel
theorem d_M_init_283 : decode prog_14_method_1_code 283 = .ok (.newarray .int, 2) := by decide +kernel
theorem d_M_init_285 : decode prog_14_method_1_code 285 = .ok (.putfield 114, 3) := by decide +kernel
theorem d_M_init_288 : decode prog_14_method_1_code 288 = .ok (.aload_n 0, 1) := by decide +kernel
theorem d_M_init_289 : decode prog_14_method_1_code 289 = .ok (.bipush 7, 2) := by decide +kernel
theorem d_M_init_291 : decode prog_14_method_1_code 291 = .ok (.newarray .int, 2) := by decide +kernel
theorem d_M_init_293 : decode prog_14_method_1_code 293 = .ok (.putfield 117, 3) := by decide +kernel
theorem d_M_init_296 : decode prog_14_method_1_code 296 = .ok (.aload_n 0, 1) := by decide +kernel
theorem d_M_init_297 : decode prog_14_method_1_code 297 = .ok (.bipush 7, 2) := by decide +kernel
theorem d_M_init_299 : decode prog_14_method_1_code 299 = .ok (.newarray .int, 2) := by decide +kernel
theorem d_M_init_301 : decode prog_14_method_1_code 301 = .ok (.putfield 120, 3) := by decide +kernel
theorem d_M_init_304 : decode prog_14_method_1_code 304 = .ok (.aload_n 0, 1) := by decide +kernel
theorem d_M_init_305 : decode prog_14_method_1_code 305 = .ok (.bipush 32, 2) := by decide +kernel
theorem d_M_init_307 : decode prog_14_method_1_code 307 = .ok (.newarray .int, 2) := by decide +kernel
theorem d_M_init_309 : decode prog_14_method_1_code 309 = .ok (.putfield 123, 3) := by decide +kernel
theorem d_M_init_312 : decode prog_14_method_1_code 312 = .ok (.aload_n 0, 1) := by decide +kernel
theorem d_M_init_313 : decode prog_14_method_1_code 313 = .ok (.bipush 32, 2) := by decide +kernel
theorem d_M_init_315 : decode prog_14_method_1_code 315 = .ok (.newarray .boolean, 2) := by decide +kernel
theorem d_M_init_317 : decode prog_14_method_1_code 317 = .ok (.putfield 126, 3) := by decide +kernel
theorem d_M_init_320 : decode prog_14_method_1_code 320 = .ok (.aload_n 0, 1) := by decide +kernel
theorem d_M_init_321 : decode prog_14_method_1_code 321 = .ok (.bipush 32, 2) := by decide +kernel
theorem d_M_init_323 : decode prog_14_method_1_code 323 = .ok (.newarray .boolean, 2) := by decide +kernel
theorem d_M_init_325 : decode prog_14_method_1_code 325 = .ok (.putfield 129, 3) := by decide +kernel
theorem d_M_init_328 : decode prog_14_method_1_code 328 = .ok (.aload_n 0, 1) := by decide +kernel
theorem d_M_init_329 : decode prog_14_method_1_code 329 = .ok (.bipush 32, 2) := by decide +kernel
theorem d_M_init_331 : decode prog_14_method_1_code 331 = .ok (.newarray .int, 2) := by decide +kernel
theorem d_M_init_333 : decode prog_14_method_1_code 333 = .ok (.putfield 132, 3) := by decide +kernel
theorem d_M_init_336 : decode prog_14_method_1_code 336 = .ok (.aload_n 0, 1) := by decide +kernel
theorem d_M_init_337 : decode prog_14_method_1_code 337 = .ok (.bipush 32, 2) := by decide +kernel
theorem d_M_init_339 : decode prog_14_method_1_code 339 = .ok (.newarray .int, 2) := by decide +kernel
theorem d_M_init_341 : decode prog_14_method_1_code 341 = .ok (.putfield 135, 3) := by decide +kernel
theorem d_M_init_344 : decode prog_14_method_1_code 344 = .ok (.aload_n 0, 1) := by decide +kernel
theorem d_M_init_345 : decode prog_14_method_1_code 345 = .ok (.bipush 32, 2) := by decide +kernel
theorem d_M_init_347 : decode prog_14_method_1_code 347 = .ok (.newarray .long, 2) := by decide +kernel
theorem d_M_init_349 : decode prog_14_method_1_code 349 = .ok (.putfield 138, 3) := by decide +kernel
theorem d_M_init_352 : decode prog_14_method_1_code 352 = .ok (.aload_n 0, 1) := by decide +kernel
theorem d_M_init_353 : decode prog_14_method_1_code 353 = .ok (.bipush 32, 2) := by decide +kernel
theorem d_M_init_355 : decode prog_14_method_1_code 355 = .ok (.newarray .int, 2) := by decide +kernel
theorem d_M_init_357 : decode prog_14_method_1_code 357 = .ok (.putfield 141, 3) := by decide +kernel
theorem d_M_init_360 : decode prog_14_method_1_code 360 = .ok (.aload_n 0, 1) := by decide +kernel
theorem d_M_init_361 : decode prog_14_method_1_code 361 = .ok (.bipush 32, 2) := by decide +kernel
theorem d_M_init_363 : decode prog_14_method_1_code 363 = .ok (.newarray .boolean, 2) := by decide +kernel
theorem d_M_init_365 : decode prog_14_method_1_code 365 = .ok (.putfield 144, 3) := by decide +kernel
theorem d_M_init_368 : decode prog_14_method_1_code 368 = .ok (.aload_n 0, 1) := by decide +kernel
theorem d_M_init_369 : decode prog_14_method_1_code 369 = .ok (.bipush 32, 2) := by decide +kernel
theorem d_M_init_371 : decode prog_14_method_1_code 371 = .ok (.newarray .int, 2) := by decide +kernel
theorem d_M_init_373 : decode prog_14_method_1_code 373 = .ok (.putfield 147, 3) := by decide +kernel
theorem d_M_init_376 : decode prog_14_method_1_code 376 = .ok (.aload_n 0, 1) := by decide +kernel
theorem d_M_init_377 : decode prog_14_method_1_code 377 = .ok (.bipush 81, 2) := by decide +kernel
theorem d_M_init_379 : decode prog_14_method_1_code 379 = .ok (.newarray .boolean, 2) := by decide +kernel
theorem d_M_init_381 : decode prog_14_method_1_code 381 = .ok (.putfield 150, 3) := by decide +kernel
theorem d_M_init_384 : decode prog_14_method_1_code 384 = .ok (.aload_n 0, 1) := by decide +kernel
theorem d_M_init_385 : decode prog_14_method_1_code 385 = .ok (.sipush 400, 3) := by decide +kernel
theorem d_M_init_388 : decode prog_14_method_1_code 388 = .ok (.newarray .int, 2) := by decide +kernel
theorem d_M_init_390 : decode prog_14_method_1_code 390 = .ok (.putfield 153, 3) := by decide +kernel
theorem d_M_init_393 : decode prog_14_method_1_code 393 = .ok (.aload_n 0, 1) := by decide +kernel
theorem d_M_init_394 : decode prog_14_method_1_code 394 = .ok (.invokevirtual 156, 3) := by decide +kernel
theorem d_M_init_397 : decode prog_14_method_1_code 397 = .ok (.return_, 1) := by decide +kernel
noncomputable def f_M_init (a0 : Nat) (σ : rb_St) : Option rb_Rs :=
  (rb_nA σ 102 (320 : Int32)).bind fun σ_1 => (rb_pR σ_1 (some a0) 13 0 (some (rb_n σ))).bind fun σ_2 => (rb_nA σ_2 103 (32 : Int32)).bind fun σ_3 => (rb_pR σ_3 (some a0) 13 3 (some (rb_n σ_2))).bind fun σ_4 => (rb_nA σ_4 104 (32 : Int32)).bind fun σ_5 => (rb_pR σ_5 (some a0) 13 4 (some (rb_n σ_4))).bind fun σ_6 => (rb_nA σ_6 102 (32 : Int32)).bind fun σ_7 => (rb_pR σ_7 (some a0) 13 5 (some (rb_n σ_6))).bind fun σ_8 => (rb_nA σ_8 102 (32 : Int32)).bind fun σ_9 => (rb_pR σ_9 (some a0) 13 6 (some (rb_n σ_8))).bind fun σ_10 => (rb_nA σ_10 104 (26 : Int32)).bind fun σ_11 => (rb_pR σ_11 (some a0) 13 8 (some (rb_n σ_10))).bind fun σ_12 => (rb_nA σ_12 102 (416 : Int32)).bind fun σ_13 => (rb_pR σ_13 (some a0) 13 9 (some (rb_n σ_12))).bind fun σ_14 => (rb_nA σ_14 102 (26 : Int32)).bind fun σ_15 => (rb_pR σ_15 (some a0) 13 10 (some (rb_n σ_14))).bind fun σ_16 => (rb_nA σ_16 104 (26 : Int32)).bind fun σ_17 => (rb_pR σ_17 (some a0) 13 11 (some (rb_n σ_16))).bind fun σ_18 => (rb_nA σ_18 102 (26 : Int32)).bind fun σ_19 => (rb_pR σ_19 (some a0) 13 12 (some (rb_n σ_18))).bind fun σ_20 => (rb_nA σ_20 102 (26 : Int32)).bind fun σ_21 => (rb_pR σ_21 (some a0) 13 13 (some (rb_n σ_20))).bind fun σ_22 => (rb_nA σ_22 102 (320 : Int32)).bind fun σ_23 => (rb_pR σ_23 (some a0) 13 14 (some (rb_n σ_22))).bind fun σ_24 => (rb_nA σ_24 102 (321 : Int32)).bind fun σ_25 => (rb_pR σ_25 (some a0) 13 15 (some (rb_n σ_24))).bind fun σ_26 => (rb_nA σ_26 103 (6 : Int32)).bind fun σ_27 => (rb_pR σ_27 (some a0) 13 17 (some (rb_n σ_26))).bind fun σ_28 => (rb_nA σ_28 104 (32 : Int32)).bind fun σ_29 => (rb_pR σ_29 (some a0) 13 19 (some (rb_n σ_28))).bind fun σ_30 => (rb_nA σ_30 104 (32 : Int32)).bind fun σ_31 => (rb_pR σ_31 (some a0) 13 20 (some (rb_n σ_30))).bind fun σ_32 => (rb_nA σ_32 104 (32 : Int32)).bind fun σ_33 => (rb_pR σ_33 (some a0) 13 21 (some (rb_n σ_32))).bind fun σ_34 => (rb_nA σ_34 104 (32 : Int32)).bind fun σ_35 => (rb_pR σ_35 (some a0) 13 24 (some (rb_n σ_34))).bind fun σ_36 => (rb_nA σ_36 102 (32 : Int32)).bind fun σ_37 => (rb_pR σ_37 (some a0) 13 25 (some (rb_n σ_36))).bind fun σ_38 => (rb_nA σ_38 102 (80 : Int32)).bind fun σ_39 => (rb_pR σ_39 (some a0) 13 27 (some (rb_n σ_38))).bind fun σ_40 => (rb_nA σ_40 102 (80 : Int32)).bind fun σ_41 => (rb_pR σ_41 (some a0) 13 28 (some (rb_n σ_40))).bind fun σ_42 => (rb_nA σ_42 102 (30 : Int32)).bind fun σ_43 => (rb_pR σ_43 (some a0) 13 30 (some (rb_n σ_42))).bind fun σ_44 => (rb_nA σ_44 102 (30 : Int32)).bind fun σ_45 => (rb_pR σ_45 (some a0) 13 31 (some (rb_n σ_44))).bind fun σ_46 => (rb_nA σ_46 102 (30 : Int32)).bind fun σ_47 => (rb_pR σ_47 (some a0) 13 32 (some (rb_n σ_46))).bind fun σ_48 => (rb_nA σ_48 103 (8 : Int32)).bind fun σ_49 => (rb_pR σ_49 (some a0) 13 34 (some (rb_n σ_48))).bind fun σ_50 => (rb_nA σ_50 103 (8 : Int32)).bind fun σ_51 => (rb_pR σ_51 (some a0) 13 35 (some (rb_n σ_50))).bind fun σ_52 => (rb_nA σ_52 102 (8 : Int32)).bind fun σ_53 => (rb_pR σ_53 (some a0) 13 36 (some (rb_n σ_52))).bind fun σ_54 => (rb_nA σ_54 102 (120 : Int32)).bind fun σ_55 => (rb_pR σ_55 (some a0) 13 43 (some (rb_n σ_54))).bind fun σ_56 => (rb_nA σ_56 102 (60 : Int32)).bind fun σ_57 => (rb_pR σ_57 (some a0) 13 45 (some (rb_n σ_56))).bind fun σ_58 => (rb_nA σ_58 102 (60 : Int32)).bind fun σ_59 => (rb_pR σ_59 (some a0) 13 46 (some (rb_n σ_58))).bind fun σ_60 => (rb_nA σ_60 102 (7 : Int32)).bind fun σ_61 => (rb_pR σ_61 (some a0) 13 49 (some (rb_n σ_60))).bind fun σ_62 => (rb_nA σ_62 102 (7 : Int32)).bind fun σ_63 => (rb_pR σ_63 (some a0) 13 50 (some (rb_n σ_62))).bind fun σ_64 => (rb_nA σ_64 102 (7 : Int32)).bind fun σ_65 => (rb_pR σ_65 (some a0) 13 51 (some (rb_n σ_64))).bind fun σ_66 => (rb_nA σ_66 102 (7 : Int32)).bind fun σ_67 => (rb_pR σ_67 (some a0) 13 52 (some (rb_n σ_66))).bind fun σ_68 => (rb_nA σ_68 102 (7 : Int32)).bind fun σ_69 => (rb_pR σ_69 (some a0) 13 53 (some (rb_n σ_68))).bind fun σ_70 => (rb_nA σ_70 102 (7 : Int32)).bind fun σ_71 => (rb_pR σ_71 (some a0) 13 54 (some (rb_n σ_70))).bind fun σ_72 => (rb_nA σ_72 102 (7 : Int32)).bind fun σ_73 => (rb_pR σ_73 (some a0) 13 55 (some (rb_n σ_72))).bind fun σ_74 => (rb_nA σ_74 102 (32 : Int32)).bind fun σ_75 => (rb_pR σ_75 (some a0) 13 57 (some (rb_n σ_74))).bind fun σ_76 => (rb_nA σ_76 104 (32 : Int32)).bind fun σ_77 => (rb_pR σ_77 (some a0) 13 58 (some (rb_n σ_76))).bind fun σ_78 => (rb_nA σ_78 104 (32 : Int32)).bind fun σ_79 => (rb_pR σ_79 (some a0) 13 59 (some (rb_n σ_78))).bind fun σ_80 => (rb_nA σ_80 102 (32 : Int32)).bind fun σ_81 => (rb_pR σ_81 (some a0) 13 60 (some (rb_n σ_80))).bind fun σ_82 => (rb_nA σ_82 102 (32 : Int32)).bind fun σ_83 => (rb_pR σ_83 (some a0) 13 61 (some (rb_n σ_82))).bind fun σ_84 => (rb_nA σ_84 103 (32 : Int32)).bind fun σ_85 => (rb_pR σ_85 (some a0) 13 62 (some (rb_n σ_84))).bind fun σ_86 => (rb_nA σ_86 102 (32 : Int32)).bind fun σ_87 => (rb_pR σ_87 (some a0) 13 63 (some (rb_n σ_86))).bind fun σ_88 => (rb_nA σ_88 104 (32 : Int32)).bind fun σ_89 => (rb_pR σ_89 (some a0) 13 64 (some (rb_n σ_88))).bind fun σ_90 => (rb_nA σ_90 102 (32 : Int32)).bind fun σ_91 => (rb_pR σ_91 (some a0) 13 65 (some (rb_n σ_90))).bind fun σ_92 => (rb_nA σ_92 104 (81 : Int32)).bind fun σ_93 => (rb_pR σ_93 (some a0) 13 67 (some (rb_n σ_92))).bind fun σ_94 => (rb_nA σ_94 102 (400 : Int32)).bind fun σ_95 => (rb_pR σ_95 (some a0) 13 71 (some (rb_n σ_94))).bind fun σ_96 => (rb_fc σ_96 (some a0) 13).bind fun _ => rb_cV (f_M_forget ((some a0))  σ_96) fun σ_97 => some (none, σ_97)
theorem s_M_init {E : rb_EV} {d : Nat} (hdd : 1 ≤ d) (a0 : Nat) (σ : rb_St) : rb_Does E k_M_init d [va_rf (some a0)] σ (f_M_init a0 σ) := by
  refine rb_start (lv := [some (va_rf (some a0))]) (by decide) (by simp [lg_sl, rb_as, lv_args, rb_cat_r, rb_cat_i, rb_cat_l, rb_nL, k_M_init]) (fun res => ?_)
  unfold f_M_init
  refine rb_TC.mono (rk_aload_n 0 d_M_init_0 rfl rfl) ?_
  refine rb_TC.mono (rk_objInit w_ml_M_1 w_oi w_oc (Nat.le_trans (by decide) hdd) (by simp [rb_cat_r, rb_cat_i, rb_cat_l]) d_M_init_1 rfl) ?_
  refine rb_TC.mono (rk_aload_n 0 d_M_init_4 rfl rfl) ?_
  refine rb_TC.mono (rk_sipush (320 : Int32) d_M_init_5 (by decide)) ?_
  refine rt_newa (t := 102) ⟨by decide, rfl, w_ac_int⟩ d_M_init_8 (fun σ_1 => ?_)
  refine rt_pR (some a0) fp_M_init_7 d_M_init_10 (fun σ_2 => ?_)
  refine rb_TC.mono (rk_aload_n 0 d_M_init_13 rfl rfl) ?_
  refine rb_TC.mono (rk_bipush (32 : Int32) d_M_init_14 (by decide)) ?_
  refine rt_newa (t := 103) ⟨by decide, rfl, w_ac_long⟩ d_M_init_16 (fun σ_3 => ?_)
  refine rt_pR (some a0) fp_M_init_13 d_M_init_18 (fun σ_4 => ?_)
  refine rb_TC.mono (rk_aload_n 0 d_M_init_21 rfl rfl) ?_
  refine rb_TC.mono (rk_bipush (32 : Int32) d_M_init_22 (by decide)) ?_
  refine rt_newa (t := 104) ⟨by decide, rfl, w_ac_boolean⟩ d_M_init_24 (fun σ_5 => ?_)
  refine rt_pR (some a0) fp_M_init_17 d_M_init_26 (fun σ_6 => ?_)
  refine rb_TC.mono (rk_aload_n 0 d_M_init_29 rfl rfl) ?_
  refine rb_TC.mono (rk_bipush (32 : Int32) d_M_init_30 (by decide)) ?_
  refine rt_newa (t := 102) ⟨by decide, rfl, w_ac_int⟩ d_M_init_32 (fun σ_7 => ?_)
  refine rt_pR (some a0) fp_M_init_21 d_M_init_34 (fun σ_8 => ?_)
  refine rb_TC.mono (rk_aload_n 0 d_M_init_37 rfl rfl) ?_
  refine rb_TC.mono (rk_bipush (32 : Int32) d_M_init_38 (by decide)) ?_
  refine rt_newa (t := 102) ⟨by decide, rfl, w_ac_int⟩ d_M_init_40 (fun σ_9 => ?_)
  refine rt_pR (some a0) fp_M_init_24 d_M_init_42 (fun σ_10 => ?_)
  refine rb_TC.mono (rk_aload_n 0 d_M_init_45 rfl rfl) ?_
  refine rb_TC.mono (rk_bipush (26 : Int32) d_M_init_46 (by decide)) ?_
  refine rt_newa (t := 104) ⟨by decide, rfl, w_ac_boolean⟩ d_M_init_48 (fun σ_11 => ?_)
  refine rt_pR (some a0) fp_M_init_27 d_M_init_50 (fun σ_12 => ?_)
  refine rb_TC.mono (rk_aload_n 0 d_M_init_53 rfl rfl) ?_
  refine rb_TC.mono (rk_sipush (416 : Int32) d_M_init_54 (by decide)) ?_
  refine rt_newa (t := 102) ⟨by decide, rfl, w_ac_int⟩ d_M_init_57 (fun σ_13 => ?_)
  refine rt_pR (some a0) fp_M_init_30 d_M_init_59 (fun σ_14 => ?_)
  refine rb_TC.mono (rk_aload_n 0 d_M_init_62 rfl rfl) ?_
  refine rb_TC.mono (rk_bipush (26 : Int32) d_M_init_63 (by decide)) ?_
  refine rt_newa (t := 102) ⟨by decide, rfl, w_ac_int⟩ d_M_init_65 (fun σ_15 => ?_)
  refine rt_pR (some a0) fp_M_init_33 d_M_init_67 (fun σ_16 => ?_)
  refine rb_TC.mono (rk_aload_n 0 d_M_init_70 rfl rfl) ?_
  refine rb_TC.mono (rk_bipush (26 : Int32) d_M_init_71 (by decide)) ?_
  refine rt_newa (t := 104) ⟨by decide, rfl, w_ac_boolean⟩ d_M_init_73 (fun σ_17 => ?_)
  refine rt_pR (some a0) fp_M_init_36 d_M_init_75 (fun σ_18 => ?_)
  refine rb_TC.mono (rk_aload_n 0 d_M_init_78 rfl rfl) ?_
  refine rb_TC.mono (rk_bipush (26 : Int32) d_M_init_79 (by decide)) ?_
  refine rt_newa (t := 102) ⟨by decide, rfl, w_ac_int⟩ d_M_init_81 (fun σ_19 => ?_)
  refine rt_pR (some a0) fp_M_init_39 d_M_init_83 (fun σ_20 => ?_)
  refine rb_TC.mono (rk_aload_n 0 d_M_init_86 rfl rfl) ?_
  refine rb_TC.mono (rk_bipush (26 : Int32) d_M_init_87 (by decide)) ?_
  refine rt_newa (t := 102) ⟨by decide, rfl, w_ac_int⟩ d_M_init_89 (fun σ_21 => ?_)
  refine rt_pR (some a0) fp_M_init_42 d_M_init_91 (fun σ_22 => ?_)
  refine rb_TC.mono (rk_aload_n 0 d_M_init_94 rfl rfl) ?_
  refine rb_TC.mono (rk_sipush (320 : Int32) d_M_init_95 (by decide)) ?_
  refine rt_newa (t := 102) ⟨by decide, rfl, w_ac_int⟩ d_M_init_98 (fun σ_23 => ?_)
  refine rt_pR (some a0) fp_M_init_45 d_M_init_100 (fun σ_24 => ?_)
  refine rb_TC.mono (rk_aload_n 0 d_M_init_103 rfl rfl) ?_
  refine rb_TC.mono (rk_sipush (321 : Int32) d_M_init_104 (by decide)) ?_
  refine rt_newa (t := 102) ⟨by decide, rfl, w_ac_int⟩ d_M_init_107 (fun σ_25 => ?_)
  refine rt_pR (some a0) fp_M_init_48 d_M_init_109 (fun σ_26 => ?_)
  refine rb_TC.mono (rk_aload_n 0 d_M_init_112 rfl rfl) ?_
  refine rb_TC.mono (rk_bipush (6 : Int32) d_M_init_113 (by decide)) ?_
  refine rt_newa (t := 103) ⟨by decide, rfl, w_ac_long⟩ d_M_init_115 (fun σ_27 => ?_)
  refine rt_pR (some a0) fp_M_init_51 d_M_init_117 (fun σ_28 => ?_)
  refine rb_TC.mono (rk_aload_n 0 d_M_init_120 rfl rfl) ?_
  refine rb_TC.mono (rk_bipush (32 : Int32) d_M_init_121 (by decide)) ?_
  refine rt_newa (t := 104) ⟨by decide, rfl, w_ac_boolean⟩ d_M_init_123 (fun σ_29 => ?_)
  refine rt_pR (some a0) fp_M_init_54 d_M_init_125 (fun σ_30 => ?_)
  refine rb_TC.mono (rk_aload_n 0 d_M_init_128 rfl rfl) ?_
  refine rb_TC.mono (rk_bipush (32 : Int32) d_M_init_129 (by decide)) ?_
  refine rt_newa (t := 104) ⟨by decide, rfl, w_ac_boolean⟩ d_M_init_131 (fun σ_31 => ?_)
  refine rt_pR (some a0) fp_M_init_57 d_M_init_133 (fun σ_32 => ?_)
  refine rb_TC.mono (rk_aload_n 0 d_M_init_136 rfl rfl) ?_
  refine rb_TC.mono (rk_bipush (32 : Int32) d_M_init_137 (by decide)) ?_
  refine rt_newa (t := 104) ⟨by decide, rfl, w_ac_boolean⟩ d_M_init_139 (fun σ_33 => ?_)
  refine rt_pR (some a0) fp_M_init_60 d_M_init_141 (fun σ_34 => ?_)
  refine rb_TC.mono (rk_aload_n 0 d_M_init_144 rfl rfl) ?_
  refine rb_TC.mono (rk_bipush (32 : Int32) d_M_init_145 (by decide)) ?_
  refine rt_newa (t := 104) ⟨by decide, rfl, w_ac_boolean⟩ d_M_init_147 (fun σ_35 => ?_)
  refine rt_pR (some a0) fp_M_init_63 d_M_init_149 (fun σ_36 => ?_)
  refine rb_TC.mono (rk_aload_n 0 d_M_init_152 rfl rfl) ?_
  refine rb_TC.mono (rk_bipush (32 : Int32) d_M_init_153 (by decide)) ?_
  refine rt_newa (t := 102) ⟨by decide, rfl, w_ac_int⟩ d_M_init_155 (fun σ_37 => ?_)
  refine rt_pR (some a0) fp_M_init_66 d_M_init_157 (fun σ_38 => ?_)
  refine rb_TC.mono (rk_aload_n 0 d_M_init_160 rfl rfl) ?_
  refine rb_TC.mono (rk_bipush (80 : Int32) d_M_init_161 (by decide)) ?_
  refine rt_newa (t := 102) ⟨by decide, rfl, w_ac_int⟩ d_M_init_163 (fun σ_39 => ?_)
  refine rt_pR (some a0) fp_M_init_69 d_M_init_165 (fun σ_40 => ?_)
  refine rb_TC.mono (rk_aload_n 0 d_M_init_168 rfl rfl) ?_
  refine rb_TC.mono (rk_bipush (80 : Int32) d_M_init_169 (by decide)) ?_
  refine rt_newa (t := 102) ⟨by decide, rfl, w_ac_int⟩ d_M_init_171 (fun σ_41 => ?_)
  refine rt_pR (some a0) fp_M_init_72 d_M_init_173 (fun σ_42 => ?_)
  refine rb_TC.mono (rk_aload_n 0 d_M_init_176 rfl rfl) ?_
  refine rb_TC.mono (rk_bipush (30 : Int32) d_M_init_177 (by decide)) ?_
  refine rt_newa (t := 102) ⟨by decide, rfl, w_ac_int⟩ d_M_init_179 (fun σ_43 => ?_)
  refine rt_pR (some a0) fp_M_init_75 d_M_init_181 (fun σ_44 => ?_)
  refine rb_TC.mono (rk_aload_n 0 d_M_init_184 rfl rfl) ?_
  refine rb_TC.mono (rk_bipush (30 : Int32) d_M_init_185 (by decide)) ?_
  refine rt_newa (t := 102) ⟨by decide, rfl, w_ac_int⟩ d_M_init_187 (fun σ_45 => ?_)
  refine rt_pR (some a0) fp_M_init_78 d_M_init_189 (fun σ_46 => ?_)
  refine rb_TC.mono (rk_aload_n 0 d_M_init_192 rfl rfl) ?_
  refine rb_TC.mono (rk_bipush (30 : Int32) d_M_init_193 (by decide)) ?_
  refine rt_newa (t := 102) ⟨by decide, rfl, w_ac_int⟩ d_M_init_195 (fun σ_47 => ?_)
  refine rt_pR (some a0) fp_M_init_81 d_M_init_197 (fun σ_48 => ?_)
  refine rb_TC.mono (rk_aload_n 0 d_M_init_200 rfl rfl) ?_
  refine rb_TC.mono (rk_bipush (8 : Int32) d_M_init_201 (by decide)) ?_
  refine rt_newa (t := 103) ⟨by decide, rfl, w_ac_long⟩ d_M_init_203 (fun σ_49 => ?_)
  refine rt_pR (some a0) fp_M_init_84 d_M_init_205 (fun σ_50 => ?_)
  refine rb_TC.mono (rk_aload_n 0 d_M_init_208 rfl rfl) ?_
  refine rb_TC.mono (rk_bipush (8 : Int32) d_M_init_209 (by decide)) ?_
  refine rt_newa (t := 103) ⟨by decide, rfl, w_ac_long⟩ d_M_init_211 (fun σ_51 => ?_)
  refine rt_pR (some a0) fp_M_init_87 d_M_init_213 (fun σ_52 => ?_)
  refine rb_TC.mono (rk_aload_n 0 d_M_init_216 rfl rfl) ?_
  refine rb_TC.mono (rk_bipush (8 : Int32) d_M_init_217 (by decide)) ?_
  refine rt_newa (t := 102) ⟨by decide, rfl, w_ac_int⟩ d_M_init_219 (fun σ_53 => ?_)
  refine rt_pR (some a0) fp_M_init_90 d_M_init_221 (fun σ_54 => ?_)
  refine rb_TC.mono (rk_aload_n 0 d_M_init_224 rfl rfl) ?_
  refine rb_TC.mono (rk_bipush (120 : Int32) d_M_init_225 (by decide)) ?_
  refine rt_newa (t := 102) ⟨by decide, rfl, w_ac_int⟩ d_M_init_227 (fun σ_55 => ?_)
  refine rt_pR (some a0) fp_M_init_93 d_M_init_229 (fun σ_56 => ?_)
  refine rb_TC.mono (rk_aload_n 0 d_M_init_232 rfl rfl) ?_
  refine rb_TC.mono (rk_bipush (60 : Int32) d_M_init_233 (by decide)) ?_
  refine rt_newa (t := 102) ⟨by decide, rfl, w_ac_int⟩ d_M_init_235 (fun σ_57 => ?_)
  refine rt_pR (some a0) fp_M_init_96 d_M_init_237 (fun σ_58 => ?_)
  refine rb_TC.mono (rk_aload_n 0 d_M_init_240 rfl rfl) ?_
  refine rb_TC.mono (rk_bipush (60 : Int32) d_M_init_241 (by decide)) ?_
  refine rt_newa (t := 102) ⟨by decide, rfl, w_ac_int⟩ d_M_init_243 (fun σ_59 => ?_)
  refine rt_pR (some a0) fp_M_init_99 d_M_init_245 (fun σ_60 => ?_)
  refine rb_TC.mono (rk_aload_n 0 d_M_init_248 rfl rfl) ?_
  refine rb_TC.mono (rk_bipush (7 : Int32) d_M_init_249 (by decide)) ?_
  refine rt_newa (t := 102) ⟨by decide, rfl, w_ac_int⟩ d_M_init_251 (fun σ_61 => ?_)
  refine rt_pR (some a0) fp_M_init_102 d_M_init_253 (fun σ_62 => ?_)
  refine rb_TC.mono (rk_aload_n 0 d_M_init_256 rfl rfl) ?_
  refine rb_TC.mono (rk_bipush (7 : Int32) d_M_init_257 (by decide)) ?_
  refine rt_newa (t := 102) ⟨by decide, rfl, w_ac_int⟩ d_M_init_259 (fun σ_63 => ?_)
  refine rt_pR (some a0) fp_M_init_105 d_M_init_261 (fun σ_64 => ?_)
  refine rb_TC.mono (rk_aload_n 0 d_M_init_264 rfl rfl) ?_
  refine rb_TC.mono (rk_bipush (7 : Int32) d_M_init_265 (by decide)) ?_
  refine rt_newa (t := 102) ⟨by decide, rfl, w_ac_int⟩ d_M_init_267 (fun σ_65 => ?_)
  refine rt_pR (some a0) fp_M_init_108 d_M_init_269 (fun σ_66 => ?_)
  refine rb_TC.mono (rk_aload_n 0 d_M_init_272 rfl rfl) ?_
  refine rb_TC.mono (rk_bipush (7 : Int32) d_M_init_273 (by decide)) ?_
  refine rt_newa (t := 102) ⟨by decide, rfl, w_ac_int⟩ d_M_init_275 (fun σ_67 => ?_)
  refine rt_pR (some a0) fp_M_init_111 d_M_init_277 (fun σ_68 => ?_)
  refine rb_TC.mono (rk_aload_n 0 d_M_init_280 rfl rfl) ?_
  refine rb_TC.mono (rk_bipush (7 : Int32) d_M_init_281 (by decide)) ?_
  refine rt_newa (t := 102) ⟨by decide, rfl, w_ac_int⟩ d_M_init_283 (fun σ_69 => ?_)
  refine rt_pR (some a0) fp_M_init_114 d_M_init_285 (fun σ_70 => ?_)
  refine rb_TC.mono (rk_aload_n 0 d_M_init_288 rfl rfl) ?_
  refine rb_TC.mono (rk_bipush (7 : Int32) d_M_init_289 (by decide)) ?_
  refine rt_newa (t := 102) ⟨by decide, rfl, w_ac_int⟩ d_M_init_291 (fun σ_71 => ?_)
  refine rt_pR (some a0) fp_M_init_117 d_M_init_293 (fun σ_72 => ?_)
  refine rb_TC.mono (rk_aload_n 0 d_M_init_296 rfl rfl) ?_
  refine rb_TC.mono (rk_bipush (7 : Int32) d_M_init_297 (by decide)) ?_
  refine rt_newa (t := 102) ⟨by decide, rfl, w_ac_int⟩ d_M_init_299 (fun σ_73 => ?_)
  refine rt_pR (some a0) fp_M_init_120 d_M_init_301 (fun σ_74 => ?_)
  refine rb_TC.mono (rk_aload_n 0 d_M_init_304 rfl rfl) ?_
  refine rb_TC.mono (rk_bipush (32 : Int32) d_M_init_305 (by decide)) ?_
  refine rt_newa (t := 102) ⟨by decide, rfl, w_ac_int⟩ d_M_init_307 (fun σ_75 => ?_)
  refine rt_pR (some a0) fp_M_init_123 d_M_init_309 (fun σ_76 => ?_)
  refine rb_TC.mono (rk_aload_n 0 d_M_init_312 rfl rfl) ?_
  refine rb_TC.mono (rk_bipush (32 : Int32) d_M_init_313 (by decide)) ?_
  refine rt_newa (t := 104) ⟨by decide, rfl, w_ac_boolean⟩ d_M_init_315 (fun σ_77 => ?_)
  refine rt_pR (some a0) fp_M_init_126 d_M_init_317 (fun σ_78 => ?_)
  refine rb_TC.mono (rk_aload_n 0 d_M_init_320 rfl rfl) ?_
  refine rb_TC.mono (rk_bipush (32 : Int32) d_M_init_321 (by decide)) ?_
  refine rt_newa (t := 104) ⟨by decide, rfl, w_ac_boolean⟩ d_M_init_323 (fun σ_79 => ?_)
  refine rt_pR (some a0) fp_M_init_129 d_M_init_325 (fun σ_80 => ?_)
  refine rb_TC.mono (rk_aload_n 0 d_M_init_328 rfl rfl) ?_
  refine rb_TC.mono (rk_bipush (32 : Int32) d_M_init_329 (by decide)) ?_
  refine rt_newa (t := 102) ⟨by decide, rfl, w_ac_int⟩ d_M_init_331 (fun σ_81 => ?_)
  refine rt_pR (some a0) fp_M_init_132 d_M_init_333 (fun σ_82 => ?_)
  refine rb_TC.mono (rk_aload_n 0 d_M_init_336 rfl rfl) ?_
  refine rb_TC.mono (rk_bipush (32 : Int32) d_M_init_337 (by decide)) ?_
  refine rt_newa (t := 102) ⟨by decide, rfl, w_ac_int⟩ d_M_init_339 (fun σ_83 => ?_)
  refine rt_pR (some a0) fp_M_init_135 d_M_init_341 (fun σ_84 => ?_)
  refine rb_TC.mono (rk_aload_n 0 d_M_init_344 rfl rfl) ?_
  refine rb_TC.mono (rk_bipush (32 : Int32) d_M_init_345 (by decide)) ?_
  refine rt_newa (t := 103) ⟨by decide, rfl, w_ac_long⟩ d_M_init_347 (fun σ_85 => ?_)
  refine rt_pR (some a0) fp_M_init_138 d_M_init_349 (fun σ_86 => ?_)
  refine rb_TC.mono (rk_aload_n 0 d_M_init_352 rfl rfl) ?_
  refine rb_TC.mono (rk_bipush (32 : Int32) d_M_init_353 (by decide)) ?_
  refine rt_newa (t := 102) ⟨by decide, rfl, w_ac_int⟩ d_M_init_355 (fun σ_87 => ?_)
  refine rt_pR (some a0) fp_M_init_141 d_M_init_357 (fun σ_88 => ?_)
  refine rb_TC.mono (rk_aload_n 0 d_M_init_360 rfl rfl) ?_
  refine rb_TC.mono (rk_bipush (32 : Int32) d_M_init_361 (by decide)) ?_
  refine rt_newa (t := 104) ⟨by decide, rfl, w_ac_boolean⟩ d_M_init_363 (fun σ_89 => ?_)
  refine rt_pR (some a0) fp_M_init_144 d_M_init_365 (fun σ_90 => ?_)
  refine rb_TC.mono (rk_aload_n 0 d_M_init_368 rfl rfl) ?_
  refine rb_TC.mono (rk_bipush (32 : Int32) d_M_init_369 (by decide)) ?_
  refine rt_newa (t := 102) ⟨by decide, rfl, w_ac_int⟩ d_M_init_371 (fun σ_91 => ?_)
  refine rt_pR (some a0) fp_M_init_147 d_M_init_373 (fun σ_92 => ?_)
  refine rb_TC.mono (rk_aload_n 0 d_M_init_376 rfl rfl) ?_
  refine rb_TC.mono (rk_bipush (81 : Int32) d_M_init_377 (by decide)) ?_
  refine rt_newa (t := 104) ⟨by decide, rfl, w_ac_boolean⟩ d_M_init_379 (fun σ_93 => ?_)
  refine rt_pR (some a0) fp_M_init_150 d_M_init_381 (fun σ_94 => ?_)
  refine rb_TC.mono (rk_aload_n 0 d_M_init_384 rfl rfl) ?_
  refine rb_TC.mono (rk_sipush (400 : Int32) d_M_init_385 (by decide)) ?_
  refine rt_newa (t := 102) ⟨by decide, rfl, w_ac_int⟩ d_M_init_388 (fun σ_95 => ?_)
  refine rt_pR (some a0) fp_M_init_153 d_M_init_390 (fun σ_96 => ?_)
  refine rb_TC.mono (rk_aload_n 0 d_M_init_393 rfl rfl) ?_
  refine rt_vV (As := []) (st := []) ((some a0)) vw_M_156 (s_M_forget (Nat.le_refl _) ((some a0))  σ_96) (Nat.le_trans (by decide) hdd) rfl (by simp [rb_cat_r, rb_cat_i, rb_cat_l]) d_M_init_394 (fun σ_97 => ?_)
  exact rt_vret rfl (fun h => h) d_M_init_397
-- ===== RuleBuilderModel.type(C)Z
def k_M_type : rb_MK := (⟨"RuleBuilderModel", "type", "(C)Z"⟩, prog_14_method_2_code, 3, some (.boolean))
theorem mw_M_type : rb_Mw k_M_type 1 := ⟨rb_inG 1445 (by decide +kernel) rfl, rb_inG 94 (by decide +kernel) rfl, ⟨by decide, by decide, by decide +kernel⟩, by decide⟩
theorem fw_M_159 : rb_Fw "RuleBuilderModel" 159 13 1 := ⟨_, rfl, by decide, by decide, by decide, rfl, rb_inG 1221 (by decide +kernel) rfl⟩
theorem fp_M_type_159 : rb_Fp k_M_type 159 13 1 .int := ⟨fw_M_159, rfl, fun q h => by cases h; exact Or.inl rfl⟩
theorem d_M_type_0 : decode prog_14_method_2_code 0 = .ok (.iload_n 1, 1) := by decide +kernel
theorem d_M_type_1 : decode prog_14_method_2_code 1 = .ok (.bipush 32, 2) := by decide +kernel
theorem d_M_type_3 : decode prog_14_method_2_code 3 = .ok (.if_icmp .lt 9, 3) := by decide +kernel
theorem d_M_type_6 : decode prog_14_method_2_code 6 = .ok (.iload_n 1, 1) := by decide +kernel
theorem d_M_type_7 : decode prog_14_method_2_code 7 = .ok (.bipush 126, 2) := by decide +kernel
theorem d_M_type_9 : decode prog_14_method_2_code 9 = .ok (.if_icmp .le 15, 3) := by decide +kernel
theorem d_M_type_12 : decode prog_14_method_2_code 12 = .ok (.iload_n 1, 1) := by decide +kernel
theorem d_M_type_13 : decode prog_14_method_2_code 13 = .ok (.bipush 9, 2) := by decide +kernel
theorem d_M_type_15 : decode prog_14_method_2_code 15 = .ok (.if_icmp .eq 9, 3) := by decide +kernel
theorem d_M_type_18 : decode prog_14_method_2_code 18 = .ok (.iload_n 1, 1) := by decide +kernel
theorem d_M_type_19 : decode prog_14_method_2_code 19 = .ok (.bipush 10, 2) := by decide +kernel
theorem d_M_type_21 : decode prog_14_method_2_code 21 = .ok (.if_icmp .ne 7, 3) := by decide +kernel
theorem d_M_type_24 : decode prog_14_method_2_code 24 = .ok (.iconst 1, 1) := by decide +kernel
theorem d_M_type_25 : decode prog_14_method_2_code 25 = .ok (.goto 4, 3) := by decide +kernel
theorem d_M_type_28 : decode prog_14_method_2_code 28 = .ok (.iconst 0, 1) := by decide +kernel
theorem d_M_type_29 : decode prog_14_method_2_code 29 = .ok (.istore_n 2, 1) := by decide +kernel
theorem d_M_type_30 : decode prog_14_method_2_code 30 = .ok (.iload_n 2, 1) := by decide +kernel
theorem d_M_type_31 : decode prog_14_method_2_code 31 = .ok (.ifCond .eq 13, 3) := by decide +kernel
theorem d_M_type_34 : decode prog_14_method_2_code 34 = .ok (.aload_n 0, 1) := by decide +kernel
theorem d_M_type_35 : decode prog_14_method_2_code 35 = .ok (.getfield 159, 3) := by decide +kernel
theorem d_M_type_38 : decode prog_14_method_2_code 38 = .ok (.sipush 320, 3) := by decide +kernel
theorem d_M_type_41 : decode prog_14_method_2_code 41 = .ok (.if_icmp .ne 5, 3) := by decide +kernel
theorem d_M_type_44 : decode prog_14_method_2_code 44 = .ok (.iconst 0, 1) := by decide +kernel
theorem d_M_type_45 : decode prog_14_method_2_code 45 = .ok (.ireturn, 1) := by decide +kernel
theorem d_M_type_46 : decode prog_14_method_2_code 46 = .ok (.aload_n 0, 1) := by decide +kernel
theorem d_M_type_47 : decode prog_14_method_2_code 47 = .ok (.getfield 7, 3) := by decide +kernel
theorem d_M_type_50 : decode prog_14_method_2_code 50 = .ok (.aload_n 0, 1) := by decide +kernel
theorem d_M_type_51 : decode prog_14_method_2_code 51 = .ok (.getfield 159, 3) := by decide +kernel
theorem d_M_type_54 : decode prog_14_method_2_code 54 = .ok (.iload_n 1, 1) := by decide +kernel
theorem d_M_type_55 : decode prog_14_method_2_code 55 = .ok (.iastore, 1) := by decide +kernel
theorem d_M_type_56 : decode prog_14_method_2_code 56 = .ok (.aload_n 0, 1) := by decide +kernel
theorem d_M_type_57 : decode prog_14_method_2_code 57 = .ok (.dup, 1) := by decide +kernel
theorem d_M_type_58 : decode prog_14_method_2_code 58 = .ok (.getfield 159, 3) := by decide +kernel
theorem d_M_type_61 : decode prog_14_method_2_code 61 = .ok (.iconst 1, 1) := by decide +kernel
theorem d_M_type_62 : decode prog_14_method_2_code 62 = .ok (.iadd, 1) := by decide +kernel
theorem d_M_type_63 : decode prog_14_method_2_code 63 = .ok (.putfield 159, 3) := by decide +kernel
theorem d_M_type_66 : decode prog_14_method_2_code 66 = .ok (.iconst 1, 1) := by decide +kernel
theorem d_M_type_67 : decode prog_14_method_2_code 67 = .ok (.ireturn, 1) := by decide +kernel
noncomputable def f_M_type_j29 (r0 : Option Nat) (x1 : Int32) (sx0 : Int32) (σ : rb_St) : Option rb_Rs :=
  if sx0 = 0 then (some (some (.int (0 : Int32)), σ)) else ((rb_gI σ r0 13 1).bind fun x_1 => if x_1 = (320 : Int32) then (some (some (.int (0 : Int32)), σ)) else ((rb_gR σ r0 13 0).bind fun r_2 => (rb_gI σ r0 13 1).bind fun x_3 => (rb_sI σ r_2 102 x_3 x1).bind fun σ_4 => (rb_gI σ_4 r0 13 1).bind fun x_5 => (rb_pI σ_4 r0 13 1 (x_5 + (1 : Int32))).bind fun σ_6 => some (some (.int (1 : Int32)), σ_6)))
theorem t_M_type_j29 {E : rb_EV} {d : Nat} {σ0 : rb_St} {res : rb_Rs} (hdd : 0 ≤ d)  (r0 : Option Nat) (x1 : Int32) (sx0 : Int32) (σ : rb_St) : rb_TC (f_M_type_j29 r0 x1 sx0 σ) (fun r => r = res) (rb_WK E k_M_type d σ0 res 29 [some (va_rf r0), some (.int x1), none] [.int sx0] σ) := by
  unfold f_M_type_j29
  refine rb_TC.mono (rk_istore_n (lv2 := [some (va_rf r0), some (.int x1), some (.int sx0)]) 2 d_M_type_29 rfl (by decide) (fun _ => rb_one_i) rfl) ?_
  refine rb_TC.mono (rk_iload_n 2 d_M_type_30 rfl rfl) ?_
  refine rt_if_eq 44 d_M_type_31 (by decide) (fun _ => ?_) (fun _ => ?_)
  · refine rb_TC.mono (rk_iconst (0 : Int32) d_M_type_44 (by decide)) ?_
    exact rt_iret (ty := .boolean) rfl (by decide) (fun h => h) d_M_type_45
  · refine rb_TC.mono (rk_aload_n 0 d_M_type_34 rfl rfl) ?_
    refine rt_gI r0 fw_M_159 d_M_type_35 (fun x_1 => ?_)
    refine rb_TC.mono (rk_sipush (320 : Int32) d_M_type_38 (by decide)) ?_
    refine rt_icmp_ne 46 d_M_type_41 (by decide) (fun _ => ?_) (fun _ => ?_)
    · refine rb_TC.mono (rk_iconst (0 : Int32) d_M_type_44 (by decide)) ?_
      exact rt_iret (ty := .boolean) rfl (by decide) (fun h => h) d_M_type_45
    · refine rb_TC.mono (rk_aload_n 0 d_M_type_46 rfl rfl) ?_
      refine rt_gR r0 fw_M_7 d_M_type_47 (fun r_2 => ?_)
      refine rb_TC.mono (rk_aload_n 0 d_M_type_50 rfl rfl) ?_
      refine rt_gI r0 fw_M_159 d_M_type_51 (fun x_3 => ?_)
      refine rb_TC.mono (rk_iload_n 1 d_M_type_54 rfl rfl) ?_
      refine rt_iast r_2 d_M_type_55 (fun σ_4 => ?_)
      refine rb_TC.mono (rk_aload_n 0 d_M_type_56 rfl rfl) ?_
      refine rb_TC.mono (rk_dupr d_M_type_57) ?_
      refine rt_gI r0 fw_M_159 d_M_type_58 (fun x_5 => ?_)
      refine rb_TC.mono (rk_iconst (1 : Int32) d_M_type_61 (by decide)) ?_
      refine rb_TC.mono (rk_iadd d_M_type_62) ?_
      refine rt_pI r0 fp_M_type_159 d_M_type_63 (fun σ_6 => ?_)
      refine rb_TC.mono (rk_iconst (1 : Int32) d_M_type_66 (by decide)) ?_
      exact rt_iret (ty := .boolean) rfl (by decide) (fun h => h) d_M_type_67
noncomputable def f_M_type_j24 (r0 : Option Nat) (x1 : Int32) (σ : rb_St) : Option rb_Rs :=
  f_M_type_j29 (r0) (x1) ((1 : Int32)) σ
theorem t_M_type_j24 {E : rb_EV} {d : Nat} {σ0 : rb_St} {res : rb_Rs} (hdd : 0 ≤ d)  (r0 : Option Nat) (x1 : Int32) (σ : rb_St) : rb_TC (f_M_type_j24 r0 x1 σ) (fun r => r = res) (rb_WK E k_M_type d σ0 res 24 [some (va_rf r0), some (.int x1), none] [] σ) := by
  unfold f_M_type_j24
  refine rb_TC.mono (rk_iconst (1 : Int32) d_M_type_24 (by decide)) ?_
  refine rb_TC.mono (rk_goto 29 d_M_type_25 (by decide)) ?_
  exact t_M_type_j29 hdd  (r0) (x1) ((1 : Int32)) σ
noncomputable def f_M_type_j12 (r0 : Option Nat) (x1 : Int32) (σ : rb_St) : Option rb_Rs :=
  if x1 = (9 : Int32) then (f_M_type_j24 (r0) (x1) σ) else (if x1 = (10 : Int32) then (f_M_type_j24 (r0) (x1) σ) else (f_M_type_j29 (r0) (x1) ((0 : Int32)) σ))
theorem t_M_type_j12 {E : rb_EV} {d : Nat} {σ0 : rb_St} {res : rb_Rs} (hdd : 0 ≤ d)  (r0 : Option Nat) (x1 : Int32) (σ : rb_St) : rb_TC (f_M_type_j12 r0 x1 σ) (fun r => r = res) (rb_WK E k_M_type d σ0 res 12 [some (va_rf r0), some (.int x1), none] [] σ) := by
  unfold f_M_type_j12
  refine rb_TC.mono (rk_iload_n 1 d_M_type_12 rfl rfl) ?_
  refine rb_TC.mono (rk_bipush (9 : Int32) d_M_type_13 (by decide)) ?_
  refine rt_icmp_eq 24 d_M_type_15 (by decide) (fun _ => ?_) (fun _ => ?_)
  · exact t_M_type_j24 hdd  (r0) (x1) σ
  · refine rb_TC.mono (rk_iload_n 1 d_M_type_18 rfl rfl) ?_
    refine rb_TC.mono (rk_bipush (10 : Int32) d_M_type_19 (by decide)) ?_
    refine rt_icmp_ne 28 d_M_type_21 (by decide) (fun _ => ?_) (fun _ => ?_)
    · exact t_M_type_j24 hdd  (r0) (x1) σ
    · refine rb_TC.mono (rk_iconst (0 : Int32) d_M_type_28 (by decide)) ?_
      exact t_M_type_j29 hdd  (r0) (x1) ((0 : Int32)) σ
noncomputable def f_M_type (r0 : Option Nat) (x1 : Int32) (σ : rb_St) : Option rb_Rs :=
  if x1 < (32 : Int32) then (f_M_type_j12 (r0) (x1) σ) else (if x1 ≤ (126 : Int32) then (f_M_type_j24 (r0) (x1) σ) else (f_M_type_j12 (r0) (x1) σ))
theorem s_M_type {E : rb_EV} {d : Nat} (hdd : 0 ≤ d) (r0 : Option Nat) (x1 : Int32) (σ : rb_St) : rb_Does E k_M_type d [va_rf r0, .int x1] σ (f_M_type r0 x1 σ) := by
  refine rb_start (lv := [some (va_rf r0), some (.int x1), none]) (by decide) (by simp [lg_sl, rb_as, lv_args, rb_cat_r, rb_cat_i, rb_cat_l, rb_nL, k_M_type]) (fun res => ?_)
  unfold f_M_type
  refine rb_TC.mono (rk_iload_n 1 d_M_type_0 rfl rfl) ?_
  refine rb_TC.mono (rk_bipush (32 : Int32) d_M_type_1 (by decide)) ?_
  refine rt_icmp_lt 12 d_M_type_3 (by decide) (fun _ => ?_) (fun _ => ?_)
  · exact t_M_type_j12 hdd  (r0) (x1) σ
  · refine rb_TC.mono (rk_iload_n 1 d_M_type_6 rfl rfl) ?_
    refine rb_TC.mono (rk_bipush (126 : Int32) d_M_type_7 (by decide)) ?_
    refine rt_icmp_le 24 d_M_type_9 (by decide) (fun _ => ?_) (fun _ => ?_)
    · exact t_M_type_j24 hdd  (r0) (x1) σ
    · exact t_M_type_j12 hdd  (r0) (x1) σ
-- ===== RuleBuilderModel.scrap()V
def k_M_scrap : rb_MK := (⟨"RuleBuilderModel", "scrap", "()V"⟩, prog_14_method_3_code, 1, none)
theorem mw_M_scrap : rb_Mw k_M_scrap 0 := ⟨rb_inG 1449 (by decide +kernel) rfl, rb_inG 94 (by decide +kernel) rfl, ⟨by decide, by decide, by decide +kernel⟩, by decide⟩
theorem fp_M_scrap_159 : rb_Fp k_M_scrap 159 13 1 .int := ⟨fw_M_159, rfl, fun q h => by cases h; exact Or.inl rfl⟩
theorem d_M_scrap_0 : decode prog_14_method_3_code 0 = .ok (.aload_n 0, 1) := by decide +kernel
theorem d_M_scrap_1 : decode prog_14_method_3_code 1 = .ok (.iconst 0, 1) := by decide +kernel
theorem d_M_scrap_2 : decode prog_14_method_3_code 2 = .ok (.putfield 159, 3) := by decide +kernel
theorem d_M_scrap_5 : decode prog_14_method_3_code 5 = .ok (.return_, 1) := by decide +kernel
noncomputable def f_M_scrap (r0 : Option Nat) (σ : rb_St) : Option rb_Rs :=
  (rb_pI σ r0 13 1 (0 : Int32)).bind fun σ_1 => some (none, σ_1)
theorem s_M_scrap {E : rb_EV} {d : Nat} (hdd : 0 ≤ d) (r0 : Option Nat) (σ : rb_St) : rb_Does E k_M_scrap d [va_rf r0] σ (f_M_scrap r0 σ) := by
  refine rb_start (lv := [some (va_rf r0)]) (by decide) (by simp [lg_sl, rb_as, lv_args, rb_cat_r, rb_cat_i, rb_cat_l, rb_nL, k_M_scrap]) (fun res => ?_)
  unfold f_M_scrap
  refine rb_TC.mono (rk_aload_n 0 d_M_scrap_0 rfl rfl) ?_
  refine rb_TC.mono (rk_iconst (0 : Int32) d_M_scrap_1 (by decide)) ?_
  refine rt_pI r0 fp_M_scrap_159 d_M_scrap_2 (fun σ_1 => ?_)
  exact rt_vret rfl (fun h => h) d_M_scrap_5
-- ===== RuleBuilderModel.capital(I)Z
def k_M_capital : rb_MK := (⟨"RuleBuilderModel", "capital", "(I)Z"⟩, prog_14_method_4_code, 1, some (.boolean))
theorem mw_M_capital : rb_Mw k_M_capital 1 := ⟨rb_inG 1456 (by decide +kernel) rfl, rb_inG 94 (by decide +kernel) rfl, ⟨by decide, by decide, by decide +kernel⟩, by decide⟩
theorem d_M_capital_0 : decode prog_14_method_4_code 0 = .ok (.iload_n 0, 1) := by decide +kernel
theorem d_M_capital_1 : decode prog_14_method_4_code 1 = .ok (.bipush 65, 2) := by decide +kernel
theorem d_M_capital_3 : decode prog_14_method_4_code 3 = .ok (.if_icmp .lt 13, 3) := by decide +kernel
theorem d_M_capital_6 : decode prog_14_method_4_code 6 = .ok (.iload_n 0, 1) := by decide +kernel
theorem d_M_capital_7 : decode prog_14_method_4_code 7 = .ok (.bipush 90, 2) := by decide +kernel
theorem d_M_capital_9 : decode prog_14_method_4_code 9 = .ok (.if_icmp .gt 7, 3) := by decide +kernel
theorem d_M_capital_12 : decode prog_14_method_4_code 12 = .ok (.iconst 1, 1) := by decide +kernel
theorem d_M_capital_13 : decode prog_14_method_4_code 13 = .ok (.goto 4, 3) := by decide +kernel
theorem d_M_capital_16 : decode prog_14_method_4_code 16 = .ok (.iconst 0, 1) := by decide +kernel
theorem d_M_capital_17 : decode prog_14_method_4_code 17 = .ok (.ireturn, 1) := by decide +kernel
noncomputable def f_M_capital (x0 : Int32) (σ : rb_St) : Option rb_Rs :=
  if x0 < (65 : Int32) then (some (some (.int (0 : Int32)), σ)) else (if (90 : Int32) < x0 then (some (some (.int (0 : Int32)), σ)) else (some (some (.int (1 : Int32)), σ)))
theorem s_M_capital {E : rb_EV} {d : Nat} (hdd : 0 ≤ d) (x0 : Int32) (σ : rb_St) : rb_Does E k_M_capital d [.int x0] σ (f_M_capital x0 σ) := by
  refine rb_start (lv := [some (.int x0)]) (by decide) (by simp [lg_sl, rb_as, lv_args, rb_cat_r, rb_cat_i, rb_cat_l, rb_nL, k_M_capital]) (fun res => ?_)
  unfold f_M_capital
  refine rb_TC.mono (rk_iload_n 0 d_M_capital_0 rfl rfl) ?_
  refine rb_TC.mono (rk_bipush (65 : Int32) d_M_capital_1 (by decide)) ?_
  refine rt_icmp_lt 16 d_M_capital_3 (by decide) (fun _ => ?_) (fun _ => ?_)
  · refine rb_TC.mono (rk_iconst (0 : Int32) d_M_capital_16 (by decide)) ?_
    exact rt_iret (ty := .boolean) rfl (by decide) (fun h => h) d_M_capital_17
  · refine rb_TC.mono (rk_iload_n 0 d_M_capital_6 rfl rfl) ?_
    refine rb_TC.mono (rk_bipush (90 : Int32) d_M_capital_7 (by decide)) ?_
    refine rt_icmp_gt 16 d_M_capital_9 (by decide) (fun _ => ?_) (fun _ => ?_)
    · refine rb_TC.mono (rk_iconst (0 : Int32) d_M_capital_16 (by decide)) ?_
      exact rt_iret (ty := .boolean) rfl (by decide) (fun h => h) d_M_capital_17
    · refine rb_TC.mono (rk_iconst (1 : Int32) d_M_capital_12 (by decide)) ?_
      refine rb_TC.mono (rk_goto 17 d_M_capital_13 (by decide)) ?_
      exact rt_iret (ty := .boolean) rfl (by decide) (fun h => h) d_M_capital_17
-- ===== RuleBuilderModel.set()Z
def k_M_set : rb_MK := (⟨"RuleBuilderModel", "set", "()Z"⟩, prog_14_method_5_code, 3, some (.boolean))
theorem mw_M_set : rb_Mw k_M_set 0 := ⟨rb_inG 1453 (by decide +kernel) rfl, rb_inG 94 (by decide +kernel) rfl, ⟨by decide, by decide, by decide +kernel⟩, by decide⟩
theorem fp_M_set_159 : rb_Fp k_M_set 159 13 1 .int := ⟨fw_M_159, rfl, fun q h => by cases h; exact Or.inl rfl⟩
theorem sw_M_163 : rb_Sw "RuleBuilderModel" 163 k_M_capital 1 := ⟨mw_M_capital, rb_inG 1454 (by decide +kernel) rfl, rb_inG 1455 (by decide +kernel) rfl⟩
theorem d_M_set_0 : decode prog_14_method_5_code 0 = .ok (.aload_n 0, 1) := by decide +kernel
theorem d_M_set_1 : decode prog_14_method_5_code 1 = .ok (.getfield 159, 3) := by decide +kernel
theorem d_M_set_4 : decode prog_14_method_5_code 4 = .ok (.iconst 2, 1) := by decide +kernel
theorem d_M_set_5 : decode prog_14_method_5_code 5 = .ok (.if_icmp .lt 35, 3) := by decide +kernel
theorem d_M_set_8 : decode prog_14_method_5_code 8 = .ok (.aload_n 0, 1) := by decide +kernel
theorem d_M_set_9 : decode prog_14_method_5_code 9 = .ok (.getfield 159, 3) := by decide +kernel
theorem d_M_set_12 : decode prog_14_method_5_code 12 = .ok (.bipush 18, 2) := by decide +kernel
theorem d_M_set_14 : decode prog_14_method_5_code 14 = .ok (.if_icmp .gt 26, 3) := by decide +kernel
theorem d_M_set_17 : decode prog_14_method_5_code 17 = .ok (.aload_n 0, 1) := by decide +kernel
theorem d_M_set_18 : decode prog_14_method_5_code 18 = .ok (.getfield 7, 3) := by decide +kernel
theorem d_M_set_21 : decode prog_14_method_5_code 21 = .ok (.iconst 0, 1) := by decide +kernel
theorem d_M_set_22 : decode prog_14_method_5_code 22 = .ok (.iaload, 1) := by decide +kernel
theorem d_M_set_23 : decode prog_14_method_5_code 23 = .ok (.invokestatic 163, 3) := by decide +kernel
theorem d_M_set_26 : decode prog_14_method_5_code 26 = .ok (.ifCond .eq 14, 3) := by decide +kernel
theorem d_M_set_29 : decode prog_14_method_5_code 29 = .ok (.aload_n 0, 1) := by decide +kernel
theorem d_M_set_30 : decode prog_14_method_5_code 30 = .ok (.getfield 7, 3) := by decide +kernel
theorem d_M_set_33 : decode prog_14_method_5_code 33 = .ok (.iconst 1, 1) := by decide +kernel
theorem d_M_set_34 : decode prog_14_method_5_code 34 = .ok (.iaload, 1) := by decide +kernel
theorem d_M_set_35 : decode prog_14_method_5_code 35 = .ok (.bipush 61, 2) := by decide +kernel
theorem d_M_set_37 : decode prog_14_method_5_code 37 = .ok (.if_icmp .eq 5, 3) := by decide +kernel
theorem d_M_set_40 : decode prog_14_method_5_code 40 = .ok (.iconst 0, 1) := by decide +kernel
theorem d_M_set_41 : decode prog_14_method_5_code 41 = .ok (.ireturn, 1) := by decide +kernel
theorem d_M_set_42 : decode prog_14_method_5_code 42 = .ok (.iconst 2, 1) := by decide +kernel
theorem d_M_set_43 : decode prog_14_method_5_code 43 = .ok (.istore_n 1, 1) := by decide +kernel
theorem d_M_set_44 : decode prog_14_method_5_code 44 = .ok (.iload_n 1, 1) := by decide +kernel
theorem d_M_set_45 : decode prog_14_method_5_code 45 = .ok (.aload_n 0, 1) := by decide +kernel
theorem d_M_set_46 : decode prog_14_method_5_code 46 = .ok (.getfield 159, 3) := by decide +kernel
theorem d_M_set_49 : decode prog_14_method_5_code 49 = .ok (.if_icmp .ge 22, 3) := by decide +kernel
theorem d_M_set_52 : decode prog_14_method_5_code 52 = .ok (.aload_n 0, 1) := by decide +kernel
theorem d_M_set_53 : decode prog_14_method_5_code 53 = .ok (.getfield 7, 3) := by decide +kernel
theorem d_M_set_56 : decode prog_14_method_5_code 56 = .ok (.iload_n 1, 1) := by decide +kernel
theorem d_M_set_57 : decode prog_14_method_5_code 57 = .ok (.iaload, 1) := by decide +kernel
theorem d_M_set_58 : decode prog_14_method_5_code 58 = .ok (.bipush 10, 2) := by decide +kernel
theorem d_M_set_60 : decode prog_14_method_5_code 60 = .ok (.if_icmp .ne 5, 3) := by decide +kernel
theorem d_M_set_63 : decode prog_14_method_5_code 63 = .ok (.iconst 0, 1) := by decide +kernel
theorem d_M_set_64 : decode prog_14_method_5_code 64 = .ok (.ireturn, 1) := by decide +kernel
theorem d_M_set_65 : decode prog_14_method_5_code 65 = .ok (.iinc 1 1, 3) := by decide +kernel
theorem d_M_set_68 : decode prog_14_method_5_code 68 = .ok (.goto (-24), 3) := by decide +kernel
theorem d_M_set_71 : decode prog_14_method_5_code 71 = .ok (.aload_n 0, 1) := by decide +kernel
theorem d_M_set_72 : decode prog_14_method_5_code 72 = .ok (.getfield 7, 3) := by decide +kernel
theorem d_M_set_75 : decode prog_14_method_5_code 75 = .ok (.iconst 0, 1) := by decide +kernel
theorem d_M_set_76 : decode prog_14_method_5_code 76 = .ok (.iaload, 1) := by decide +kernel
theorem d_M_set_77 : decode prog_14_method_5_code 77 = .ok (.bipush 65, 2) := by decide +kernel
theorem d_M_set_79 : decode prog_14_method_5_code 79 = .ok (.isub, 1) := by decide +kernel
theorem d_M_set_80 : decode prog_14_method_5_code 80 = .ok (.istore_n 1, 1) := by decide +kernel
theorem d_M_set_81 : decode prog_14_method_5_code 81 = .ok (.iconst 2, 1) := by decide +kernel
theorem d_M_set_82 : decode prog_14_method_5_code 82 = .ok (.istore_n 2, 1) := by decide +kernel
theorem d_M_set_83 : decode prog_14_method_5_code 83 = .ok (.iload_n 2, 1) := by decide +kernel
theorem d_M_set_84 : decode prog_14_method_5_code 84 = .ok (.aload_n 0, 1) := by decide +kernel
theorem d_M_set_85 : decode prog_14_method_5_code 85 = .ok (.getfield 159, 3) := by decide +kernel
theorem d_M_set_88 : decode prog_14_method_5_code 88 = .ok (.if_icmp .ge 28, 3) := by decide +kernel
theorem d_M_set_91 : decode prog_14_method_5_code 91 = .ok (.aload_n 0, 1) := by decide +kernel
theorem d_M_set_92 : decode prog_14_method_5_code 92 = .ok (.getfield 30, 3) := by decide +kernel
theorem d_M_set_95 : decode prog_14_method_5_code 95 = .ok (.bipush 16, 2) := by decide +kernel
theorem d_M_set_97 : decode prog_14_method_5_code 97 = .ok (.iload_n 1, 1) := by decide +kernel
theorem d_M_set_98 : decode prog_14_method_5_code 98 = .ok (.imul, 1) := by decide +kernel
theorem d_M_set_99 : decode prog_14_method_5_code 99 = .ok (.iload_n 2, 1) := by decide +kernel
theorem d_M_set_100 : decode prog_14_method_5_code 100 = .ok (.iadd, 1) := by decide +kernel
theorem d_M_set_101 : decode prog_14_method_5_code 101 = .ok (.iconst 2, 1) := by decide +kernel
theorem d_M_set_102 : decode prog_14_method_5_code 102 = .ok (.isub, 1) := by decide +kernel
theorem d_M_set_103 : decode prog_14_method_5_code 103 = .ok (.aload_n 0, 1) := by decide +kernel
theorem d_M_set_104 : decode prog_14_method_5_code 104 = .ok (.getfield 7, 3) := by decide +kernel
theorem d_M_set_107 : decode prog_14_method_5_code 107 = .ok (.iload_n 2, 1) := by decide +kernel
theorem d_M_set_108 : decode prog_14_method_5_code 108 = .ok (.iaload, 1) := by decide +kernel
theorem d_M_set_109 : decode prog_14_method_5_code 109 = .ok (.iastore, 1) := by decide +kernel
theorem d_M_set_110 : decode prog_14_method_5_code 110 = .ok (.iinc 2 1, 3) := by decide +kernel
theorem d_M_set_113 : decode prog_14_method_5_code 113 = .ok (.goto (-30), 3) := by decide +kernel
theorem d_M_set_116 : decode prog_14_method_5_code 116 = .ok (.aload_n 0, 1) := by decide +kernel
theorem d_M_set_117 : decode prog_14_method_5_code 117 = .ok (.getfield 33, 3) := by decide +kernel
theorem d_M_set_120 : decode prog_14_method_5_code 120 = .ok (.iload_n 1, 1) := by decide +kernel
theorem d_M_set_121 : decode prog_14_method_5_code 121 = .ok (.aload_n 0, 1) := by decide +kernel
theorem d_M_set_122 : decode prog_14_method_5_code 122 = .ok (.getfield 159, 3) := by decide +kernel
theorem d_M_set_125 : decode prog_14_method_5_code 125 = .ok (.iconst 2, 1) := by decide +kernel
theorem d_M_set_126 : decode prog_14_method_5_code 126 = .ok (.isub, 1) := by decide +kernel
theorem d_M_set_127 : decode prog_14_method_5_code 127 = .ok (.iastore, 1) := by decide +kernel
theorem d_M_set_128 : decode prog_14_method_5_code 128 = .ok (.aload_n 0, 1) := by decide +kernel
theorem d_M_set_129 : decode prog_14_method_5_code 129 = .ok (.getfield 27, 3) := by decide +kernel
theorem d_M_set_132 : decode prog_14_method_5_code 132 = .ok (.iload_n 1, 1) := by decide +kernel
theorem d_M_set_133 : decode prog_14_method_5_code 133 = .ok (.iconst 1, 1) := by decide +kernel
theorem d_M_set_134 : decode prog_14_method_5_code 134 = .ok (.bastore, 1) := by decide +kernel
theorem d_M_set_135 : decode prog_14_method_5_code 135 = .ok (.aload_n 0, 1) := by decide +kernel
theorem d_M_set_136 : decode prog_14_method_5_code 136 = .ok (.iconst 0, 1) := by decide +kernel
theorem d_M_set_137 : decode prog_14_method_5_code 137 = .ok (.putfield 159, 3) := by decide +kernel
theorem d_M_set_140 : decode prog_14_method_5_code 140 = .ok (.iconst 1, 1) := by decide +kernel
theorem d_M_set_141 : decode prog_14_method_5_code 141 = .ok (.ireturn, 1) := by decide +kernel
noncomputable def f_M_set_b83 (r0 : Option Nat) (x1 : Int32) (x2 : Int32) (σ : rb_St) : Option ((Int32 × rb_St) ⊕ rb_Rs) :=
  (rb_gI σ r0 13 1).bind fun x_12 => if x_12 ≤ x2 then (((rb_gR σ r0 13 10).bind fun r_13 => (rb_gI σ r0 13 1).bind fun x_14 => (rb_sI σ r_13 102 x1 (x_14 - (2 : Int32))).bind fun σ_15 => (rb_gR σ_15 r0 13 8).bind fun r_16 => (rb_sI σ_15 r_16 104 x1 (1 : Int32)).bind fun σ_17 => (rb_pI σ_17 r0 13 1 (0 : Int32)).bind fun σ_18 => some (some (.int (1 : Int32)), σ_18)).map Sum.inr) else ((rb_gR σ r0 13 9).bind fun r_19 => (rb_gR σ r0 13 0).bind fun r_20 => (rb_aI σ r_20 102 x2).bind fun x_21 => (rb_sI σ r_19 102 ((((16 : Int32) * x1) + x2) - (2 : Int32)) x_21).bind fun σ_22 => some (.inl ((x2 + 1), σ_22)))
theorem t_M_set_b83 {E : rb_EV} {d : Nat} {σ0 : rb_St} {res : rb_Rs} (hdd : 1 ≤ d)  (r0 : Option Nat) (x1 : Int32) (x2 : Int32) (σ : rb_St) : rb_TC (f_M_set_b83 r0 x1 x2 σ) (Sum.elim (fun z : (Int32 × rb_St) => rb_WK E k_M_set d σ0 res 83 [some (va_rf r0), some (.int x1), some (.int z.1)] [] z.2) (fun r => r = res)) (rb_WK E k_M_set d σ0 res 83 [some (va_rf r0), some (.int x1), some (.int x2)] [] σ) := by
  unfold f_M_set_b83
  refine rb_TC.mono (rk_iload_n 2 d_M_set_83 rfl rfl) ?_
  refine rb_TC.mono (rk_aload_n 0 d_M_set_84 rfl rfl) ?_
  refine rt_gI r0 fw_M_159 d_M_set_85 (fun x_12 => ?_)
  refine rt_icmp_ge 116 d_M_set_88 (by decide) (fun _ => ?_) (fun _ => ?_)
  · refine rb_TC.out ?_
    refine rb_TC.mono (rk_aload_n 0 d_M_set_116 rfl rfl) ?_
    refine rt_gR r0 fw_M_33 d_M_set_117 (fun r_13 => ?_)
    refine rb_TC.mono (rk_iload_n 1 d_M_set_120 rfl rfl) ?_
    refine rb_TC.mono (rk_aload_n 0 d_M_set_121 rfl rfl) ?_
    refine rt_gI r0 fw_M_159 d_M_set_122 (fun x_14 => ?_)
    refine rb_TC.mono (rk_iconst (2 : Int32) d_M_set_125 (by decide)) ?_
    refine rb_TC.mono (rk_isub d_M_set_126) ?_
    refine rt_iast r_13 d_M_set_127 (fun σ_15 => ?_)
    refine rb_TC.mono (rk_aload_n 0 d_M_set_128 rfl rfl) ?_
    refine rt_gR r0 fw_M_27 d_M_set_129 (fun r_16 => ?_)
    refine rb_TC.mono (rk_iload_n 1 d_M_set_132 rfl rfl) ?_
    refine rb_TC.mono (rk_iconst (1 : Int32) d_M_set_133 (by decide)) ?_
    refine rt_zast r_16 d_M_set_134 (fun σ_17 => ?_)
    refine rb_TC.mono (rk_aload_n 0 d_M_set_135 rfl rfl) ?_
    refine rb_TC.mono (rk_iconst (0 : Int32) d_M_set_136 (by decide)) ?_
    refine rt_pI r0 fp_M_set_159 d_M_set_137 (fun σ_18 => ?_)
    refine rb_TC.mono (rk_iconst (1 : Int32) d_M_set_140 (by decide)) ?_
    exact rt_iret (ty := .boolean) rfl (by decide) (fun h => h) d_M_set_141
  · refine rb_TC.mono (rk_aload_n 0 d_M_set_91 rfl rfl) ?_
    refine rt_gR r0 fw_M_30 d_M_set_92 (fun r_19 => ?_)
    refine rb_TC.mono (rk_bipush (16 : Int32) d_M_set_95 (by decide)) ?_
    refine rb_TC.mono (rk_iload_n 1 d_M_set_97 rfl rfl) ?_
    refine rb_TC.mono (rk_imul d_M_set_98) ?_
    refine rb_TC.mono (rk_iload_n 2 d_M_set_99 rfl rfl) ?_
    refine rb_TC.mono (rk_iadd d_M_set_100) ?_
    refine rb_TC.mono (rk_iconst (2 : Int32) d_M_set_101 (by decide)) ?_
    refine rb_TC.mono (rk_isub d_M_set_102) ?_
    refine rb_TC.mono (rk_aload_n 0 d_M_set_103 rfl rfl) ?_
    refine rt_gR r0 fw_M_7 d_M_set_104 (fun r_20 => ?_)
    refine rb_TC.mono (rk_iload_n 2 d_M_set_107 rfl rfl) ?_
    refine rt_iald r_20 d_M_set_108 (fun x_21 => ?_)
    refine rt_iast r_19 d_M_set_109 (fun σ_22 => ?_)
    refine rb_TC.mono (rk_iinc (lv2 := [some (va_rf r0), some (.int x1), some (.int (x2 + 1))]) (x2 + 1) d_M_set_110 rfl rfl (by decide) (fun _ => rb_one_i) rfl) ?_
    refine rb_TC.mono (rk_goto 83 d_M_set_113 (by decide)) ?_
    exact rb_back
noncomputable def f_M_set_b44 (r0 : Option Nat) (x1 : Int32) (σ : rb_St) : Option ((Int32) ⊕ rb_Rs) :=
  (rb_gI σ r0 13 1).bind fun x_9 => if x_9 ≤ x1 then (((rb_gR σ r0 13 0).bind fun r_10 => (rb_aI σ r_10 102 (0 : Int32)).bind fun x_11 => rb_it (fun z : (Int32 × rb_St) => f_M_set_b83 (r0) ((x_11 - (65 : Int32))) (z.1) z.2) ((2 : Int32), σ)).map Sum.inr) else ((rb_gR σ r0 13 0).bind fun r_23 => (rb_aI σ r_23 102 x1).bind fun x_24 => if x_24 = (10 : Int32) then ((some (some (.int (0 : Int32)), σ)).map Sum.inr) else (some (.inl (x1 + 1))))
theorem t_M_set_b44 {E : rb_EV} {d : Nat} {σ0 : rb_St} {res : rb_Rs} (hdd : 1 ≤ d)  (r0 : Option Nat) (x1 : Int32) (σ : rb_St) : rb_TC (f_M_set_b44 r0 x1 σ) (Sum.elim (fun z : (Int32) => rb_WK E k_M_set d σ0 res 44 [some (va_rf r0), some (.int z), none] [] σ) (fun r => r = res)) (rb_WK E k_M_set d σ0 res 44 [some (va_rf r0), some (.int x1), none] [] σ) := by
  unfold f_M_set_b44
  refine rb_TC.mono (rk_iload_n 1 d_M_set_44 rfl rfl) ?_
  refine rb_TC.mono (rk_aload_n 0 d_M_set_45 rfl rfl) ?_
  refine rt_gI r0 fw_M_159 d_M_set_46 (fun x_9 => ?_)
  refine rt_icmp_ge 71 d_M_set_49 (by decide) (fun _ => ?_) (fun _ => ?_)
  · refine rb_TC.out ?_
    refine rb_TC.mono (rk_aload_n 0 d_M_set_71 rfl rfl) ?_
    refine rt_gR r0 fw_M_7 d_M_set_72 (fun r_10 => ?_)
    refine rb_TC.mono (rk_iconst (0 : Int32) d_M_set_75 (by decide)) ?_
    refine rt_iald r_10 d_M_set_76 (fun x_11 => ?_)
    refine rb_TC.mono (rk_bipush (65 : Int32) d_M_set_77 (by decide)) ?_
    refine rb_TC.mono (rk_isub d_M_set_79) ?_
    refine rb_TC.mono (rk_istore_n (lv2 := [some (va_rf r0), some (.int (x_11 - (65 : Int32))), none]) 1 d_M_set_80 rfl (by decide) (fun _ => rb_one_r) rfl) ?_
    refine rb_TC.mono (rk_iconst (2 : Int32) d_M_set_81 (by decide)) ?_
    refine rb_TC.mono (rk_istore_n (lv2 := [some (va_rf r0), some (.int (x_11 - (65 : Int32))), some (.int (2 : Int32))]) 2 d_M_set_82 rfl (by decide) (fun _ => rb_one_i) rfl) ?_
    exact rb_TC.loop2 (A := (fun z : (Int32 × rb_St) => rb_WK E k_M_set d σ0 res 83 [some (va_rf r0), some (.int (x_11 - (65 : Int32))), some (.int z.1)] [] z.2)) ((2 : Int32), σ) (fun z => t_M_set_b83 hdd  (r0) ((x_11 - (65 : Int32))) (z.1) z.2)
  · refine rb_TC.mono (rk_aload_n 0 d_M_set_52 rfl rfl) ?_
    refine rt_gR r0 fw_M_7 d_M_set_53 (fun r_23 => ?_)
    refine rb_TC.mono (rk_iload_n 1 d_M_set_56 rfl rfl) ?_
    refine rt_iald r_23 d_M_set_57 (fun x_24 => ?_)
    refine rb_TC.mono (rk_bipush (10 : Int32) d_M_set_58 (by decide)) ?_
    refine rt_icmp_ne 65 d_M_set_60 (by decide) (fun _ => ?_) (fun _ => ?_)
    · refine rb_TC.out ?_
      refine rb_TC.mono (rk_iconst (0 : Int32) d_M_set_63 (by decide)) ?_
      exact rt_iret (ty := .boolean) rfl (by decide) (fun h => h) d_M_set_64
    · refine rb_TC.mono (rk_iinc (lv2 := [some (va_rf r0), some (.int (x1 + 1)), none]) (x1 + 1) d_M_set_65 rfl rfl (by decide) (fun _ => rb_one_r) rfl) ?_
      refine rb_TC.mono (rk_goto 44 d_M_set_68 (by decide)) ?_
      exact rb_back
noncomputable def f_M_set (r0 : Option Nat) (σ : rb_St) : Option rb_Rs :=
  (rb_gI σ r0 13 1).bind fun x_1 => if x_1 < (2 : Int32) then (some (some (.int (0 : Int32)), σ)) else ((rb_gI σ r0 13 1).bind fun x_2 => if (18 : Int32) < x_2 then (some (some (.int (0 : Int32)), σ)) else ((rb_gR σ r0 13 0).bind fun r_3 => (rb_aI σ r_3 102 (0 : Int32)).bind fun x_4 => rb_cI (f_M_capital (x_4) σ) fun x_5 σ_6 => if x_5 = 0 then (some (some (.int (0 : Int32)), σ_6)) else ((rb_gR σ_6 r0 13 0).bind fun r_7 => (rb_aI σ_6 r_7 102 (1 : Int32)).bind fun x_8 => if x_8 = (61 : Int32) then (rb_it (fun z : (Int32) => f_M_set_b44 (r0) (z) σ_6) (2 : Int32)) else (some (some (.int (0 : Int32)), σ_6)))))
theorem s_M_set {E : rb_EV} {d : Nat} (hdd : 1 ≤ d) (r0 : Option Nat) (σ : rb_St) : rb_Does E k_M_set d [va_rf r0] σ (f_M_set r0 σ) := by
  refine rb_start (lv := [some (va_rf r0), none, none]) (by decide) (by simp [lg_sl, rb_as, lv_args, rb_cat_r, rb_cat_i, rb_cat_l, rb_nL, k_M_set]) (fun res => ?_)
  unfold f_M_set
  refine rb_TC.mono (rk_aload_n 0 d_M_set_0 rfl rfl) ?_
  refine rt_gI r0 fw_M_159 d_M_set_1 (fun x_1 => ?_)
  refine rb_TC.mono (rk_iconst (2 : Int32) d_M_set_4 (by decide)) ?_
  refine rt_icmp_lt 40 d_M_set_5 (by decide) (fun _ => ?_) (fun _ => ?_)
  · refine rb_TC.mono (rk_iconst (0 : Int32) d_M_set_40 (by decide)) ?_
    exact rt_iret (ty := .boolean) rfl (by decide) (fun h => h) d_M_set_41
  · refine rb_TC.mono (rk_aload_n 0 d_M_set_8 rfl rfl) ?_
    refine rt_gI r0 fw_M_159 d_M_set_9 (fun x_2 => ?_)
    refine rb_TC.mono (rk_bipush (18 : Int32) d_M_set_12 (by decide)) ?_
    refine rt_icmp_gt 40 d_M_set_14 (by decide) (fun _ => ?_) (fun _ => ?_)
    · refine rb_TC.mono (rk_iconst (0 : Int32) d_M_set_40 (by decide)) ?_
      exact rt_iret (ty := .boolean) rfl (by decide) (fun h => h) d_M_set_41
    · refine rb_TC.mono (rk_aload_n 0 d_M_set_17 rfl rfl) ?_
      refine rt_gR r0 fw_M_7 d_M_set_18 (fun r_3 => ?_)
      refine rb_TC.mono (rk_iconst (0 : Int32) d_M_set_21 (by decide)) ?_
      refine rt_iald r_3 d_M_set_22 (fun x_4 => ?_)
      refine rt_sI (As := [.int x_4]) (st := []) sw_M_163 (s_M_capital (Nat.le_refl _) (x_4) σ) (Nat.le_trans (by decide) hdd) rfl (by simp [rb_cat_r, rb_cat_i, rb_cat_l]) d_M_set_23 (fun x_5 σ_6 => ?_)
      refine rt_if_eq 40 d_M_set_26 (by decide) (fun _ => ?_) (fun _ => ?_)
      · refine rb_TC.mono (rk_iconst (0 : Int32) d_M_set_40 (by decide)) ?_
        exact rt_iret (ty := .boolean) rfl (by decide) (fun h => h) d_M_set_41
      · refine rb_TC.mono (rk_aload_n 0 d_M_set_29 rfl rfl) ?_
        refine rt_gR r0 fw_M_7 d_M_set_30 (fun r_7 => ?_)
        refine rb_TC.mono (rk_iconst (1 : Int32) d_M_set_33 (by decide)) ?_
        refine rt_iald r_7 d_M_set_34 (fun x_8 => ?_)
        refine rb_TC.mono (rk_bipush (61 : Int32) d_M_set_35 (by decide)) ?_
        refine rt_icmp_eq 42 d_M_set_37 (by decide) (fun _ => ?_) (fun _ => ?_)
        · refine rb_TC.mono (rk_iconst (2 : Int32) d_M_set_42 (by decide)) ?_
          refine rb_TC.mono (rk_istore_n (lv2 := [some (va_rf r0), some (.int (2 : Int32)), none]) 1 d_M_set_43 rfl (by decide) (fun _ => rb_one_r) rfl) ?_
          exact rb_TC.loop2 (A := (fun z : (Int32) => rb_WK E k_M_set d σ res 44 [some (va_rf r0), some (.int z), none] [] σ_6)) (2 : Int32) (fun z => t_M_set_b44 hdd  (r0) (z) σ_6)
        · refine rb_TC.mono (rk_iconst (0 : Int32) d_M_set_40 (by decide)) ?_
          exact rt_iret (ty := .boolean) rfl (by decide) (fun h => h) d_M_set_41
-- ===== RuleBuilderModel.drafts()J
def k_M_drafts : rb_MK := (⟨"RuleBuilderModel", "drafts", "()J"⟩, prog_14_method_11_code, 4, some (.long))
theorem mw_M_drafts : rb_Mw k_M_drafts 0 := ⟨rb_inG 1464 (by decide +kernel) rfl, rb_inG 94 (by decide +kernel) rfl, ⟨by decide, by decide, by decide +kernel⟩, by decide⟩
theorem w_long_M_186 : Cond.constantLong "RuleBuilderModel" 186 (-1) ∈ rb_G := rb_inG 1465 (by decide +kernel) rfl
theorem d_M_drafts_0 : decode prog_14_method_11_code 0 = .ok (.aload_n 0, 1) := by decide +kernel
theorem d_M_drafts_1 : decode prog_14_method_11_code 1 = .ok (.getfield 159, 3) := by decide +kernel
theorem d_M_drafts_4 : decode prog_14_method_11_code 4 = .ok (.bipush 9, 2) := by decide +kernel
theorem d_M_drafts_6 : decode prog_14_method_11_code 6 = .ok (.if_icmp .le 9, 3) := by decide +kernel
theorem d_M_drafts_9 : decode prog_14_method_11_code 9 = .ok (.ldc2_w 186, 3) := by decide +kernel
theorem d_M_drafts_12 : decode prog_14_method_11_code 12 = .ok (.goto 4, 3) := by decide +kernel
theorem d_M_drafts_15 : decode prog_14_method_11_code 15 = .ok (.lconst 0, 1) := by decide +kernel
theorem d_M_drafts_16 : decode prog_14_method_11_code 16 = .ok (.lstore_n 1, 1) := by decide +kernel
theorem d_M_drafts_17 : decode prog_14_method_11_code 17 = .ok (.iconst 0, 1) := by decide +kernel
theorem d_M_drafts_18 : decode prog_14_method_11_code 18 = .ok (.istore_n 3, 1) := by decide +kernel
theorem d_M_drafts_19 : decode prog_14_method_11_code 19 = .ok (.iload_n 3, 1) := by decide +kernel
theorem d_M_drafts_20 : decode prog_14_method_11_code 20 = .ok (.aload_n 0, 1) := by decide +kernel
theorem d_M_drafts_21 : decode prog_14_method_11_code 21 = .ok (.getfield 159, 3) := by decide +kernel
theorem d_M_drafts_24 : decode prog_14_method_11_code 24 = .ok (.if_icmp .ge 31, 3) := by decide +kernel
theorem d_M_drafts_27 : decode prog_14_method_11_code 27 = .ok (.aload_n 0, 1) := by decide +kernel
theorem d_M_drafts_28 : decode prog_14_method_11_code 28 = .ok (.getfield 159, 3) := by decide +kernel
theorem d_M_drafts_31 : decode prog_14_method_11_code 31 = .ok (.bipush 9, 2) := by decide +kernel
theorem d_M_drafts_33 : decode prog_14_method_11_code 33 = .ok (.if_icmp .gt 22, 3) := by decide +kernel
theorem d_M_drafts_36 : decode prog_14_method_11_code 36 = .ok (.lload_n 1, 1) := by decide +kernel
theorem d_M_drafts_37 : decode prog_14_method_11_code 37 = .ok (.bipush 7, 2) := by decide +kernel
theorem d_M_drafts_39 : decode prog_14_method_11_code 39 = .ok (.lshl, 1) := by decide +kernel
theorem d_M_drafts_40 : decode prog_14_method_11_code 40 = .ok (.aload_n 0, 1) := by decide +kernel
theorem d_M_drafts_41 : decode prog_14_method_11_code 41 = .ok (.getfield 7, 3) := by decide +kernel
theorem d_M_drafts_44 : decode prog_14_method_11_code 44 = .ok (.iload_n 3, 1) := by decide +kernel
theorem d_M_drafts_45 : decode prog_14_method_11_code 45 = .ok (.iaload, 1) := by decide +kernel
theorem d_M_drafts_46 : decode prog_14_method_11_code 46 = .ok (.i2l, 1) := by decide +kernel
theorem d_M_drafts_47 : decode prog_14_method_11_code 47 = .ok (.lor, 1) := by decide +kernel
theorem d_M_drafts_48 : decode prog_14_method_11_code 48 = .ok (.lstore_n 1, 1) := by decide +kernel
theorem d_M_drafts_49 : decode prog_14_method_11_code 49 = .ok (.iinc 3 1, 3) := by decide +kernel
theorem d_M_drafts_52 : decode prog_14_method_11_code 52 = .ok (.goto (-33), 3) := by decide +kernel
theorem d_M_drafts_55 : decode prog_14_method_11_code 55 = .ok (.lload_n 1, 1) := by decide +kernel
theorem d_M_drafts_56 : decode prog_14_method_11_code 56 = .ok (.lreturn, 1) := by decide +kernel
noncomputable def f_M_drafts_j55 (y1 : Int64) (σ : rb_St) : Option rb_Rs :=
  some (some (.long y1), σ)
theorem t_M_drafts_j55 {E : rb_EV} {d : Nat} {σ0 : rb_St} {res : rb_Rs} (hdd : 0 ≤ d)  (y1 : Int64) (σ : rb_St) : rb_TC (f_M_drafts_j55 y1 σ) (fun r => r = res) (rb_WK E k_M_drafts d σ0 res 55 [none, some (.long y1), none, none] [] σ) := by
  unfold f_M_drafts_j55
  refine rb_TC.mono (rk_lload_n 1 d_M_drafts_55 rfl rfl) ?_
  exact rt_lret rfl (fun h => h) d_M_drafts_56
noncomputable def f_M_drafts_b19 (r0 : Option Nat) (y1 : Int64) (x3 : Int32) (σ : rb_St) : Option ((Int64 × Int32) ⊕ rb_Rs) :=
  (rb_gI σ r0 13 1).bind fun x_2 => if x_2 ≤ x3 then ((f_M_drafts_j55 (y1) σ).map Sum.inr) else ((rb_gI σ r0 13 1).bind fun x_3 => if (9 : Int32) < x_3 then ((f_M_drafts_j55 (y1) σ).map Sum.inr) else ((rb_gR σ r0 13 0).bind fun r_4 => (rb_aI σ r_4 102 x3).bind fun x_5 => some (.inl (((y1 <<< ((7 : Int32).toInt64 &&& 63)) ||| (x_5.toInt64)), (x3 + 1)))))
theorem t_M_drafts_b19 {E : rb_EV} {d : Nat} {σ0 : rb_St} {res : rb_Rs} (hdd : 0 ≤ d)  (r0 : Option Nat) (y1 : Int64) (x3 : Int32) (σ : rb_St) : rb_TC (f_M_drafts_b19 r0 y1 x3 σ) (Sum.elim (fun z : (Int64 × Int32) => rb_WK E k_M_drafts d σ0 res 19 [some (va_rf r0), some (.long z.1), none, some (.int z.2)] [] σ) (fun r => r = res)) (rb_WK E k_M_drafts d σ0 res 19 [some (va_rf r0), some (.long y1), none, some (.int x3)] [] σ) := by
  unfold f_M_drafts_b19
  refine rb_TC.mono (rk_iload_n 3 d_M_drafts_19 rfl rfl) ?_
  refine rb_TC.mono (rk_aload_n 0 d_M_drafts_20 rfl rfl) ?_
  refine rt_gI r0 fw_M_159 d_M_drafts_21 (fun x_2 => ?_)
  refine rt_icmp_ge 55 d_M_drafts_24 (by decide) (fun _ => ?_) (fun _ => ?_)
  · refine rb_TC.out ?_
    refine rb_TC.mono (rk_less (lv2 := [none, some (.long y1), none, none]) (rb_le_ok (rb_leN (rb_leS (rb_leN (rb_leN rb_le0)))))) ?_
    exact t_M_drafts_j55 hdd  (y1) σ
  · refine rb_TC.mono (rk_aload_n 0 d_M_drafts_27 rfl rfl) ?_
    refine rt_gI r0 fw_M_159 d_M_drafts_28 (fun x_3 => ?_)
    refine rb_TC.mono (rk_bipush (9 : Int32) d_M_drafts_31 (by decide)) ?_
    refine rt_icmp_gt 55 d_M_drafts_33 (by decide) (fun _ => ?_) (fun _ => ?_)
    · refine rb_TC.out ?_
      refine rb_TC.mono (rk_less (lv2 := [none, some (.long y1), none, none]) (rb_le_ok (rb_leN (rb_leS (rb_leN (rb_leN rb_le0)))))) ?_
      exact t_M_drafts_j55 hdd  (y1) σ
    · refine rb_TC.mono (rk_lload_n 1 d_M_drafts_36 rfl rfl) ?_
      refine rb_TC.mono (rk_bipush (7 : Int32) d_M_drafts_37 (by decide)) ?_
      refine rb_TC.mono (rk_lshl d_M_drafts_39) ?_
      refine rb_TC.mono (rk_aload_n 0 d_M_drafts_40 rfl rfl) ?_
      refine rt_gR r0 fw_M_7 d_M_drafts_41 (fun r_4 => ?_)
      refine rb_TC.mono (rk_iload_n 3 d_M_drafts_44 rfl rfl) ?_
      refine rt_iald r_4 d_M_drafts_45 (fun x_5 => ?_)
      refine rb_TC.mono (rk_i2l d_M_drafts_46) ?_
      refine rb_TC.mono (rk_lor d_M_drafts_47) ?_
      refine rb_TC.mono (rk_lstore_n (lv2 := [some (va_rf r0), some (.long ((y1 <<< ((7 : Int32).toInt64 &&& 63)) ||| (x_5.toInt64))), none, some (.int x3)]) 1 d_M_drafts_48 rfl (by decide) (fun _ => rb_one_r) rfl) ?_
      refine rb_TC.mono (rk_iinc (lv2 := [some (va_rf r0), some (.long ((y1 <<< ((7 : Int32).toInt64 &&& 63)) ||| (x_5.toInt64))), none, some (.int (x3 + 1))]) (x3 + 1) d_M_drafts_49 rfl rfl (by decide) (fun _ => rb_one_n) rfl) ?_
      refine rb_TC.mono (rk_goto 19 d_M_drafts_52 (by decide)) ?_
      exact rb_back
noncomputable def f_M_drafts (r0 : Option Nat) (σ : rb_St) : Option rb_Rs :=
  (rb_gI σ r0 13 1).bind fun x_1 => if x_1 ≤ (9 : Int32) then (rb_it (fun z : (Int64 × Int32) => f_M_drafts_b19 (r0) (z.1) (z.2) σ) ((0 : Int64), (0 : Int32))) else (rb_it (fun z : (Int64 × Int32) => f_M_drafts_b19 (r0) (z.1) (z.2) σ) ((-1 : Int64), (0 : Int32)))
theorem s_M_drafts {E : rb_EV} {d : Nat} (hdd : 0 ≤ d) (r0 : Option Nat) (σ : rb_St) : rb_Does E k_M_drafts d [va_rf r0] σ (f_M_drafts r0 σ) := by
  refine rb_start (lv := [some (va_rf r0), none, none, none]) (by decide) (by simp [lg_sl, rb_as, lv_args, rb_cat_r, rb_cat_i, rb_cat_l, rb_nL, k_M_drafts]) (fun res => ?_)
  unfold f_M_drafts
  refine rb_TC.mono (rk_aload_n 0 d_M_drafts_0 rfl rfl) ?_
  refine rt_gI r0 fw_M_159 d_M_drafts_1 (fun x_1 => ?_)
  refine rb_TC.mono (rk_bipush (9 : Int32) d_M_drafts_4 (by decide)) ?_
  refine rt_icmp_le 15 d_M_drafts_6 (by decide) (fun _ => ?_) (fun _ => ?_)
  · refine rb_TC.mono (rk_lconst (0 : Int64) d_M_drafts_15 (by decide)) ?_
    refine rb_TC.mono (rk_lstore_n (lv2 := [some (va_rf r0), some (.long (0 : Int64)), none, none]) 1 d_M_drafts_16 rfl (by decide) (fun _ => rb_one_r) rfl) ?_
    refine rb_TC.mono (rk_iconst (0 : Int32) d_M_drafts_17 (by decide)) ?_
    refine rb_TC.mono (rk_istore_n (lv2 := [some (va_rf r0), some (.long (0 : Int64)), none, some (.int (0 : Int32))]) 3 d_M_drafts_18 rfl (by decide) (fun _ => rb_one_n) rfl) ?_
    exact rb_TC.loop2 (A := (fun z : (Int64 × Int32) => rb_WK E k_M_drafts d σ res 19 [some (va_rf r0), some (.long z.1), none, some (.int z.2)] [] σ)) ((0 : Int64), (0 : Int32)) (fun z => t_M_drafts_b19 hdd  (r0) (z.1) (z.2) σ)
  · refine rb_TC.mono (rk_ldc2 d_M_drafts_9 w_long_M_186) ?_
    refine rb_TC.mono (rk_goto 16 d_M_drafts_12 (by decide)) ?_
    refine rb_TC.mono (rk_lstore_n (lv2 := [some (va_rf r0), some (.long (-1 : Int64)), none, none]) 1 d_M_drafts_16 rfl (by decide) (fun _ => rb_one_r) rfl) ?_
    refine rb_TC.mono (rk_iconst (0 : Int32) d_M_drafts_17 (by decide)) ?_
    refine rb_TC.mono (rk_istore_n (lv2 := [some (va_rf r0), some (.long (-1 : Int64)), none, some (.int (0 : Int32))]) 3 d_M_drafts_18 rfl (by decide) (fun _ => rb_one_n) rfl) ?_
    exact rb_TC.loop2 (A := (fun z : (Int64 × Int32) => rb_WK E k_M_drafts d σ res 19 [some (va_rf r0), some (.long z.1), none, some (.int z.2)] [] σ)) ((-1 : Int64), (0 : Int32)) (fun z => t_M_drafts_b19 hdd  (r0) (z.1) (z.2) σ)
-- ===== RuleBuilderModel.length(J)I
def k_M_length : rb_MK := (⟨"RuleBuilderModel", "length", "(J)I"⟩, prog_14_method_6_code, 5, some (.int))
theorem mw_M_length : rb_Mw k_M_length 1 := ⟨rb_inG 1475 (by decide +kernel) rfl, rb_inG 94 (by decide +kernel) rfl, ⟨by decide, by decide, by decide +kernel⟩, by decide⟩
theorem d_M_length_0 : decode prog_14_method_6_code 0 = .ok (.iconst 0, 1) := by decide +kernel
theorem d_M_length_1 : decode prog_14_method_6_code 1 = .ok (.istore_n 2, 1) := by decide +kernel
theorem d_M_length_2 : decode prog_14_method_6_code 2 = .ok (.lload_n 0, 1) := by decide +kernel
theorem d_M_length_3 : decode prog_14_method_6_code 3 = .ok (.lstore_n 3, 1) := by decide +kernel
theorem d_M_length_4 : decode prog_14_method_6_code 4 = .ok (.lload_n 3, 1) := by decide +kernel
theorem d_M_length_5 : decode prog_14_method_6_code 5 = .ok (.lconst 0, 1) := by decide +kernel
theorem d_M_length_6 : decode prog_14_method_6_code 6 = .ok (.lcmp, 1) := by decide +kernel
theorem d_M_length_7 : decode prog_14_method_6_code 7 = .ok (.ifCond .eq 14, 3) := by decide +kernel
theorem d_M_length_10 : decode prog_14_method_6_code 10 = .ok (.iinc 2 1, 3) := by decide +kernel
theorem d_M_length_13 : decode prog_14_method_6_code 13 = .ok (.lload_n 3, 1) := by decide +kernel
theorem d_M_length_14 : decode prog_14_method_6_code 14 = .ok (.bipush 7, 2) := by decide +kernel
theorem d_M_length_16 : decode prog_14_method_6_code 16 = .ok (.lshr, 1) := by decide +kernel
theorem d_M_length_17 : decode prog_14_method_6_code 17 = .ok (.lstore_n 3, 1) := by decide +kernel
theorem d_M_length_18 : decode prog_14_method_6_code 18 = .ok (.goto (-14), 3) := by decide +kernel
theorem d_M_length_21 : decode prog_14_method_6_code 21 = .ok (.iload_n 2, 1) := by decide +kernel
theorem d_M_length_22 : decode prog_14_method_6_code 22 = .ok (.ireturn, 1) := by decide +kernel
noncomputable def f_M_length_b4 (x2 : Int32) (y3 : Int64) (σ : rb_St) : Option ((Int32 × Int64) ⊕ rb_Rs) :=
  if (lg_cmp y3 (0 : Int64)) = 0 then ((some (some (.int x2), σ)).map Sum.inr) else (some (.inl ((x2 + 1), (y3 >>> ((7 : Int32).toInt64 &&& 63)))))
theorem t_M_length_b4 {E : rb_EV} {d : Nat} {σ0 : rb_St} {res : rb_Rs} (hdd : 0 ≤ d)  (x2 : Int32) (y3 : Int64) (σ : rb_St) : rb_TC (f_M_length_b4 x2 y3 σ) (Sum.elim (fun z : (Int32 × Int64) => rb_WK E k_M_length d σ0 res 4 [none, none, some (.int z.1), some (.long z.2), none] [] σ) (fun r => r = res)) (rb_WK E k_M_length d σ0 res 4 [none, none, some (.int x2), some (.long y3), none] [] σ) := by
  unfold f_M_length_b4
  refine rb_TC.mono (rk_lload_n 3 d_M_length_4 rfl rfl) ?_
  refine rb_TC.mono (rk_lconst (0 : Int64) d_M_length_5 (by decide)) ?_
  refine rb_TC.mono (rk_lcmp d_M_length_6) ?_
  refine rt_if_eq 21 d_M_length_7 (by decide) (fun _ => ?_) (fun _ => ?_)
  · refine rb_TC.out ?_
    refine rb_TC.mono (rk_iload_n 2 d_M_length_21 rfl rfl) ?_
    exact rt_iret (ty := .int) rfl rfl (fun h => h) d_M_length_22
  · refine rb_TC.mono (rk_iinc (lv2 := [none, none, some (.int (x2 + 1)), some (.long y3), none]) (x2 + 1) d_M_length_10 rfl rfl (by decide) (fun _ => rb_one_n) rfl) ?_
    refine rb_TC.mono (rk_lload_n 3 d_M_length_13 rfl rfl) ?_
    refine rb_TC.mono (rk_bipush (7 : Int32) d_M_length_14 (by decide)) ?_
    refine rb_TC.mono (rk_lshr d_M_length_16) ?_
    refine rb_TC.mono (rk_lstore_n (lv2 := [none, none, some (.int (x2 + 1)), some (.long (y3 >>> ((7 : Int32).toInt64 &&& 63))), none]) 3 d_M_length_17 rfl (by decide) (fun _ => rb_one_i) rfl) ?_
    refine rb_TC.mono (rk_goto 4 d_M_length_18 (by decide)) ?_
    exact rb_back
noncomputable def f_M_length (y0 : Int64) (σ : rb_St) : Option rb_Rs :=
  rb_it (fun z : (Int32 × Int64) => f_M_length_b4 (z.1) (z.2) σ) ((0 : Int32), y0)
theorem s_M_length {E : rb_EV} {d : Nat} (hdd : 0 ≤ d) (y0 : Int64) (σ : rb_St) : rb_Does E k_M_length d [.long y0] σ (f_M_length y0 σ) := by
  refine rb_start (lv := [some (.long y0), none, none, none, none]) (by decide) (by simp [lg_sl, rb_as, lv_args, rb_cat_r, rb_cat_i, rb_cat_l, rb_nL, k_M_length]) (fun res => ?_)
  unfold f_M_length
  refine rb_TC.mono (rk_iconst (0 : Int32) d_M_length_0 (by decide)) ?_
  refine rb_TC.mono (rk_istore_n (lv2 := [some (.long y0), none, some (.int (0 : Int32)), none, none]) 2 d_M_length_1 rfl (by decide) (fun _ => rb_one_n) rfl) ?_
  refine rb_TC.mono (rk_lload_n 0 d_M_length_2 rfl rfl) ?_
  refine rb_TC.mono (rk_lstore_n (lv2 := [some (.long y0), none, some (.int (0 : Int32)), some (.long y0), none]) 3 d_M_length_3 rfl (by decide) (fun _ => rb_one_i) rfl) ?_
  refine rb_TC.mono (rk_less (lv2 := [none, none, some (.int (0 : Int32)), some (.long y0), none]) (rb_le_ok (rb_leN (rb_leN (rb_leS (rb_leS (rb_leN rb_le0))))))) ?_
  exact rb_TC.loop2 (A := (fun z : (Int32 × Int64) => rb_WK E k_M_length d σ res 4 [none, none, some (.int z.1), some (.long z.2), none] [] σ)) ((0 : Int32), y0) (fun z => t_M_length_b4 hdd  (z.1) (z.2) σ)
-- ===== RuleBuilderModel.isName(J)Z
def k_M_isName : rb_MK := (⟨"RuleBuilderModel", "isName", "(J)Z"⟩, prog_14_method_7_code, 6, some (.boolean))
theorem mw_M_isName : rb_Mw k_M_isName 1 := ⟨rb_inG 1472 (by decide +kernel) rfl, rb_inG 94 (by decide +kernel) rfl, ⟨by decide, by decide, by decide +kernel⟩, by decide⟩
theorem w_long_M_171 : Cond.constantLong "RuleBuilderModel" 171 (127) ∈ rb_G := rb_inG 1476 (by decide +kernel) rfl
theorem sw_M_167 : rb_Sw "RuleBuilderModel" 167 k_M_length 1 := ⟨mw_M_length, rb_inG 1473 (by decide +kernel) rfl, rb_inG 1474 (by decide +kernel) rfl⟩
theorem d_M_isName_0 : decode prog_14_method_7_code 0 = .ok (.lload_n 0, 1) := by decide +kernel
theorem d_M_isName_1 : decode prog_14_method_7_code 1 = .ok (.lconst 0, 1) := by decide +kernel
theorem d_M_isName_2 : decode prog_14_method_7_code 2 = .ok (.lcmp, 1) := by decide +kernel
theorem d_M_isName_3 : decode prog_14_method_7_code 3 = .ok (.ifCond .le 16, 3) := by decide +kernel
theorem d_M_isName_6 : decode prog_14_method_7_code 6 = .ok (.lload_n 0, 1) := by decide +kernel
theorem d_M_isName_7 : decode prog_14_method_7_code 7 = .ok (.invokestatic 167, 3) := by decide +kernel
theorem d_M_isName_10 : decode prog_14_method_7_code 10 = .ok (.bipush 8, 2) := by decide +kernel
theorem d_M_isName_12 : decode prog_14_method_7_code 12 = .ok (.if_icmp .gt 7, 3) := by decide +kernel
theorem d_M_isName_15 : decode prog_14_method_7_code 15 = .ok (.iconst 1, 1) := by decide +kernel
theorem d_M_isName_16 : decode prog_14_method_7_code 16 = .ok (.goto 4, 3) := by decide +kernel
theorem d_M_isName_19 : decode prog_14_method_7_code 19 = .ok (.iconst 0, 1) := by decide +kernel
theorem d_M_isName_20 : decode prog_14_method_7_code 20 = .ok (.istore_n 2, 1) := by decide +kernel
theorem d_M_isName_21 : decode prog_14_method_7_code 21 = .ok (.lload_n 0, 1) := by decide +kernel
theorem d_M_isName_22 : decode prog_14_method_7_code 22 = .ok (.lstore_n 3, 1) := by decide +kernel
theorem d_M_isName_23 : decode prog_14_method_7_code 23 = .ok (.lload_n 3, 1) := by decide +kernel
theorem d_M_isName_24 : decode prog_14_method_7_code 24 = .ok (.lconst 0, 1) := by decide +kernel
theorem d_M_isName_25 : decode prog_14_method_7_code 25 = .ok (.lcmp, 1) := by decide +kernel
theorem d_M_isName_26 : decode prog_14_method_7_code 26 = .ok (.ifCond .le 71, 3) := by decide +kernel
theorem d_M_isName_29 : decode prog_14_method_7_code 29 = .ok (.lload_n 3, 1) := by decide +kernel
theorem d_M_isName_30 : decode prog_14_method_7_code 30 = .ok (.ldc2_w 171, 3) := by decide +kernel
theorem d_M_isName_33 : decode prog_14_method_7_code 33 = .ok (.land, 1) := by decide +kernel
theorem d_M_isName_34 : decode prog_14_method_7_code 34 = .ok (.l2i, 1) := by decide +kernel
theorem d_M_isName_35 : decode prog_14_method_7_code 35 = .ok (.istore 5, 2) := by decide +kernel
theorem d_M_isName_37 : decode prog_14_method_7_code 37 = .ok (.iload_n 2, 1) := by decide +kernel
theorem d_M_isName_38 : decode prog_14_method_7_code 38 = .ok (.ifCond .eq 49, 3) := by decide +kernel
theorem d_M_isName_41 : decode prog_14_method_7_code 41 = .ok (.iload 5, 2) := by decide +kernel
theorem d_M_isName_43 : decode prog_14_method_7_code 43 = .ok (.bipush 97, 2) := by decide +kernel
theorem d_M_isName_45 : decode prog_14_method_7_code 45 = .ok (.if_icmp .lt 10, 3) := by decide +kernel
theorem d_M_isName_48 : decode prog_14_method_7_code 48 = .ok (.iload 5, 2) := by decide +kernel
theorem d_M_isName_50 : decode prog_14_method_7_code 50 = .ok (.bipush 122, 2) := by decide +kernel
theorem d_M_isName_52 : decode prog_14_method_7_code 52 = .ok (.if_icmp .le 31, 3) := by decide +kernel
theorem d_M_isName_55 : decode prog_14_method_7_code 55 = .ok (.iload 5, 2) := by decide +kernel
theorem d_M_isName_57 : decode prog_14_method_7_code 57 = .ok (.bipush 48, 2) := by decide +kernel
theorem d_M_isName_59 : decode prog_14_method_7_code 59 = .ok (.if_icmp .lt 10, 3) := by decide +kernel
theorem d_M_isName_62 : decode prog_14_method_7_code 62 = .ok (.iload 5, 2) := by decide +kernel
theorem d_M_isName_64 : decode prog_14_method_7_code 64 = .ok (.bipush 57, 2) := by decide +kernel
theorem d_M_isName_66 : decode prog_14_method_7_code 66 = .ok (.if_icmp .le 17, 3) := by decide +kernel
theorem d_M_isName_69 : decode prog_14_method_7_code 69 = .ok (.iload 5, 2) := by decide +kernel
theorem d_M_isName_71 : decode prog_14_method_7_code 71 = .ok (.bipush 46, 2) := by decide +kernel
theorem d_M_isName_73 : decode prog_14_method_7_code 73 = .ok (.if_icmp .eq 10, 3) := by decide +kernel
theorem d_M_isName_76 : decode prog_14_method_7_code 76 = .ok (.iload 5, 2) := by decide +kernel
theorem d_M_isName_78 : decode prog_14_method_7_code 78 = .ok (.bipush 95, 2) := by decide +kernel
theorem d_M_isName_80 : decode prog_14_method_7_code 80 = .ok (.if_icmp .ne 7, 3) := by decide +kernel
theorem d_M_isName_83 : decode prog_14_method_7_code 83 = .ok (.iconst 1, 1) := by decide +kernel
theorem d_M_isName_84 : decode prog_14_method_7_code 84 = .ok (.goto 4, 3) := by decide +kernel
theorem d_M_isName_87 : decode prog_14_method_7_code 87 = .ok (.iconst 0, 1) := by decide +kernel
theorem d_M_isName_88 : decode prog_14_method_7_code 88 = .ok (.istore_n 2, 1) := by decide +kernel
theorem d_M_isName_89 : decode prog_14_method_7_code 89 = .ok (.lload_n 3, 1) := by decide +kernel
theorem d_M_isName_90 : decode prog_14_method_7_code 90 = .ok (.bipush 7, 2) := by decide +kernel
theorem d_M_isName_92 : decode prog_14_method_7_code 92 = .ok (.lshr, 1) := by decide +kernel
theorem d_M_isName_93 : decode prog_14_method_7_code 93 = .ok (.lstore_n 3, 1) := by decide +kernel
theorem d_M_isName_94 : decode prog_14_method_7_code 94 = .ok (.goto (-71), 3) := by decide +kernel
theorem d_M_isName_97 : decode prog_14_method_7_code 97 = .ok (.iload_n 2, 1) := by decide +kernel
theorem d_M_isName_98 : decode prog_14_method_7_code 98 = .ok (.ireturn, 1) := by decide +kernel
noncomputable def f_M_isName_j87 (y3 : Int64) (σ : rb_St) : Option ((Int32 × Int64) ⊕ rb_Rs) :=
  some (.inl ((0 : Int32), (y3 >>> ((7 : Int32).toInt64 &&& 63))))
theorem t_M_isName_j87 {E : rb_EV} {d : Nat} {σ0 : rb_St} {res : rb_Rs} (hdd : 1 ≤ d)  (y3 : Int64) (σ : rb_St) : rb_TC (f_M_isName_j87 y3 σ) (Sum.elim (fun z : (Int32 × Int64) => rb_WK E k_M_isName d σ0 res 23 [none, none, some (.int z.1), some (.long z.2), none, none] [] σ) (fun r => r = res)) (rb_WK E k_M_isName d σ0 res 87 [none, none, none, some (.long y3), none, none] [] σ) := by
  unfold f_M_isName_j87
  refine rb_TC.mono (rk_iconst (0 : Int32) d_M_isName_87 (by decide)) ?_
  refine rb_TC.mono (rk_istore_n (lv2 := [none, none, some (.int (0 : Int32)), some (.long y3), none, none]) 2 d_M_isName_88 rfl (by decide) (fun _ => rb_one_n) rfl) ?_
  refine rb_TC.mono (rk_lload_n 3 d_M_isName_89 rfl rfl) ?_
  refine rb_TC.mono (rk_bipush (7 : Int32) d_M_isName_90 (by decide)) ?_
  refine rb_TC.mono (rk_lshr d_M_isName_92) ?_
  refine rb_TC.mono (rk_lstore_n (lv2 := [none, none, some (.int (0 : Int32)), some (.long (y3 >>> ((7 : Int32).toInt64 &&& 63))), none, none]) 3 d_M_isName_93 rfl (by decide) (fun _ => rb_one_i) rfl) ?_
  refine rb_TC.mono (rk_goto 23 d_M_isName_94 (by decide)) ?_
  exact rb_back
noncomputable def f_M_isName_j83 (y3 : Int64) (σ : rb_St) : Option ((Int32 × Int64) ⊕ rb_Rs) :=
  some (.inl ((1 : Int32), (y3 >>> ((7 : Int32).toInt64 &&& 63))))
theorem t_M_isName_j83 {E : rb_EV} {d : Nat} {σ0 : rb_St} {res : rb_Rs} (hdd : 1 ≤ d)  (y3 : Int64) (σ : rb_St) : rb_TC (f_M_isName_j83 y3 σ) (Sum.elim (fun z : (Int32 × Int64) => rb_WK E k_M_isName d σ0 res 23 [none, none, some (.int z.1), some (.long z.2), none, none] [] σ) (fun r => r = res)) (rb_WK E k_M_isName d σ0 res 83 [none, none, none, some (.long y3), none, none] [] σ) := by
  unfold f_M_isName_j83
  refine rb_TC.mono (rk_iconst (1 : Int32) d_M_isName_83 (by decide)) ?_
  refine rb_TC.mono (rk_goto 88 d_M_isName_84 (by decide)) ?_
  refine rb_TC.mono (rk_istore_n (lv2 := [none, none, some (.int (1 : Int32)), some (.long y3), none, none]) 2 d_M_isName_88 rfl (by decide) (fun _ => rb_one_n) rfl) ?_
  refine rb_TC.mono (rk_lload_n 3 d_M_isName_89 rfl rfl) ?_
  refine rb_TC.mono (rk_bipush (7 : Int32) d_M_isName_90 (by decide)) ?_
  refine rb_TC.mono (rk_lshr d_M_isName_92) ?_
  refine rb_TC.mono (rk_lstore_n (lv2 := [none, none, some (.int (1 : Int32)), some (.long (y3 >>> ((7 : Int32).toInt64 &&& 63))), none, none]) 3 d_M_isName_93 rfl (by decide) (fun _ => rb_one_i) rfl) ?_
  refine rb_TC.mono (rk_goto 23 d_M_isName_94 (by decide)) ?_
  exact rb_back
noncomputable def f_M_isName_j69 (y3 : Int64) (x5 : Int32) (σ : rb_St) : Option ((Int32 × Int64) ⊕ rb_Rs) :=
  if x5 = (46 : Int32) then (f_M_isName_j83 (y3) σ) else (if x5 = (95 : Int32) then (f_M_isName_j83 (y3) σ) else (f_M_isName_j87 (y3) σ))
theorem t_M_isName_j69 {E : rb_EV} {d : Nat} {σ0 : rb_St} {res : rb_Rs} (hdd : 1 ≤ d)  (y3 : Int64) (x5 : Int32) (σ : rb_St) : rb_TC (f_M_isName_j69 y3 x5 σ) (Sum.elim (fun z : (Int32 × Int64) => rb_WK E k_M_isName d σ0 res 23 [none, none, some (.int z.1), some (.long z.2), none, none] [] σ) (fun r => r = res)) (rb_WK E k_M_isName d σ0 res 69 [none, none, none, some (.long y3), none, some (.int x5)] [] σ) := by
  unfold f_M_isName_j69
  refine rb_TC.mono (rk_iload d_M_isName_69 rfl) ?_
  refine rb_TC.mono (rk_bipush (46 : Int32) d_M_isName_71 (by decide)) ?_
  refine rt_icmp_eq 83 d_M_isName_73 (by decide) (fun _ => ?_) (fun _ => ?_)
  · refine rb_TC.mono (rk_less (lv2 := [none, none, none, some (.long y3), none, none]) (rb_le_ok (rb_leN (rb_leN (rb_leN (rb_leS (rb_leN (rb_leN rb_le0)))))))) ?_
    exact t_M_isName_j83 hdd  (y3) σ
  · refine rb_TC.mono (rk_iload d_M_isName_76 rfl) ?_
    refine rb_TC.mono (rk_bipush (95 : Int32) d_M_isName_78 (by decide)) ?_
    refine rt_icmp_ne 87 d_M_isName_80 (by decide) (fun _ => ?_) (fun _ => ?_)
    · refine rb_TC.mono (rk_less (lv2 := [none, none, none, some (.long y3), none, none]) (rb_le_ok (rb_leN (rb_leN (rb_leN (rb_leS (rb_leN (rb_leN rb_le0)))))))) ?_
      exact t_M_isName_j83 hdd  (y3) σ
    · refine rb_TC.mono (rk_less (lv2 := [none, none, none, some (.long y3), none, none]) (rb_le_ok (rb_leN (rb_leN (rb_leN (rb_leS (rb_leN (rb_leN rb_le0)))))))) ?_
      exact t_M_isName_j87 hdd  (y3) σ
noncomputable def f_M_isName_j55 (y3 : Int64) (x5 : Int32) (σ : rb_St) : Option ((Int32 × Int64) ⊕ rb_Rs) :=
  if x5 < (48 : Int32) then (f_M_isName_j69 (y3) (x5) σ) else (if x5 ≤ (57 : Int32) then (f_M_isName_j83 (y3) σ) else (f_M_isName_j69 (y3) (x5) σ))
theorem t_M_isName_j55 {E : rb_EV} {d : Nat} {σ0 : rb_St} {res : rb_Rs} (hdd : 1 ≤ d)  (y3 : Int64) (x5 : Int32) (σ : rb_St) : rb_TC (f_M_isName_j55 y3 x5 σ) (Sum.elim (fun z : (Int32 × Int64) => rb_WK E k_M_isName d σ0 res 23 [none, none, some (.int z.1), some (.long z.2), none, none] [] σ) (fun r => r = res)) (rb_WK E k_M_isName d σ0 res 55 [none, none, none, some (.long y3), none, some (.int x5)] [] σ) := by
  unfold f_M_isName_j55
  refine rb_TC.mono (rk_iload d_M_isName_55 rfl) ?_
  refine rb_TC.mono (rk_bipush (48 : Int32) d_M_isName_57 (by decide)) ?_
  refine rt_icmp_lt 69 d_M_isName_59 (by decide) (fun _ => ?_) (fun _ => ?_)
  · exact t_M_isName_j69 hdd  (y3) (x5) σ
  · refine rb_TC.mono (rk_iload d_M_isName_62 rfl) ?_
    refine rb_TC.mono (rk_bipush (57 : Int32) d_M_isName_64 (by decide)) ?_
    refine rt_icmp_le 83 d_M_isName_66 (by decide) (fun _ => ?_) (fun _ => ?_)
    · refine rb_TC.mono (rk_less (lv2 := [none, none, none, some (.long y3), none, none]) (rb_le_ok (rb_leN (rb_leN (rb_leN (rb_leS (rb_leN (rb_leN rb_le0)))))))) ?_
      exact t_M_isName_j83 hdd  (y3) σ
    · exact t_M_isName_j69 hdd  (y3) (x5) σ
noncomputable def f_M_isName_b23 (x2 : Int32) (y3 : Int64) (σ : rb_St) : Option ((Int32 × Int64) ⊕ rb_Rs) :=
  if (lg_cmp y3 (0 : Int64)) ≤ 0 then ((if rb_isZ x2 then some (some (.int x2), σ) else none).map Sum.inr) else (if x2 = 0 then (f_M_isName_j87 (y3) σ) else (if ((y3 &&& (127 : Int64)).toInt32) < (97 : Int32) then (f_M_isName_j55 (y3) (((y3 &&& (127 : Int64)).toInt32)) σ) else (if ((y3 &&& (127 : Int64)).toInt32) ≤ (122 : Int32) then (f_M_isName_j83 (y3) σ) else (f_M_isName_j55 (y3) (((y3 &&& (127 : Int64)).toInt32)) σ))))
theorem t_M_isName_b23 {E : rb_EV} {d : Nat} {σ0 : rb_St} {res : rb_Rs} (hdd : 1 ≤ d)  (x2 : Int32) (y3 : Int64) (σ : rb_St) : rb_TC (f_M_isName_b23 x2 y3 σ) (Sum.elim (fun z : (Int32 × Int64) => rb_WK E k_M_isName d σ0 res 23 [none, none, some (.int z.1), some (.long z.2), none, none] [] σ) (fun r => r = res)) (rb_WK E k_M_isName d σ0 res 23 [none, none, some (.int x2), some (.long y3), none, none] [] σ) := by
  unfold f_M_isName_b23
  refine rb_TC.mono (rk_lload_n 3 d_M_isName_23 rfl rfl) ?_
  refine rb_TC.mono (rk_lconst (0 : Int64) d_M_isName_24 (by decide)) ?_
  refine rb_TC.mono (rk_lcmp d_M_isName_25) ?_
  refine rt_if_le 97 d_M_isName_26 (by decide) (fun _ => ?_) (fun _ => ?_)
  · refine rb_TC.out ?_
    refine rb_TC.mono (rk_iload_n 2 d_M_isName_97 rfl rfl) ?_
    refine rb_TC.ite (fun hn => ?_) (fun _ => rb_TC.none)
    exact rt_iret (ty := .boolean) rfl (rb_nar_Z hn) (fun h => h) d_M_isName_98
  · refine rb_TC.mono (rk_lload_n 3 d_M_isName_29 rfl rfl) ?_
    refine rb_TC.mono (rk_ldc2 d_M_isName_30 w_long_M_171) ?_
    refine rb_TC.mono (rk_land d_M_isName_33) ?_
    refine rb_TC.mono (rk_l2i d_M_isName_34) ?_
    refine rb_TC.mono (rk_istore (lv2 := [none, none, some (.int x2), some (.long y3), none, some (.int ((y3 &&& (127 : Int64)).toInt32))]) d_M_isName_35 (by decide) (fun _ => rb_one_n) rfl) ?_
    refine rb_TC.mono (rk_iload_n 2 d_M_isName_37 rfl rfl) ?_
    refine rt_if_eq 87 d_M_isName_38 (by decide) (fun _ => ?_) (fun _ => ?_)
    · refine rb_TC.mono (rk_less (lv2 := [none, none, none, some (.long y3), none, none]) (rb_le_ok (rb_leN (rb_leN (rb_leN (rb_leS (rb_leN (rb_leN rb_le0)))))))) ?_
      exact t_M_isName_j87 hdd  (y3) σ
    · refine rb_TC.mono (rk_iload d_M_isName_41 rfl) ?_
      refine rb_TC.mono (rk_bipush (97 : Int32) d_M_isName_43 (by decide)) ?_
      refine rt_icmp_lt 55 d_M_isName_45 (by decide) (fun _ => ?_) (fun _ => ?_)
      · refine rb_TC.mono (rk_less (lv2 := [none, none, none, some (.long y3), none, some (.int ((y3 &&& (127 : Int64)).toInt32))]) (rb_le_ok (rb_leN (rb_leN (rb_leN (rb_leS (rb_leN (rb_leS rb_le0)))))))) ?_
        exact t_M_isName_j55 hdd  (y3) (((y3 &&& (127 : Int64)).toInt32)) σ
      · refine rb_TC.mono (rk_iload d_M_isName_48 rfl) ?_
        refine rb_TC.mono (rk_bipush (122 : Int32) d_M_isName_50 (by decide)) ?_
        refine rt_icmp_le 83 d_M_isName_52 (by decide) (fun _ => ?_) (fun _ => ?_)
        · refine rb_TC.mono (rk_less (lv2 := [none, none, none, some (.long y3), none, none]) (rb_le_ok (rb_leN (rb_leN (rb_leN (rb_leS (rb_leN (rb_leN rb_le0)))))))) ?_
          exact t_M_isName_j83 hdd  (y3) σ
        · refine rb_TC.mono (rk_less (lv2 := [none, none, none, some (.long y3), none, some (.int ((y3 &&& (127 : Int64)).toInt32))]) (rb_le_ok (rb_leN (rb_leN (rb_leN (rb_leS (rb_leN (rb_leS rb_le0)))))))) ?_
          exact t_M_isName_j55 hdd  (y3) (((y3 &&& (127 : Int64)).toInt32)) σ
noncomputable def f_M_isName (y0 : Int64) (σ : rb_St) : Option rb_Rs :=
  if (lg_cmp y0 (0 : Int64)) ≤ 0 then (rb_it (fun z : (Int32 × Int64) => f_M_isName_b23 (z.1) (z.2) σ) ((0 : Int32), y0)) else (rb_cI (f_M_length (y0) σ) fun x_1 σ_2 => if (8 : Int32) < x_1 then (rb_it (fun z : (Int32 × Int64) => f_M_isName_b23 (z.1) (z.2) σ_2) ((0 : Int32), y0)) else (rb_it (fun z : (Int32 × Int64) => f_M_isName_b23 (z.1) (z.2) σ_2) ((1 : Int32), y0)))
theorem s_M_isName {E : rb_EV} {d : Nat} (hdd : 1 ≤ d) (y0 : Int64) (σ : rb_St) : rb_Does E k_M_isName d [.long y0] σ (f_M_isName y0 σ) := by
  refine rb_start (lv := [some (.long y0), none, none, none, none, none]) (by decide) (by simp [lg_sl, rb_as, lv_args, rb_cat_r, rb_cat_i, rb_cat_l, rb_nL, k_M_isName]) (fun res => ?_)
  unfold f_M_isName
  refine rb_TC.mono (rk_lload_n 0 d_M_isName_0 rfl rfl) ?_
  refine rb_TC.mono (rk_lconst (0 : Int64) d_M_isName_1 (by decide)) ?_
  refine rb_TC.mono (rk_lcmp d_M_isName_2) ?_
  refine rt_if_le 19 d_M_isName_3 (by decide) (fun _ => ?_) (fun _ => ?_)
  · refine rb_TC.mono (rk_iconst (0 : Int32) d_M_isName_19 (by decide)) ?_
    refine rb_TC.mono (rk_istore_n (lv2 := [some (.long y0), none, some (.int (0 : Int32)), none, none, none]) 2 d_M_isName_20 rfl (by decide) (fun _ => rb_one_n) rfl) ?_
    refine rb_TC.mono (rk_lload_n 0 d_M_isName_21 rfl rfl) ?_
    refine rb_TC.mono (rk_lstore_n (lv2 := [some (.long y0), none, some (.int (0 : Int32)), some (.long y0), none, none]) 3 d_M_isName_22 rfl (by decide) (fun _ => rb_one_i) rfl) ?_
    refine rb_TC.mono (rk_less (lv2 := [none, none, some (.int (0 : Int32)), some (.long y0), none, none]) (rb_le_ok (rb_leN (rb_leN (rb_leS (rb_leS (rb_leN (rb_leN rb_le0)))))))) ?_
    exact rb_TC.loop2 (A := (fun z : (Int32 × Int64) => rb_WK E k_M_isName d σ res 23 [none, none, some (.int z.1), some (.long z.2), none, none] [] σ)) ((0 : Int32), y0) (fun z => t_M_isName_b23 hdd  (z.1) (z.2) σ)
  · refine rb_TC.mono (rk_lload_n 0 d_M_isName_6 rfl rfl) ?_
    refine rt_sI (As := [.long y0]) (st := []) sw_M_167 (s_M_length (Nat.le_refl _) (y0) σ) (Nat.le_trans (by decide) hdd) rfl (by simp [rb_cat_r, rb_cat_i, rb_cat_l]) d_M_isName_7 (fun x_1 σ_2 => ?_)
    refine rb_TC.mono (rk_bipush (8 : Int32) d_M_isName_10 (by decide)) ?_
    refine rt_icmp_gt 19 d_M_isName_12 (by decide) (fun _ => ?_) (fun _ => ?_)
    · refine rb_TC.mono (rk_iconst (0 : Int32) d_M_isName_19 (by decide)) ?_
      refine rb_TC.mono (rk_istore_n (lv2 := [some (.long y0), none, some (.int (0 : Int32)), none, none, none]) 2 d_M_isName_20 rfl (by decide) (fun _ => rb_one_n) rfl) ?_
      refine rb_TC.mono (rk_lload_n 0 d_M_isName_21 rfl rfl) ?_
      refine rb_TC.mono (rk_lstore_n (lv2 := [some (.long y0), none, some (.int (0 : Int32)), some (.long y0), none, none]) 3 d_M_isName_22 rfl (by decide) (fun _ => rb_one_i) rfl) ?_
      refine rb_TC.mono (rk_less (lv2 := [none, none, some (.int (0 : Int32)), some (.long y0), none, none]) (rb_le_ok (rb_leN (rb_leN (rb_leS (rb_leS (rb_leN (rb_leN rb_le0)))))))) ?_
      exact rb_TC.loop2 (A := (fun z : (Int32 × Int64) => rb_WK E k_M_isName d σ res 23 [none, none, some (.int z.1), some (.long z.2), none, none] [] σ_2)) ((0 : Int32), y0) (fun z => t_M_isName_b23 hdd  (z.1) (z.2) σ_2)
    · refine rb_TC.mono (rk_iconst (1 : Int32) d_M_isName_15 (by decide)) ?_
      refine rb_TC.mono (rk_goto 20 d_M_isName_16 (by decide)) ?_
      refine rb_TC.mono (rk_istore_n (lv2 := [some (.long y0), none, some (.int (1 : Int32)), none, none, none]) 2 d_M_isName_20 rfl (by decide) (fun _ => rb_one_n) rfl) ?_
      refine rb_TC.mono (rk_lload_n 0 d_M_isName_21 rfl rfl) ?_
      refine rb_TC.mono (rk_lstore_n (lv2 := [some (.long y0), none, some (.int (1 : Int32)), some (.long y0), none, none]) 3 d_M_isName_22 rfl (by decide) (fun _ => rb_one_i) rfl) ?_
      refine rb_TC.mono (rk_less (lv2 := [none, none, some (.int (1 : Int32)), some (.long y0), none, none]) (rb_le_ok (rb_leN (rb_leN (rb_leS (rb_leS (rb_leN (rb_leN rb_le0)))))))) ?_
      exact rb_TC.loop2 (A := (fun z : (Int32 × Int64) => rb_WK E k_M_isName d σ res 23 [none, none, some (.int z.1), some (.long z.2), none, none] [] σ_2)) ((1 : Int32), y0) (fun z => t_M_isName_b23 hdd  (z.1) (z.2) σ_2)
-- ===== RuleBuilderModel.find(J)I
def k_M_find : rb_MK := (⟨"RuleBuilderModel", "find", "(J)I"⟩, prog_14_method_8_code, 4, some (.int))
theorem mw_M_find : rb_Mw k_M_find 1 := ⟨rb_inG 1480 (by decide +kernel) rfl, rb_inG 94 (by decide +kernel) rfl, ⟨by decide, by decide, by decide +kernel⟩, by decide⟩
theorem fw_M_173 : rb_Fw "RuleBuilderModel" 173 13 2 := ⟨_, rfl, by decide, by decide, by decide, rfl, rb_inG 1222 (by decide +kernel) rfl⟩
theorem d_M_find_0 : decode prog_14_method_8_code 0 = .ok (.iconst 0, 1) := by decide +kernel
theorem d_M_find_1 : decode prog_14_method_8_code 1 = .ok (.istore_n 3, 1) := by decide +kernel
theorem d_M_find_2 : decode prog_14_method_8_code 2 = .ok (.iload_n 3, 1) := by decide +kernel
theorem d_M_find_3 : decode prog_14_method_8_code 3 = .ok (.aload_n 0, 1) := by decide +kernel
theorem d_M_find_4 : decode prog_14_method_8_code 4 = .ok (.getfield 173, 3) := by decide +kernel
theorem d_M_find_7 : decode prog_14_method_8_code 7 = .ok (.if_icmp .ge 22, 3) := by decide +kernel
theorem d_M_find_10 : decode prog_14_method_8_code 10 = .ok (.aload_n 0, 1) := by decide +kernel
theorem d_M_find_11 : decode prog_14_method_8_code 11 = .ok (.getfield 13, 3) := by decide +kernel
theorem d_M_find_14 : decode prog_14_method_8_code 14 = .ok (.iload_n 3, 1) := by decide +kernel
theorem d_M_find_15 : decode prog_14_method_8_code 15 = .ok (.laload, 1) := by decide +kernel
theorem d_M_find_16 : decode prog_14_method_8_code 16 = .ok (.lload_n 1, 1) := by decide +kernel
theorem d_M_find_17 : decode prog_14_method_8_code 17 = .ok (.lcmp, 1) := by decide +kernel
theorem d_M_find_18 : decode prog_14_method_8_code 18 = .ok (.ifCond .ne 5, 3) := by decide +kernel
theorem d_M_find_21 : decode prog_14_method_8_code 21 = .ok (.iload_n 3, 1) := by decide +kernel
theorem d_M_find_22 : decode prog_14_method_8_code 22 = .ok (.ireturn, 1) := by decide +kernel
theorem d_M_find_23 : decode prog_14_method_8_code 23 = .ok (.iinc 3 1, 3) := by decide +kernel
theorem d_M_find_26 : decode prog_14_method_8_code 26 = .ok (.goto (-24), 3) := by decide +kernel
theorem d_M_find_29 : decode prog_14_method_8_code 29 = .ok (.iconst (-1), 1) := by decide +kernel
theorem d_M_find_30 : decode prog_14_method_8_code 30 = .ok (.ireturn, 1) := by decide +kernel
noncomputable def f_M_find_b2 (r0 : Option Nat) (y1 : Int64) (x3 : Int32) (σ : rb_St) : Option ((Int32) ⊕ rb_Rs) :=
  (rb_gI σ r0 13 2).bind fun x_1 => if x_1 ≤ x3 then ((some (some (.int (-1 : Int32)), σ)).map Sum.inr) else ((rb_gR σ r0 13 3).bind fun r_2 => (rb_aL σ r_2 103 x3).bind fun y_3 => if (lg_cmp y_3 y1) = 0 then ((some (some (.int x3), σ)).map Sum.inr) else (some (.inl (x3 + 1))))
theorem t_M_find_b2 {E : rb_EV} {d : Nat} {σ0 : rb_St} {res : rb_Rs} (hdd : 0 ≤ d)  (r0 : Option Nat) (y1 : Int64) (x3 : Int32) (σ : rb_St) : rb_TC (f_M_find_b2 r0 y1 x3 σ) (Sum.elim (fun z : (Int32) => rb_WK E k_M_find d σ0 res 2 [some (va_rf r0), some (.long y1), none, some (.int z)] [] σ) (fun r => r = res)) (rb_WK E k_M_find d σ0 res 2 [some (va_rf r0), some (.long y1), none, some (.int x3)] [] σ) := by
  unfold f_M_find_b2
  refine rb_TC.mono (rk_iload_n 3 d_M_find_2 rfl rfl) ?_
  refine rb_TC.mono (rk_aload_n 0 d_M_find_3 rfl rfl) ?_
  refine rt_gI r0 fw_M_173 d_M_find_4 (fun x_1 => ?_)
  refine rt_icmp_ge 29 d_M_find_7 (by decide) (fun _ => ?_) (fun _ => ?_)
  · refine rb_TC.out ?_
    refine rb_TC.mono (rk_iconst (-1 : Int32) d_M_find_29 (by decide)) ?_
    exact rt_iret (ty := .int) rfl rfl (fun h => h) d_M_find_30
  · refine rb_TC.mono (rk_aload_n 0 d_M_find_10 rfl rfl) ?_
    refine rt_gR r0 fw_M_13 d_M_find_11 (fun r_2 => ?_)
    refine rb_TC.mono (rk_iload_n 3 d_M_find_14 rfl rfl) ?_
    refine rt_lald r_2 d_M_find_15 (fun y_3 => ?_)
    refine rb_TC.mono (rk_lload_n 1 d_M_find_16 rfl rfl) ?_
    refine rb_TC.mono (rk_lcmp d_M_find_17) ?_
    refine rt_if_ne 23 d_M_find_18 (by decide) (fun _ => ?_) (fun _ => ?_)
    · refine rb_TC.out ?_
      refine rb_TC.mono (rk_iload_n 3 d_M_find_21 rfl rfl) ?_
      exact rt_iret (ty := .int) rfl rfl (fun h => h) d_M_find_22
    · refine rb_TC.mono (rk_iinc (lv2 := [some (va_rf r0), some (.long y1), none, some (.int (x3 + 1))]) (x3 + 1) d_M_find_23 rfl rfl (by decide) (fun _ => rb_one_n) rfl) ?_
      refine rb_TC.mono (rk_goto 2 d_M_find_26 (by decide)) ?_
      exact rb_back
noncomputable def f_M_find (r0 : Option Nat) (y1 : Int64) (σ : rb_St) : Option rb_Rs :=
  rb_it (fun z : (Int32) => f_M_find_b2 (r0) (y1) (z) σ) (0 : Int32)
theorem s_M_find {E : rb_EV} {d : Nat} (hdd : 0 ≤ d) (r0 : Option Nat) (y1 : Int64) (σ : rb_St) : rb_Does E k_M_find d [va_rf r0, .long y1] σ (f_M_find r0 y1 σ) := by
  refine rb_start (lv := [some (va_rf r0), some (.long y1), none, none]) (by decide) (by simp [lg_sl, rb_as, lv_args, rb_cat_r, rb_cat_i, rb_cat_l, rb_nL, k_M_find]) (fun res => ?_)
  unfold f_M_find
  refine rb_TC.mono (rk_iconst (0 : Int32) d_M_find_0 (by decide)) ?_
  refine rb_TC.mono (rk_istore_n (lv2 := [some (va_rf r0), some (.long y1), none, some (.int (0 : Int32))]) 3 d_M_find_1 rfl (by decide) (fun _ => rb_one_n) rfl) ?_
  exact rb_TC.loop2 (A := (fun z : (Int32) => rb_WK E k_M_find d σ res 2 [some (va_rf r0), some (.long y1), none, some (.int z)] [] σ)) (0 : Int32) (fun z => t_M_find_b2 hdd  (r0) (y1) (z) σ)
-- ===== RuleBuilderModel.meet(J)I
def k_M_meet : rb_MK := (⟨"RuleBuilderModel", "meet", "(J)I"⟩, prog_14_method_9_code, 4, some (.int))
theorem mw_M_meet : rb_Mw k_M_meet 1 := ⟨rb_inG 1469 (by decide +kernel) rfl, rb_inG 94 (by decide +kernel) rfl, ⟨by decide, by decide, by decide +kernel⟩, by decide⟩
theorem fp_M_meet_173 : rb_Fp k_M_meet 173 13 2 .int := ⟨fw_M_173, rfl, fun q h => by cases h; exact Or.inl rfl⟩
theorem sw_M_176 : rb_Sw "RuleBuilderModel" 176 k_M_isName 1 := ⟨mw_M_isName, rb_inG 1470 (by decide +kernel) rfl, rb_inG 1471 (by decide +kernel) rfl⟩
theorem vw_M_180 : rb_Vw "RuleBuilderModel" 180 k_M_find 13 1 := ⟨mw_M_find, rb_inG 1477 (by decide +kernel) rfl, rb_inG 1479 (by decide +kernel) rfl, rb_inG 37 (by decide +kernel) rfl, by decide, by decide, _, rfl, rfl⟩
theorem d_M_meet_0 : decode prog_14_method_9_code 0 = .ok (.lload_n 1, 1) := by decide +kernel
theorem d_M_meet_1 : decode prog_14_method_9_code 1 = .ok (.invokestatic 176, 3) := by decide +kernel
theorem d_M_meet_4 : decode prog_14_method_9_code 4 = .ok (.ifCond .eq 11, 3) := by decide +kernel
theorem d_M_meet_7 : decode prog_14_method_9_code 7 = .ok (.aload_n 0, 1) := by decide +kernel
theorem d_M_meet_8 : decode prog_14_method_9_code 8 = .ok (.lload_n 1, 1) := by decide +kernel
theorem d_M_meet_9 : decode prog_14_method_9_code 9 = .ok (.invokevirtual 180, 3) := by decide +kernel
theorem d_M_meet_12 : decode prog_14_method_9_code 12 = .ok (.goto 4, 3) := by decide +kernel
theorem d_M_meet_15 : decode prog_14_method_9_code 15 = .ok (.iconst (-1), 1) := by decide +kernel
theorem d_M_meet_16 : decode prog_14_method_9_code 16 = .ok (.istore_n 3, 1) := by decide +kernel
theorem d_M_meet_17 : decode prog_14_method_9_code 17 = .ok (.iload_n 3, 1) := by decide +kernel
theorem d_M_meet_18 : decode prog_14_method_9_code 18 = .ok (.ifCond .ge 19, 3) := by decide +kernel
theorem d_M_meet_21 : decode prog_14_method_9_code 21 = .ok (.lload_n 1, 1) := by decide +kernel
theorem d_M_meet_22 : decode prog_14_method_9_code 22 = .ok (.invokestatic 176, 3) := by decide +kernel
theorem d_M_meet_25 : decode prog_14_method_9_code 25 = .ok (.ifCond .eq 12, 3) := by decide +kernel
theorem d_M_meet_28 : decode prog_14_method_9_code 28 = .ok (.aload_n 0, 1) := by decide +kernel
theorem d_M_meet_29 : decode prog_14_method_9_code 29 = .ok (.getfield 173, 3) := by decide +kernel
theorem d_M_meet_32 : decode prog_14_method_9_code 32 = .ok (.bipush 32, 2) := by decide +kernel
theorem d_M_meet_34 : decode prog_14_method_9_code 34 = .ok (.if_icmp .ne 5, 3) := by decide +kernel
theorem d_M_meet_37 : decode prog_14_method_9_code 37 = .ok (.iload_n 3, 1) := by decide +kernel
theorem d_M_meet_38 : decode prog_14_method_9_code 38 = .ok (.ireturn, 1) := by decide +kernel
theorem d_M_meet_39 : decode prog_14_method_9_code 39 = .ok (.aload_n 0, 1) := by decide +kernel
theorem d_M_meet_40 : decode prog_14_method_9_code 40 = .ok (.getfield 13, 3) := by decide +kernel
theorem d_M_meet_43 : decode prog_14_method_9_code 43 = .ok (.aload_n 0, 1) := by decide +kernel
theorem d_M_meet_44 : decode prog_14_method_9_code 44 = .ok (.getfield 173, 3) := by decide +kernel
theorem d_M_meet_47 : decode prog_14_method_9_code 47 = .ok (.lload_n 1, 1) := by decide +kernel
theorem d_M_meet_48 : decode prog_14_method_9_code 48 = .ok (.lastore, 1) := by decide +kernel
theorem d_M_meet_49 : decode prog_14_method_9_code 49 = .ok (.aload_n 0, 1) := by decide +kernel
theorem d_M_meet_50 : decode prog_14_method_9_code 50 = .ok (.dup, 1) := by decide +kernel
theorem d_M_meet_51 : decode prog_14_method_9_code 51 = .ok (.getfield 173, 3) := by decide +kernel
theorem d_M_meet_54 : decode prog_14_method_9_code 54 = .ok (.iconst 1, 1) := by decide +kernel
theorem d_M_meet_55 : decode prog_14_method_9_code 55 = .ok (.iadd, 1) := by decide +kernel
theorem d_M_meet_56 : decode prog_14_method_9_code 56 = .ok (.putfield 173, 3) := by decide +kernel
theorem d_M_meet_59 : decode prog_14_method_9_code 59 = .ok (.aload_n 0, 1) := by decide +kernel
theorem d_M_meet_60 : decode prog_14_method_9_code 60 = .ok (.getfield 173, 3) := by decide +kernel
theorem d_M_meet_63 : decode prog_14_method_9_code 63 = .ok (.iconst 1, 1) := by decide +kernel
theorem d_M_meet_64 : decode prog_14_method_9_code 64 = .ok (.isub, 1) := by decide +kernel
theorem d_M_meet_65 : decode prog_14_method_9_code 65 = .ok (.ireturn, 1) := by decide +kernel
noncomputable def f_M_meet_j16 (r0 : Option Nat) (y1 : Int64) (sx0 : Int32) (σ : rb_St) : Option rb_Rs :=
  if 0 ≤ sx0 then (some (some (.int sx0), σ)) else (rb_cI (f_M_isName (y1) σ) fun x_3 σ_4 => if x_3 = 0 then (some (some (.int sx0), σ_4)) else ((rb_gI σ_4 r0 13 2).bind fun x_5 => if x_5 = (32 : Int32) then (some (some (.int sx0), σ_4)) else ((rb_gR σ_4 r0 13 3).bind fun r_6 => (rb_gI σ_4 r0 13 2).bind fun x_7 => (rb_sL σ_4 r_6 103 x_7 y1).bind fun σ_8 => (rb_gI σ_8 r0 13 2).bind fun x_9 => (rb_pI σ_8 r0 13 2 (x_9 + (1 : Int32))).bind fun σ_10 => (rb_gI σ_10 r0 13 2).bind fun x_11 => some (some (.int (x_11 - (1 : Int32))), σ_10))))
theorem t_M_meet_j16 {E : rb_EV} {d : Nat} {σ0 : rb_St} {res : rb_Rs} (hdd : 2 ≤ d)  (r0 : Option Nat) (y1 : Int64) (sx0 : Int32) (σ : rb_St) : rb_TC (f_M_meet_j16 r0 y1 sx0 σ) (fun r => r = res) (rb_WK E k_M_meet d σ0 res 16 [some (va_rf r0), some (.long y1), none, none] [.int sx0] σ) := by
  unfold f_M_meet_j16
  refine rb_TC.mono (rk_istore_n (lv2 := [some (va_rf r0), some (.long y1), none, some (.int sx0)]) 3 d_M_meet_16 rfl (by decide) (fun _ => rb_one_n) rfl) ?_
  refine rb_TC.mono (rk_iload_n 3 d_M_meet_17 rfl rfl) ?_
  refine rt_if_ge 37 d_M_meet_18 (by decide) (fun _ => ?_) (fun _ => ?_)
  · refine rb_TC.mono (rk_iload_n 3 d_M_meet_37 rfl rfl) ?_
    exact rt_iret (ty := .int) rfl rfl (fun h => h) d_M_meet_38
  · refine rb_TC.mono (rk_lload_n 1 d_M_meet_21 rfl rfl) ?_
    refine rt_sI (As := [.long y1]) (st := []) sw_M_176 (s_M_isName (Nat.le_refl _) (y1) σ) (Nat.le_trans (by decide) hdd) rfl (by simp [rb_cat_r, rb_cat_i, rb_cat_l]) d_M_meet_22 (fun x_3 σ_4 => ?_)
    refine rt_if_eq 37 d_M_meet_25 (by decide) (fun _ => ?_) (fun _ => ?_)
    · refine rb_TC.mono (rk_iload_n 3 d_M_meet_37 rfl rfl) ?_
      exact rt_iret (ty := .int) rfl rfl (fun h => h) d_M_meet_38
    · refine rb_TC.mono (rk_aload_n 0 d_M_meet_28 rfl rfl) ?_
      refine rt_gI r0 fw_M_173 d_M_meet_29 (fun x_5 => ?_)
      refine rb_TC.mono (rk_bipush (32 : Int32) d_M_meet_32 (by decide)) ?_
      refine rt_icmp_ne 39 d_M_meet_34 (by decide) (fun _ => ?_) (fun _ => ?_)
      · refine rb_TC.mono (rk_iload_n 3 d_M_meet_37 rfl rfl) ?_
        exact rt_iret (ty := .int) rfl rfl (fun h => h) d_M_meet_38
      · refine rb_TC.mono (rk_aload_n 0 d_M_meet_39 rfl rfl) ?_
        refine rt_gR r0 fw_M_13 d_M_meet_40 (fun r_6 => ?_)
        refine rb_TC.mono (rk_aload_n 0 d_M_meet_43 rfl rfl) ?_
        refine rt_gI r0 fw_M_173 d_M_meet_44 (fun x_7 => ?_)
        refine rb_TC.mono (rk_lload_n 1 d_M_meet_47 rfl rfl) ?_
        refine rt_last r_6 d_M_meet_48 (fun σ_8 => ?_)
        refine rb_TC.mono (rk_aload_n 0 d_M_meet_49 rfl rfl) ?_
        refine rb_TC.mono (rk_dupr d_M_meet_50) ?_
        refine rt_gI r0 fw_M_173 d_M_meet_51 (fun x_9 => ?_)
        refine rb_TC.mono (rk_iconst (1 : Int32) d_M_meet_54 (by decide)) ?_
        refine rb_TC.mono (rk_iadd d_M_meet_55) ?_
        refine rt_pI r0 fp_M_meet_173 d_M_meet_56 (fun σ_10 => ?_)
        refine rb_TC.mono (rk_aload_n 0 d_M_meet_59 rfl rfl) ?_
        refine rt_gI r0 fw_M_173 d_M_meet_60 (fun x_11 => ?_)
        refine rb_TC.mono (rk_iconst (1 : Int32) d_M_meet_63 (by decide)) ?_
        refine rb_TC.mono (rk_isub d_M_meet_64) ?_
        exact rt_iret (ty := .int) rfl rfl (fun h => h) d_M_meet_65
noncomputable def f_M_meet (r0 : Option Nat) (y1 : Int64) (σ : rb_St) : Option rb_Rs :=
  rb_cI (f_M_isName (y1) σ) fun x_1 σ_2 => if x_1 = 0 then (f_M_meet_j16 (r0) (y1) ((-1 : Int32)) σ_2) else ((rb_fc σ_2 r0 13).bind fun _ => rb_cI (f_M_find (r0) (y1) σ_2) fun x_12 σ_13 => f_M_meet_j16 (r0) (y1) (x_12) σ_13)
theorem s_M_meet {E : rb_EV} {d : Nat} (hdd : 2 ≤ d) (r0 : Option Nat) (y1 : Int64) (σ : rb_St) : rb_Does E k_M_meet d [va_rf r0, .long y1] σ (f_M_meet r0 y1 σ) := by
  refine rb_start (lv := [some (va_rf r0), some (.long y1), none, none]) (by decide) (by simp [lg_sl, rb_as, lv_args, rb_cat_r, rb_cat_i, rb_cat_l, rb_nL, k_M_meet]) (fun res => ?_)
  unfold f_M_meet
  refine rb_TC.mono (rk_lload_n 1 d_M_meet_0 rfl rfl) ?_
  refine rt_sI (As := [.long y1]) (st := []) sw_M_176 (s_M_isName (Nat.le_refl _) (y1) σ) (Nat.le_trans (by decide) hdd) rfl (by simp [rb_cat_r, rb_cat_i, rb_cat_l]) d_M_meet_1 (fun x_1 σ_2 => ?_)
  refine rt_if_eq 15 d_M_meet_4 (by decide) (fun _ => ?_) (fun _ => ?_)
  · refine rb_TC.mono (rk_iconst (-1 : Int32) d_M_meet_15 (by decide)) ?_
    exact t_M_meet_j16 hdd  (r0) (y1) ((-1 : Int32)) σ_2
  · refine rb_TC.mono (rk_aload_n 0 d_M_meet_7 rfl rfl) ?_
    refine rb_TC.mono (rk_lload_n 1 d_M_meet_8 rfl rfl) ?_
    refine rt_vI (As := [.long y1]) (st := []) (r0) vw_M_180 (s_M_find (Nat.le_refl _) (r0) (y1) σ_2) (Nat.le_trans (by decide) hdd) rfl (by simp [rb_cat_r, rb_cat_i, rb_cat_l]) d_M_meet_9 (fun x_12 σ_13 => ?_)
    refine rb_TC.mono (rk_goto 16 d_M_meet_12 (by decide)) ?_
    exact t_M_meet_j16 hdd  (r0) (y1) (x_12) σ_13
-- ===== RuleBuilderModel.write(II)V
def k_M_write : rb_MK := (⟨"RuleBuilderModel", "write", "(II)V"⟩, prog_14_method_10_code, 3, none)
theorem mw_M_write : rb_Mw k_M_write 2 := ⟨rb_inG 1484 (by decide +kernel) rfl, rb_inG 94 (by decide +kernel) rfl, ⟨by decide, by decide, by decide +kernel⟩, by decide⟩
theorem fw_M_183 : rb_Fw "RuleBuilderModel" 183 13 7 := ⟨_, rfl, by decide, by decide, by decide, rfl, rb_inG 1227 (by decide +kernel) rfl⟩
theorem fp_M_write_183 : rb_Fp k_M_write 183 13 7 .int := ⟨fw_M_183, rfl, fun q h => by cases h; exact Or.inl rfl⟩
theorem d_M_write_0 : decode prog_14_method_10_code 0 = .ok (.aload_n 0, 1) := by decide +kernel
theorem d_M_write_1 : decode prog_14_method_10_code 1 = .ok (.dup, 1) := by decide +kernel
theorem d_M_write_2 : decode prog_14_method_10_code 2 = .ok (.getfield 183, 3) := by decide +kernel
theorem d_M_write_5 : decode prog_14_method_10_code 5 = .ok (.iconst 1, 1) := by decide +kernel
theorem d_M_write_6 : decode prog_14_method_10_code 6 = .ok (.iadd, 1) := by decide +kernel
theorem d_M_write_7 : decode prog_14_method_10_code 7 = .ok (.putfield 183, 3) := by decide +kernel
theorem d_M_write_10 : decode prog_14_method_10_code 10 = .ok (.aload_n 0, 1) := by decide +kernel
theorem d_M_write_11 : decode prog_14_method_10_code 11 = .ok (.getfield 17, 3) := by decide +kernel
theorem d_M_write_14 : decode prog_14_method_10_code 14 = .ok (.iload_n 1, 1) := by decide +kernel
theorem d_M_write_15 : decode prog_14_method_10_code 15 = .ok (.iconst 1, 1) := by decide +kernel
theorem d_M_write_16 : decode prog_14_method_10_code 16 = .ok (.bastore, 1) := by decide +kernel
theorem d_M_write_17 : decode prog_14_method_10_code 17 = .ok (.aload_n 0, 1) := by decide +kernel
theorem d_M_write_18 : decode prog_14_method_10_code 18 = .ok (.getfield 21, 3) := by decide +kernel
theorem d_M_write_21 : decode prog_14_method_10_code 21 = .ok (.iload_n 1, 1) := by decide +kernel
theorem d_M_write_22 : decode prog_14_method_10_code 22 = .ok (.aload_n 0, 1) := by decide +kernel
theorem d_M_write_23 : decode prog_14_method_10_code 23 = .ok (.getfield 183, 3) := by decide +kernel
theorem d_M_write_26 : decode prog_14_method_10_code 26 = .ok (.iastore, 1) := by decide +kernel
theorem d_M_write_27 : decode prog_14_method_10_code 27 = .ok (.aload_n 0, 1) := by decide +kernel
theorem d_M_write_28 : decode prog_14_method_10_code 28 = .ok (.getfield 24, 3) := by decide +kernel
theorem d_M_write_31 : decode prog_14_method_10_code 31 = .ok (.iload_n 1, 1) := by decide +kernel
theorem d_M_write_32 : decode prog_14_method_10_code 32 = .ok (.iload_n 2, 1) := by decide +kernel
theorem d_M_write_33 : decode prog_14_method_10_code 33 = .ok (.iastore, 1) := by decide +kernel
theorem d_M_write_34 : decode prog_14_method_10_code 34 = .ok (.return_, 1) := by decide +kernel
noncomputable def f_M_write (r0 : Option Nat) (x1 : Int32) (x2 : Int32) (σ : rb_St) : Option rb_Rs :=
  (rb_gI σ r0 13 7).bind fun x_1 => (rb_pI σ r0 13 7 (x_1 + (1 : Int32))).bind fun σ_2 => (rb_gR σ_2 r0 13 4).bind fun r_3 => (rb_sI σ_2 r_3 104 x1 (1 : Int32)).bind fun σ_4 => (rb_gR σ_4 r0 13 5).bind fun r_5 => (rb_gI σ_4 r0 13 7).bind fun x_6 => (rb_sI σ_4 r_5 102 x1 x_6).bind fun σ_7 => (rb_gR σ_7 r0 13 6).bind fun r_8 => (rb_sI σ_7 r_8 102 x1 x2).bind fun σ_9 => some (none, σ_9)
theorem s_M_write {E : rb_EV} {d : Nat} (hdd : 0 ≤ d) (r0 : Option Nat) (x1 : Int32) (x2 : Int32) (σ : rb_St) : rb_Does E k_M_write d [va_rf r0, .int x1, .int x2] σ (f_M_write r0 x1 x2 σ) := by
  refine rb_start (lv := [some (va_rf r0), some (.int x1), some (.int x2)]) (by decide) (by simp [lg_sl, rb_as, lv_args, rb_cat_r, rb_cat_i, rb_cat_l, rb_nL, k_M_write]) (fun res => ?_)
  unfold f_M_write
  refine rb_TC.mono (rk_aload_n 0 d_M_write_0 rfl rfl) ?_
  refine rb_TC.mono (rk_dupr d_M_write_1) ?_
  refine rt_gI r0 fw_M_183 d_M_write_2 (fun x_1 => ?_)
  refine rb_TC.mono (rk_iconst (1 : Int32) d_M_write_5 (by decide)) ?_
  refine rb_TC.mono (rk_iadd d_M_write_6) ?_
  refine rt_pI r0 fp_M_write_183 d_M_write_7 (fun σ_2 => ?_)
  refine rb_TC.mono (rk_aload_n 0 d_M_write_10 rfl rfl) ?_
  refine rt_gR r0 fw_M_17 d_M_write_11 (fun r_3 => ?_)
  refine rb_TC.mono (rk_iload_n 1 d_M_write_14 rfl rfl) ?_
  refine rb_TC.mono (rk_iconst (1 : Int32) d_M_write_15 (by decide)) ?_
  refine rt_zast r_3 d_M_write_16 (fun σ_4 => ?_)
  refine rb_TC.mono (rk_aload_n 0 d_M_write_17 rfl rfl) ?_
  refine rt_gR r0 fw_M_21 d_M_write_18 (fun r_5 => ?_)
  refine rb_TC.mono (rk_iload_n 1 d_M_write_21 rfl rfl) ?_
  refine rb_TC.mono (rk_aload_n 0 d_M_write_22 rfl rfl) ?_
  refine rt_gI r0 fw_M_183 d_M_write_23 (fun x_6 => ?_)
  refine rt_iast r_5 d_M_write_26 (fun σ_7 => ?_)
  refine rb_TC.mono (rk_aload_n 0 d_M_write_27 rfl rfl) ?_
  refine rt_gR r0 fw_M_24 d_M_write_28 (fun r_8 => ?_)
  refine rb_TC.mono (rk_iload_n 1 d_M_write_31 rfl rfl) ?_
  refine rb_TC.mono (rk_iload_n 2 d_M_write_32 rfl rfl) ?_
  refine rt_iast r_8 d_M_write_33 (fun σ_9 => ?_)
  exact rt_vret rfl (fun h => h) d_M_write_34
-- ===== RuleBuilderModel.edit(I)I
def k_M_edit : rb_MK := (⟨"RuleBuilderModel", "edit", "(I)I"⟩, prog_14_method_12_code, 3, some (.int))
theorem mw_M_edit : rb_Mw k_M_edit 1 := ⟨rb_inG 1460 (by decide +kernel) rfl, rb_inG 94 (by decide +kernel) rfl, ⟨by decide, by decide, by decide +kernel⟩, by decide⟩
theorem fp_M_edit_159 : rb_Fp k_M_edit 159 13 1 .int := ⟨fw_M_159, rfl, fun q h => by cases h; exact Or.inl rfl⟩
theorem vw_M_188 : rb_Vw "RuleBuilderModel" 188 k_M_drafts 13 0 := ⟨mw_M_drafts, rb_inG 1461 (by decide +kernel) rfl, rb_inG 1463 (by decide +kernel) rfl, rb_inG 35 (by decide +kernel) rfl, by decide, by decide, _, rfl, rfl⟩
theorem vw_M_192 : rb_Vw "RuleBuilderModel" 192 k_M_meet 13 1 := ⟨mw_M_meet, rb_inG 1466 (by decide +kernel) rfl, rb_inG 1468 (by decide +kernel) rfl, rb_inG 36 (by decide +kernel) rfl, by decide, by decide, _, rfl, rfl⟩
theorem vw_M_195 : rb_Vw "RuleBuilderModel" 195 k_M_write 13 2 := ⟨mw_M_write, rb_inG 1481 (by decide +kernel) rfl, rb_inG 1483 (by decide +kernel) rfl, rb_inG 38 (by decide +kernel) rfl, by decide, by decide, _, rfl, rfl⟩
theorem d_M_edit_0 : decode prog_14_method_12_code 0 = .ok (.aload_n 0, 1) := by decide +kernel
theorem d_M_edit_1 : decode prog_14_method_12_code 1 = .ok (.aload_n 0, 1) := by decide +kernel
theorem d_M_edit_2 : decode prog_14_method_12_code 2 = .ok (.invokevirtual 188, 3) := by decide +kernel
theorem d_M_edit_5 : decode prog_14_method_12_code 5 = .ok (.invokevirtual 192, 3) := by decide +kernel
theorem d_M_edit_8 : decode prog_14_method_12_code 8 = .ok (.istore_n 2, 1) := by decide +kernel
theorem d_M_edit_9 : decode prog_14_method_12_code 9 = .ok (.iload_n 2, 1) := by decide +kernel
theorem d_M_edit_10 : decode prog_14_method_12_code 10 = .ok (.ifCond .lt 14, 3) := by decide +kernel
theorem d_M_edit_13 : decode prog_14_method_12_code 13 = .ok (.aload_n 0, 1) := by decide +kernel
theorem d_M_edit_14 : decode prog_14_method_12_code 14 = .ok (.iload_n 2, 1) := by decide +kernel
theorem d_M_edit_15 : decode prog_14_method_12_code 15 = .ok (.iload_n 1, 1) := by decide +kernel
theorem d_M_edit_16 : decode prog_14_method_12_code 16 = .ok (.invokevirtual 195, 3) := by decide +kernel
theorem d_M_edit_19 : decode prog_14_method_12_code 19 = .ok (.aload_n 0, 1) := by decide +kernel
theorem d_M_edit_20 : decode prog_14_method_12_code 20 = .ok (.iconst 0, 1) := by decide +kernel
theorem d_M_edit_21 : decode prog_14_method_12_code 21 = .ok (.putfield 159, 3) := by decide +kernel
theorem d_M_edit_24 : decode prog_14_method_12_code 24 = .ok (.iload_n 2, 1) := by decide +kernel
theorem d_M_edit_25 : decode prog_14_method_12_code 25 = .ok (.ireturn, 1) := by decide +kernel
noncomputable def f_M_edit (r0 : Option Nat) (x1 : Int32) (σ : rb_St) : Option rb_Rs :=
  (rb_fc σ r0 13).bind fun _ => rb_cL (f_M_drafts (r0)  σ) fun y_1 σ_2 => (rb_fc σ_2 r0 13).bind fun _ => rb_cI (f_M_meet (r0) (y_1) σ_2) fun x_3 σ_4 => if x_3 < 0 then (some (some (.int x_3), σ_4)) else ((rb_fc σ_4 r0 13).bind fun _ => rb_cV (f_M_write (r0) (x_3) (x1) σ_4) fun σ_5 => (rb_pI σ_5 r0 13 1 (0 : Int32)).bind fun σ_6 => some (some (.int x_3), σ_6))
theorem s_M_edit {E : rb_EV} {d : Nat} (hdd : 3 ≤ d) (r0 : Option Nat) (x1 : Int32) (σ : rb_St) : rb_Does E k_M_edit d [va_rf r0, .int x1] σ (f_M_edit r0 x1 σ) := by
  refine rb_start (lv := [some (va_rf r0), some (.int x1), none]) (by decide) (by simp [lg_sl, rb_as, lv_args, rb_cat_r, rb_cat_i, rb_cat_l, rb_nL, k_M_edit]) (fun res => ?_)
  unfold f_M_edit
  refine rb_TC.mono (rk_aload_n 0 d_M_edit_0 rfl rfl) ?_
  refine rb_TC.mono (rk_aload_n 0 d_M_edit_1 rfl rfl) ?_
  refine rt_vL (As := []) (st := [va_rf r0]) (r0) vw_M_188 (s_M_drafts (Nat.le_refl _) (r0)  σ) (Nat.le_trans (by decide) hdd) rfl (by simp [rb_cat_r, rb_cat_i, rb_cat_l]) d_M_edit_2 (fun y_1 σ_2 => ?_)
  refine rt_vI (As := [.long y_1]) (st := []) (r0) vw_M_192 (s_M_meet (Nat.le_refl _) (r0) (y_1) σ_2) (Nat.le_trans (by decide) hdd) rfl (by simp [rb_cat_r, rb_cat_i, rb_cat_l]) d_M_edit_5 (fun x_3 σ_4 => ?_)
  refine rb_TC.mono (rk_istore_n (lv2 := [some (va_rf r0), some (.int x1), some (.int x_3)]) 2 d_M_edit_8 rfl (by decide) (fun _ => rb_one_i) rfl) ?_
  refine rb_TC.mono (rk_iload_n 2 d_M_edit_9 rfl rfl) ?_
  refine rt_if_lt 24 d_M_edit_10 (by decide) (fun _ => ?_) (fun _ => ?_)
  · refine rb_TC.mono (rk_iload_n 2 d_M_edit_24 rfl rfl) ?_
    exact rt_iret (ty := .int) rfl rfl (fun h => h) d_M_edit_25
  · refine rb_TC.mono (rk_aload_n 0 d_M_edit_13 rfl rfl) ?_
    refine rb_TC.mono (rk_iload_n 2 d_M_edit_14 rfl rfl) ?_
    refine rb_TC.mono (rk_iload_n 1 d_M_edit_15 rfl rfl) ?_
    refine rt_vV (As := [.int x_3, .int x1]) (st := []) (r0) vw_M_195 (s_M_write (Nat.le_refl _) (r0) (x_3) (x1) σ_4) (Nat.le_trans (by decide) hdd) rfl (by simp [rb_cat_r, rb_cat_i, rb_cat_l]) d_M_edit_16 (fun σ_5 => ?_)
    refine rb_TC.mono (rk_aload_n 0 d_M_edit_19 rfl rfl) ?_
    refine rb_TC.mono (rk_iconst (0 : Int32) d_M_edit_20 (by decide)) ?_
    refine rt_pI r0 fp_M_edit_159 d_M_edit_21 (fun σ_6 => ?_)
    refine rb_TC.mono (rk_iload_n 2 d_M_edit_24 rfl rfl) ?_
    exact rt_iret (ty := .int) rfl rfl (fun h => h) d_M_edit_25
-- ===== RuleBuilderModel.remove(I)V
def k_M_remove : rb_MK := (⟨"RuleBuilderModel", "remove", "(I)V"⟩, prog_14_method_14_code, 2, none)
theorem mw_M_remove : rb_Mw k_M_remove 1 := ⟨rb_inG 1492 (by decide +kernel) rfl, rb_inG 94 (by decide +kernel) rfl, ⟨by decide, by decide, by decide +kernel⟩, by decide⟩
theorem d_M_remove_0 : decode prog_14_method_14_code 0 = .ok (.aload_n 0, 1) := by decide +kernel
theorem d_M_remove_1 : decode prog_14_method_14_code 1 = .ok (.getfield 17, 3) := by decide +kernel
theorem d_M_remove_4 : decode prog_14_method_14_code 4 = .ok (.iload_n 1, 1) := by decide +kernel
theorem d_M_remove_5 : decode prog_14_method_14_code 5 = .ok (.iconst 0, 1) := by decide +kernel
theorem d_M_remove_6 : decode prog_14_method_14_code 6 = .ok (.bastore, 1) := by decide +kernel
theorem d_M_remove_7 : decode prog_14_method_14_code 7 = .ok (.aload_n 0, 1) := by decide +kernel
theorem d_M_remove_8 : decode prog_14_method_14_code 8 = .ok (.getfield 21, 3) := by decide +kernel
theorem d_M_remove_11 : decode prog_14_method_14_code 11 = .ok (.iload_n 1, 1) := by decide +kernel
theorem d_M_remove_12 : decode prog_14_method_14_code 12 = .ok (.iconst 0, 1) := by decide +kernel
theorem d_M_remove_13 : decode prog_14_method_14_code 13 = .ok (.iastore, 1) := by decide +kernel
theorem d_M_remove_14 : decode prog_14_method_14_code 14 = .ok (.aload_n 0, 1) := by decide +kernel
theorem d_M_remove_15 : decode prog_14_method_14_code 15 = .ok (.getfield 24, 3) := by decide +kernel
theorem d_M_remove_18 : decode prog_14_method_14_code 18 = .ok (.iload_n 1, 1) := by decide +kernel
theorem d_M_remove_19 : decode prog_14_method_14_code 19 = .ok (.iconst 0, 1) := by decide +kernel
theorem d_M_remove_20 : decode prog_14_method_14_code 20 = .ok (.iastore, 1) := by decide +kernel
theorem d_M_remove_21 : decode prog_14_method_14_code 21 = .ok (.return_, 1) := by decide +kernel
noncomputable def f_M_remove (r0 : Option Nat) (x1 : Int32) (σ : rb_St) : Option rb_Rs :=
  (rb_gR σ r0 13 4).bind fun r_1 => (rb_sI σ r_1 104 x1 (0 : Int32)).bind fun σ_2 => (rb_gR σ_2 r0 13 5).bind fun r_3 => (rb_sI σ_2 r_3 102 x1 (0 : Int32)).bind fun σ_4 => (rb_gR σ_4 r0 13 6).bind fun r_5 => (rb_sI σ_4 r_5 102 x1 (0 : Int32)).bind fun σ_6 => some (none, σ_6)
theorem s_M_remove {E : rb_EV} {d : Nat} (hdd : 0 ≤ d) (r0 : Option Nat) (x1 : Int32) (σ : rb_St) : rb_Does E k_M_remove d [va_rf r0, .int x1] σ (f_M_remove r0 x1 σ) := by
  refine rb_start (lv := [some (va_rf r0), some (.int x1)]) (by decide) (by simp [lg_sl, rb_as, lv_args, rb_cat_r, rb_cat_i, rb_cat_l, rb_nL, k_M_remove]) (fun res => ?_)
  unfold f_M_remove
  refine rb_TC.mono (rk_aload_n 0 d_M_remove_0 rfl rfl) ?_
  refine rt_gR r0 fw_M_17 d_M_remove_1 (fun r_1 => ?_)
  refine rb_TC.mono (rk_iload_n 1 d_M_remove_4 rfl rfl) ?_
  refine rb_TC.mono (rk_iconst (0 : Int32) d_M_remove_5 (by decide)) ?_
  refine rt_zast r_1 d_M_remove_6 (fun σ_2 => ?_)
  refine rb_TC.mono (rk_aload_n 0 d_M_remove_7 rfl rfl) ?_
  refine rt_gR r0 fw_M_21 d_M_remove_8 (fun r_3 => ?_)
  refine rb_TC.mono (rk_iload_n 1 d_M_remove_11 rfl rfl) ?_
  refine rb_TC.mono (rk_iconst (0 : Int32) d_M_remove_12 (by decide)) ?_
  refine rt_iast r_3 d_M_remove_13 (fun σ_4 => ?_)
  refine rb_TC.mono (rk_aload_n 0 d_M_remove_14 rfl rfl) ?_
  refine rt_gR r0 fw_M_24 d_M_remove_15 (fun r_5 => ?_)
  refine rb_TC.mono (rk_iload_n 1 d_M_remove_18 rfl rfl) ?_
  refine rb_TC.mono (rk_iconst (0 : Int32) d_M_remove_19 (by decide)) ?_
  refine rt_iast r_5 d_M_remove_20 (fun σ_6 => ?_)
  exact rt_vret rfl (fun h => h) d_M_remove_21
-- ===== RuleBuilderModel.erase()Z
def k_M_erase : rb_MK := (⟨"RuleBuilderModel", "erase", "()Z"⟩, prog_14_method_13_code, 2, some (.boolean))
theorem mw_M_erase : rb_Mw k_M_erase 0 := ⟨rb_inG 1488 (by decide +kernel) rfl, rb_inG 94 (by decide +kernel) rfl, ⟨by decide, by decide, by decide +kernel⟩, by decide⟩
theorem fp_M_erase_159 : rb_Fp k_M_erase 159 13 1 .int := ⟨fw_M_159, rfl, fun q h => by cases h; exact Or.inl rfl⟩
theorem vw_M_199 : rb_Vw "RuleBuilderModel" 199 k_M_remove 13 1 := ⟨mw_M_remove, rb_inG 1489 (by decide +kernel) rfl, rb_inG 1491 (by decide +kernel) rfl, rb_inG 39 (by decide +kernel) rfl, by decide, by decide, _, rfl, rfl⟩
theorem d_M_erase_0 : decode prog_14_method_13_code 0 = .ok (.aload_n 0, 1) := by decide +kernel
theorem d_M_erase_1 : decode prog_14_method_13_code 1 = .ok (.aload_n 0, 1) := by decide +kernel
theorem d_M_erase_2 : decode prog_14_method_13_code 2 = .ok (.invokevirtual 188, 3) := by decide +kernel
theorem d_M_erase_5 : decode prog_14_method_13_code 5 = .ok (.invokevirtual 180, 3) := by decide +kernel
theorem d_M_erase_8 : decode prog_14_method_13_code 8 = .ok (.istore_n 1, 1) := by decide +kernel
theorem d_M_erase_9 : decode prog_14_method_13_code 9 = .ok (.iload_n 1, 1) := by decide +kernel
theorem d_M_erase_10 : decode prog_14_method_13_code 10 = .ok (.ifCond .lt 12, 3) := by decide +kernel
theorem d_M_erase_13 : decode prog_14_method_13_code 13 = .ok (.aload_n 0, 1) := by decide +kernel
theorem d_M_erase_14 : decode prog_14_method_13_code 14 = .ok (.getfield 17, 3) := by decide +kernel
theorem d_M_erase_17 : decode prog_14_method_13_code 17 = .ok (.iload_n 1, 1) := by decide +kernel
theorem d_M_erase_18 : decode prog_14_method_13_code 18 = .ok (.baload, 1) := by decide +kernel
theorem d_M_erase_19 : decode prog_14_method_13_code 19 = .ok (.ifCond .ne 5, 3) := by decide +kernel
theorem d_M_erase_22 : decode prog_14_method_13_code 22 = .ok (.iconst 0, 1) := by decide +kernel
theorem d_M_erase_23 : decode prog_14_method_13_code 23 = .ok (.ireturn, 1) := by decide +kernel
theorem d_M_erase_24 : decode prog_14_method_13_code 24 = .ok (.aload_n 0, 1) := by decide +kernel
theorem d_M_erase_25 : decode prog_14_method_13_code 25 = .ok (.iload_n 1, 1) := by decide +kernel
theorem d_M_erase_26 : decode prog_14_method_13_code 26 = .ok (.invokevirtual 199, 3) := by decide +kernel
theorem d_M_erase_29 : decode prog_14_method_13_code 29 = .ok (.aload_n 0, 1) := by decide +kernel
theorem d_M_erase_30 : decode prog_14_method_13_code 30 = .ok (.iconst 0, 1) := by decide +kernel
theorem d_M_erase_31 : decode prog_14_method_13_code 31 = .ok (.putfield 159, 3) := by decide +kernel
theorem d_M_erase_34 : decode prog_14_method_13_code 34 = .ok (.iconst 1, 1) := by decide +kernel
theorem d_M_erase_35 : decode prog_14_method_13_code 35 = .ok (.ireturn, 1) := by decide +kernel
noncomputable def f_M_erase (r0 : Option Nat) (σ : rb_St) : Option rb_Rs :=
  (rb_fc σ r0 13).bind fun _ => rb_cL (f_M_drafts (r0)  σ) fun y_1 σ_2 => (rb_fc σ_2 r0 13).bind fun _ => rb_cI (f_M_find (r0) (y_1) σ_2) fun x_3 σ_4 => if x_3 < 0 then (some (some (.int (0 : Int32)), σ_4)) else ((rb_gR σ_4 r0 13 4).bind fun r_5 => (rb_aI σ_4 r_5 104 x_3).bind fun x_6 => if x_6 = 0 then (some (some (.int (0 : Int32)), σ_4)) else ((rb_fc σ_4 r0 13).bind fun _ => rb_cV (f_M_remove (r0) (x_3) σ_4) fun σ_7 => (rb_pI σ_7 r0 13 1 (0 : Int32)).bind fun σ_8 => some (some (.int (1 : Int32)), σ_8)))
theorem s_M_erase {E : rb_EV} {d : Nat} (hdd : 1 ≤ d) (r0 : Option Nat) (σ : rb_St) : rb_Does E k_M_erase d [va_rf r0] σ (f_M_erase r0 σ) := by
  refine rb_start (lv := [some (va_rf r0), none]) (by decide) (by simp [lg_sl, rb_as, lv_args, rb_cat_r, rb_cat_i, rb_cat_l, rb_nL, k_M_erase]) (fun res => ?_)
  unfold f_M_erase
  refine rb_TC.mono (rk_aload_n 0 d_M_erase_0 rfl rfl) ?_
  refine rb_TC.mono (rk_aload_n 0 d_M_erase_1 rfl rfl) ?_
  refine rt_vL (As := []) (st := [va_rf r0]) (r0) vw_M_188 (s_M_drafts (Nat.le_refl _) (r0)  σ) (Nat.le_trans (by decide) hdd) rfl (by simp [rb_cat_r, rb_cat_i, rb_cat_l]) d_M_erase_2 (fun y_1 σ_2 => ?_)
  refine rt_vI (As := [.long y_1]) (st := []) (r0) vw_M_180 (s_M_find (Nat.le_refl _) (r0) (y_1) σ_2) (Nat.le_trans (by decide) hdd) rfl (by simp [rb_cat_r, rb_cat_i, rb_cat_l]) d_M_erase_5 (fun x_3 σ_4 => ?_)
  refine rb_TC.mono (rk_istore_n (lv2 := [some (va_rf r0), some (.int x_3)]) 1 d_M_erase_8 rfl (by decide) (fun _ => rb_one_r) rfl) ?_
  refine rb_TC.mono (rk_iload_n 1 d_M_erase_9 rfl rfl) ?_
  refine rt_if_lt 22 d_M_erase_10 (by decide) (fun _ => ?_) (fun _ => ?_)
  · refine rb_TC.mono (rk_iconst (0 : Int32) d_M_erase_22 (by decide)) ?_
    exact rt_iret (ty := .boolean) rfl (by decide) (fun h => h) d_M_erase_23
  · refine rb_TC.mono (rk_aload_n 0 d_M_erase_13 rfl rfl) ?_
    refine rt_gR r0 fw_M_17 d_M_erase_14 (fun r_5 => ?_)
    refine rb_TC.mono (rk_iload_n 1 d_M_erase_17 rfl rfl) ?_
    refine rt_zald r_5 d_M_erase_18 (fun x_6 => ?_)
    refine rt_if_ne 24 d_M_erase_19 (by decide) (fun _ => ?_) (fun _ => ?_)
    · refine rb_TC.mono (rk_iconst (0 : Int32) d_M_erase_22 (by decide)) ?_
      exact rt_iret (ty := .boolean) rfl (by decide) (fun h => h) d_M_erase_23
    · refine rb_TC.mono (rk_aload_n 0 d_M_erase_24 rfl rfl) ?_
      refine rb_TC.mono (rk_iload_n 1 d_M_erase_25 rfl rfl) ?_
      refine rt_vV (As := [.int x_3]) (st := []) (r0) vw_M_199 (s_M_remove (Nat.le_refl _) (r0) (x_3) σ_4) (Nat.le_trans (by decide) hdd) rfl (by simp [rb_cat_r, rb_cat_i, rb_cat_l]) d_M_erase_26 (fun σ_7 => ?_)
      refine rb_TC.mono (rk_aload_n 0 d_M_erase_29 rfl rfl) ?_
      refine rb_TC.mono (rk_iconst (0 : Int32) d_M_erase_30 (by decide)) ?_
      refine rt_pI r0 fp_M_erase_159 d_M_erase_31 (fun σ_8 => ?_)
      refine rb_TC.mono (rk_iconst (1 : Int32) d_M_erase_34 (by decide)) ?_
      exact rt_iret (ty := .boolean) rfl (by decide) (fun h => h) d_M_erase_35
-- ===== RuleBuilderModel.charAt(II)I
def k_M_charAt : rb_MK := (⟨"RuleBuilderModel", "charAt", "(II)I"⟩, prog_14_method_15_code, 3, some (.int))
theorem mw_M_charAt : rb_Mw k_M_charAt 2 := ⟨rb_inG 1528 (by decide +kernel) rfl, rb_inG 94 (by decide +kernel) rfl, ⟨by decide, by decide, by decide +kernel⟩, by decide⟩
theorem d_M_charAt_0 : decode prog_14_method_15_code 0 = .ok (.aload_n 0, 1) := by decide +kernel
theorem d_M_charAt_1 : decode prog_14_method_15_code 1 = .ok (.getfield 102, 3) := by decide +kernel
theorem d_M_charAt_4 : decode prog_14_method_15_code 4 = .ok (.iload_n 1, 1) := by decide +kernel
theorem d_M_charAt_5 : decode prog_14_method_15_code 5 = .ok (.iaload, 1) := by decide +kernel
theorem d_M_charAt_6 : decode prog_14_method_15_code 6 = .ok (.ifCond .ge 12, 3) := by decide +kernel
theorem d_M_charAt_9 : decode prog_14_method_15_code 9 = .ok (.aload_n 0, 1) := by decide +kernel
theorem d_M_charAt_10 : decode prog_14_method_15_code 10 = .ok (.getfield 45, 3) := by decide +kernel
theorem d_M_charAt_13 : decode prog_14_method_15_code 13 = .ok (.iload_n 2, 1) := by decide +kernel
theorem d_M_charAt_14 : decode prog_14_method_15_code 14 = .ok (.iaload, 1) := by decide +kernel
theorem d_M_charAt_15 : decode prog_14_method_15_code 15 = .ok (.goto 19, 3) := by decide +kernel
theorem d_M_charAt_18 : decode prog_14_method_15_code 18 = .ok (.aload_n 0, 1) := by decide +kernel
theorem d_M_charAt_19 : decode prog_14_method_15_code 19 = .ok (.getfield 30, 3) := by decide +kernel
theorem d_M_charAt_22 : decode prog_14_method_15_code 22 = .ok (.bipush 16, 2) := by decide +kernel
theorem d_M_charAt_24 : decode prog_14_method_15_code 24 = .ok (.aload_n 0, 1) := by decide +kernel
theorem d_M_charAt_25 : decode prog_14_method_15_code 25 = .ok (.getfield 102, 3) := by decide +kernel
theorem d_M_charAt_28 : decode prog_14_method_15_code 28 = .ok (.iload_n 1, 1) := by decide +kernel
theorem d_M_charAt_29 : decode prog_14_method_15_code 29 = .ok (.iaload, 1) := by decide +kernel
theorem d_M_charAt_30 : decode prog_14_method_15_code 30 = .ok (.imul, 1) := by decide +kernel
theorem d_M_charAt_31 : decode prog_14_method_15_code 31 = .ok (.iload_n 2, 1) := by decide +kernel
theorem d_M_charAt_32 : decode prog_14_method_15_code 32 = .ok (.iadd, 1) := by decide +kernel
theorem d_M_charAt_33 : decode prog_14_method_15_code 33 = .ok (.iaload, 1) := by decide +kernel
theorem d_M_charAt_34 : decode prog_14_method_15_code 34 = .ok (.ireturn, 1) := by decide +kernel
noncomputable def f_M_charAt (r0 : Option Nat) (x1 : Int32) (x2 : Int32) (σ : rb_St) : Option rb_Rs :=
  (rb_gR σ r0 13 49).bind fun r_1 => (rb_aI σ r_1 102 x1).bind fun x_2 => if 0 ≤ x_2 then ((rb_gR σ r0 13 9).bind fun r_3 => (rb_gR σ r0 13 49).bind fun r_4 => (rb_aI σ r_4 102 x1).bind fun x_5 => (rb_aI σ r_3 102 (((16 : Int32) * x_5) + x2)).bind fun x_6 => some (some (.int x_6), σ)) else ((rb_gR σ r0 13 14).bind fun r_7 => (rb_aI σ r_7 102 x2).bind fun x_8 => some (some (.int x_8), σ))
theorem s_M_charAt {E : rb_EV} {d : Nat} (hdd : 0 ≤ d) (r0 : Option Nat) (x1 : Int32) (x2 : Int32) (σ : rb_St) : rb_Does E k_M_charAt d [va_rf r0, .int x1, .int x2] σ (f_M_charAt r0 x1 x2 σ) := by
  refine rb_start (lv := [some (va_rf r0), some (.int x1), some (.int x2)]) (by decide) (by simp [lg_sl, rb_as, lv_args, rb_cat_r, rb_cat_i, rb_cat_l, rb_nL, k_M_charAt]) (fun res => ?_)
  unfold f_M_charAt
  refine rb_TC.mono (rk_aload_n 0 d_M_charAt_0 rfl rfl) ?_
  refine rt_gR r0 fw_M_102 d_M_charAt_1 (fun r_1 => ?_)
  refine rb_TC.mono (rk_iload_n 1 d_M_charAt_4 rfl rfl) ?_
  refine rt_iald r_1 d_M_charAt_5 (fun x_2 => ?_)
  refine rt_if_ge 18 d_M_charAt_6 (by decide) (fun _ => ?_) (fun _ => ?_)
  · refine rb_TC.mono (rk_aload_n 0 d_M_charAt_18 rfl rfl) ?_
    refine rt_gR r0 fw_M_30 d_M_charAt_19 (fun r_3 => ?_)
    refine rb_TC.mono (rk_bipush (16 : Int32) d_M_charAt_22 (by decide)) ?_
    refine rb_TC.mono (rk_aload_n 0 d_M_charAt_24 rfl rfl) ?_
    refine rt_gR r0 fw_M_102 d_M_charAt_25 (fun r_4 => ?_)
    refine rb_TC.mono (rk_iload_n 1 d_M_charAt_28 rfl rfl) ?_
    refine rt_iald r_4 d_M_charAt_29 (fun x_5 => ?_)
    refine rb_TC.mono (rk_imul d_M_charAt_30) ?_
    refine rb_TC.mono (rk_iload_n 2 d_M_charAt_31 rfl rfl) ?_
    refine rb_TC.mono (rk_iadd d_M_charAt_32) ?_
    refine rt_iald r_3 d_M_charAt_33 (fun x_6 => ?_)
    exact rt_iret (ty := .int) rfl rfl (fun h => h) d_M_charAt_34
  · refine rb_TC.mono (rk_aload_n 0 d_M_charAt_9 rfl rfl) ?_
    refine rt_gR r0 fw_M_45 d_M_charAt_10 (fun r_7 => ?_)
    refine rb_TC.mono (rk_iload_n 2 d_M_charAt_13 rfl rfl) ?_
    refine rt_iald r_7 d_M_charAt_14 (fun x_8 => ?_)
    refine rb_TC.mono (rk_goto 34 d_M_charAt_15 (by decide)) ?_
    exact rt_iret (ty := .int) rfl rfl (fun h => h) d_M_charAt_34
-- ===== RuleBuilderModel.append(I)Z
def k_M_append : rb_MK := (⟨"RuleBuilderModel", "append", "(I)Z"⟩, prog_14_method_16_code, 2, some (.boolean))
theorem mw_M_append : rb_Mw k_M_append 1 := ⟨rb_inG 1540 (by decide +kernel) rfl, rb_inG 94 (by decide +kernel) rfl, ⟨by decide, by decide, by decide +kernel⟩, by decide⟩
theorem fw_M_203 : rb_Fw "RuleBuilderModel" 203 13 44 := ⟨_, rfl, by decide, by decide, by decide, rfl, rb_inG 1264 (by decide +kernel) rfl⟩
theorem fp_M_append_203 : rb_Fp k_M_append 203 13 44 .int := ⟨fw_M_203, rfl, fun q h => by cases h; exact Or.inl rfl⟩
theorem d_M_append_0 : decode prog_14_method_16_code 0 = .ok (.aload_n 0, 1) := by decide +kernel
theorem d_M_append_1 : decode prog_14_method_16_code 1 = .ok (.getfield 203, 3) := by decide +kernel
theorem d_M_append_4 : decode prog_14_method_16_code 4 = .ok (.bipush 120, 2) := by decide +kernel
theorem d_M_append_6 : decode prog_14_method_16_code 6 = .ok (.if_icmp .ne 5, 3) := by decide +kernel
theorem d_M_append_9 : decode prog_14_method_16_code 9 = .ok (.iconst 0, 1) := by decide +kernel
theorem d_M_append_10 : decode prog_14_method_16_code 10 = .ok (.ireturn, 1) := by decide +kernel
theorem d_M_append_11 : decode prog_14_method_16_code 11 = .ok (.aload_n 0, 1) := by decide +kernel
theorem d_M_append_12 : decode prog_14_method_16_code 12 = .ok (.getfield 93, 3) := by decide +kernel
theorem d_M_append_15 : decode prog_14_method_16_code 15 = .ok (.aload_n 0, 1) := by decide +kernel
theorem d_M_append_16 : decode prog_14_method_16_code 16 = .ok (.getfield 203, 3) := by decide +kernel
theorem d_M_append_19 : decode prog_14_method_16_code 19 = .ok (.iload_n 1, 1) := by decide +kernel
theorem d_M_append_20 : decode prog_14_method_16_code 20 = .ok (.iastore, 1) := by decide +kernel
theorem d_M_append_21 : decode prog_14_method_16_code 21 = .ok (.aload_n 0, 1) := by decide +kernel
theorem d_M_append_22 : decode prog_14_method_16_code 22 = .ok (.dup, 1) := by decide +kernel
theorem d_M_append_23 : decode prog_14_method_16_code 23 = .ok (.getfield 203, 3) := by decide +kernel
theorem d_M_append_26 : decode prog_14_method_16_code 26 = .ok (.iconst 1, 1) := by decide +kernel
theorem d_M_append_27 : decode prog_14_method_16_code 27 = .ok (.iadd, 1) := by decide +kernel
theorem d_M_append_28 : decode prog_14_method_16_code 28 = .ok (.putfield 203, 3) := by decide +kernel
theorem d_M_append_31 : decode prog_14_method_16_code 31 = .ok (.iconst 1, 1) := by decide +kernel
theorem d_M_append_32 : decode prog_14_method_16_code 32 = .ok (.ireturn, 1) := by decide +kernel
noncomputable def f_M_append (r0 : Option Nat) (x1 : Int32) (σ : rb_St) : Option rb_Rs :=
  (rb_gI σ r0 13 44).bind fun x_1 => if x_1 = (120 : Int32) then (some (some (.int (0 : Int32)), σ)) else ((rb_gR σ r0 13 43).bind fun r_2 => (rb_gI σ r0 13 44).bind fun x_3 => (rb_sI σ r_2 102 x_3 x1).bind fun σ_4 => (rb_gI σ_4 r0 13 44).bind fun x_5 => (rb_pI σ_4 r0 13 44 (x_5 + (1 : Int32))).bind fun σ_6 => some (some (.int (1 : Int32)), σ_6))
theorem s_M_append {E : rb_EV} {d : Nat} (hdd : 0 ≤ d) (r0 : Option Nat) (x1 : Int32) (σ : rb_St) : rb_Does E k_M_append d [va_rf r0, .int x1] σ (f_M_append r0 x1 σ) := by
  refine rb_start (lv := [some (va_rf r0), some (.int x1)]) (by decide) (by simp [lg_sl, rb_as, lv_args, rb_cat_r, rb_cat_i, rb_cat_l, rb_nL, k_M_append]) (fun res => ?_)
  unfold f_M_append
  refine rb_TC.mono (rk_aload_n 0 d_M_append_0 rfl rfl) ?_
  refine rt_gI r0 fw_M_203 d_M_append_1 (fun x_1 => ?_)
  refine rb_TC.mono (rk_bipush (120 : Int32) d_M_append_4 (by decide)) ?_
  refine rt_icmp_ne 11 d_M_append_6 (by decide) (fun _ => ?_) (fun _ => ?_)
  · refine rb_TC.mono (rk_iconst (0 : Int32) d_M_append_9 (by decide)) ?_
    exact rt_iret (ty := .boolean) rfl (by decide) (fun h => h) d_M_append_10
  · refine rb_TC.mono (rk_aload_n 0 d_M_append_11 rfl rfl) ?_
    refine rt_gR r0 fw_M_93 d_M_append_12 (fun r_2 => ?_)
    refine rb_TC.mono (rk_aload_n 0 d_M_append_15 rfl rfl) ?_
    refine rt_gI r0 fw_M_203 d_M_append_16 (fun x_3 => ?_)
    refine rb_TC.mono (rk_iload_n 1 d_M_append_19 rfl rfl) ?_
    refine rt_iast r_2 d_M_append_20 (fun σ_4 => ?_)
    refine rb_TC.mono (rk_aload_n 0 d_M_append_21 rfl rfl) ?_
    refine rb_TC.mono (rk_dupr d_M_append_22) ?_
    refine rt_gI r0 fw_M_203 d_M_append_23 (fun x_5 => ?_)
    refine rb_TC.mono (rk_iconst (1 : Int32) d_M_append_26 (by decide)) ?_
    refine rb_TC.mono (rk_iadd d_M_append_27) ?_
    refine rt_pI r0 fp_M_append_203 d_M_append_28 (fun σ_6 => ?_)
    refine rb_TC.mono (rk_iconst (1 : Int32) d_M_append_31 (by decide)) ?_
    exact rt_iret (ty := .boolean) rfl (by decide) (fun h => h) d_M_append_32
-- ===== RuleBuilderModel.appendName(J)Z
def k_M_appendName : rb_MK := (⟨"RuleBuilderModel", "appendName", "(J)Z"⟩, prog_14_method_17_code, 5, some (.boolean))
theorem mw_M_appendName : rb_Mw k_M_appendName 1 := ⟨rb_inG 1556 (by decide +kernel) rfl, rb_inG 94 (by decide +kernel) rfl, ⟨by decide, by decide, by decide +kernel⟩, by decide⟩
theorem vw_M_206 : rb_Vw "RuleBuilderModel" 206 k_M_append 13 1 := ⟨mw_M_append, rb_inG 1537 (by decide +kernel) rfl, rb_inG 1539 (by decide +kernel) rfl, rb_inG 50 (by decide +kernel) rfl, by decide, by decide, _, rfl, rfl⟩
theorem d_M_appendName_0 : decode prog_14_method_17_code 0 = .ok (.iconst 1, 1) := by decide +kernel
theorem d_M_appendName_1 : decode prog_14_method_17_code 1 = .ok (.istore_n 3, 1) := by decide +kernel
theorem d_M_appendName_2 : decode prog_14_method_17_code 2 = .ok (.lload_n 1, 1) := by decide +kernel
theorem d_M_appendName_3 : decode prog_14_method_17_code 3 = .ok (.invokestatic 167, 3) := by decide +kernel
theorem d_M_appendName_6 : decode prog_14_method_17_code 6 = .ok (.iconst 1, 1) := by decide +kernel
theorem d_M_appendName_7 : decode prog_14_method_17_code 7 = .ok (.isub, 1) := by decide +kernel
theorem d_M_appendName_8 : decode prog_14_method_17_code 8 = .ok (.istore 4, 2) := by decide +kernel
theorem d_M_appendName_10 : decode prog_14_method_17_code 10 = .ok (.iload 4, 2) := by decide +kernel
theorem d_M_appendName_12 : decode prog_14_method_17_code 12 = .ok (.ifCond .lt 38, 3) := by decide +kernel
theorem d_M_appendName_15 : decode prog_14_method_17_code 15 = .ok (.iload_n 3, 1) := by decide +kernel
theorem d_M_appendName_16 : decode prog_14_method_17_code 16 = .ok (.ifCond .eq 26, 3) := by decide +kernel
theorem d_M_appendName_19 : decode prog_14_method_17_code 19 = .ok (.aload_n 0, 1) := by decide +kernel
theorem d_M_appendName_20 : decode prog_14_method_17_code 20 = .ok (.lload_n 1, 1) := by decide +kernel
theorem d_M_appendName_21 : decode prog_14_method_17_code 21 = .ok (.bipush 7, 2) := by decide +kernel
theorem d_M_appendName_23 : decode prog_14_method_17_code 23 = .ok (.iload 4, 2) := by decide +kernel
theorem d_M_appendName_25 : decode prog_14_method_17_code 25 = .ok (.imul, 1) := by decide +kernel
theorem d_M_appendName_26 : decode prog_14_method_17_code 26 = .ok (.lshr, 1) := by decide +kernel
theorem d_M_appendName_27 : decode prog_14_method_17_code 27 = .ok (.ldc2_w 171, 3) := by decide +kernel
theorem d_M_appendName_30 : decode prog_14_method_17_code 30 = .ok (.land, 1) := by decide +kernel
theorem d_M_appendName_31 : decode prog_14_method_17_code 31 = .ok (.l2i, 1) := by decide +kernel
theorem d_M_appendName_32 : decode prog_14_method_17_code 32 = .ok (.invokevirtual 206, 3) := by decide +kernel
theorem d_M_appendName_35 : decode prog_14_method_17_code 35 = .ok (.ifCond .eq 7, 3) := by decide +kernel
theorem d_M_appendName_38 : decode prog_14_method_17_code 38 = .ok (.iconst 1, 1) := by decide +kernel
theorem d_M_appendName_39 : decode prog_14_method_17_code 39 = .ok (.goto 4, 3) := by decide +kernel
theorem d_M_appendName_42 : decode prog_14_method_17_code 42 = .ok (.iconst 0, 1) := by decide +kernel
theorem d_M_appendName_43 : decode prog_14_method_17_code 43 = .ok (.istore_n 3, 1) := by decide +kernel
theorem d_M_appendName_44 : decode prog_14_method_17_code 44 = .ok (.iinc 4 (-1), 3) := by decide +kernel
theorem d_M_appendName_47 : decode prog_14_method_17_code 47 = .ok (.goto (-37), 3) := by decide +kernel
theorem d_M_appendName_50 : decode prog_14_method_17_code 50 = .ok (.iload_n 3, 1) := by decide +kernel
theorem d_M_appendName_51 : decode prog_14_method_17_code 51 = .ok (.ireturn, 1) := by decide +kernel
noncomputable def f_M_appendName_b10 (r0 : Option Nat) (y1 : Int64) (x3 : Int32) (x4 : Int32) (σ : rb_St) : Option ((Int32 × Int32 × rb_St) ⊕ rb_Rs) :=
  if x4 < 0 then ((if rb_isZ x3 then some (some (.int x3), σ) else none).map Sum.inr) else (if x3 = 0 then (some (.inl ((0 : Int32), (x4 + (-1)), σ))) else ((rb_fc σ r0 13).bind fun _ => rb_cI (f_M_append (r0) ((((y1 >>> (((7 : Int32) * x4).toInt64 &&& 63)) &&& (127 : Int64)).toInt32)) σ) fun x_3 σ_4 => if x_3 = 0 then (some (.inl ((0 : Int32), (x4 + (-1)), σ_4))) else (some (.inl ((1 : Int32), (x4 + (-1)), σ_4)))))
theorem t_M_appendName_b10 {E : rb_EV} {d : Nat} {σ0 : rb_St} {res : rb_Rs} (hdd : 1 ≤ d)  (r0 : Option Nat) (y1 : Int64) (x3 : Int32) (x4 : Int32) (σ : rb_St) : rb_TC (f_M_appendName_b10 r0 y1 x3 x4 σ) (Sum.elim (fun z : (Int32 × Int32 × rb_St) => rb_WK E k_M_appendName d σ0 res 10 [some (va_rf r0), some (.long y1), none, some (.int z.1), some (.int z.2.1)] [] z.2.2) (fun r => r = res)) (rb_WK E k_M_appendName d σ0 res 10 [some (va_rf r0), some (.long y1), none, some (.int x3), some (.int x4)] [] σ) := by
  unfold f_M_appendName_b10
  refine rb_TC.mono (rk_iload d_M_appendName_10 rfl) ?_
  refine rt_if_lt 50 d_M_appendName_12 (by decide) (fun _ => ?_) (fun _ => ?_)
  · refine rb_TC.out ?_
    refine rb_TC.mono (rk_iload_n 3 d_M_appendName_50 rfl rfl) ?_
    refine rb_TC.ite (fun hn => ?_) (fun _ => rb_TC.none)
    exact rt_iret (ty := .boolean) rfl (rb_nar_Z hn) (fun h => h) d_M_appendName_51
  · refine rb_TC.mono (rk_iload_n 3 d_M_appendName_15 rfl rfl) ?_
    refine rt_if_eq 42 d_M_appendName_16 (by decide) (fun _ => ?_) (fun _ => ?_)
    · refine rb_TC.mono (rk_iconst (0 : Int32) d_M_appendName_42 (by decide)) ?_
      refine rb_TC.mono (rk_istore_n (lv2 := [some (va_rf r0), some (.long y1), none, some (.int (0 : Int32)), some (.int x4)]) 3 d_M_appendName_43 rfl (by decide) (fun _ => rb_one_n) rfl) ?_
      refine rb_TC.mono (rk_iinc (lv2 := [some (va_rf r0), some (.long y1), none, some (.int (0 : Int32)), some (.int (x4 + (-1)))]) (x4 + (-1)) d_M_appendName_44 rfl rfl (by decide) (fun _ => rb_one_i) rfl) ?_
      refine rb_TC.mono (rk_goto 10 d_M_appendName_47 (by decide)) ?_
      exact rb_back
    · refine rb_TC.mono (rk_aload_n 0 d_M_appendName_19 rfl rfl) ?_
      refine rb_TC.mono (rk_lload_n 1 d_M_appendName_20 rfl rfl) ?_
      refine rb_TC.mono (rk_bipush (7 : Int32) d_M_appendName_21 (by decide)) ?_
      refine rb_TC.mono (rk_iload d_M_appendName_23 rfl) ?_
      refine rb_TC.mono (rk_imul d_M_appendName_25) ?_
      refine rb_TC.mono (rk_lshr d_M_appendName_26) ?_
      refine rb_TC.mono (rk_ldc2 d_M_appendName_27 w_long_M_171) ?_
      refine rb_TC.mono (rk_land d_M_appendName_30) ?_
      refine rb_TC.mono (rk_l2i d_M_appendName_31) ?_
      refine rt_vI (As := [.int (((y1 >>> (((7 : Int32) * x4).toInt64 &&& 63)) &&& (127 : Int64)).toInt32)]) (st := []) (r0) vw_M_206 (s_M_append (Nat.le_refl _) (r0) ((((y1 >>> (((7 : Int32) * x4).toInt64 &&& 63)) &&& (127 : Int64)).toInt32)) σ) (Nat.le_trans (by decide) hdd) rfl (by simp [rb_cat_r, rb_cat_i, rb_cat_l]) d_M_appendName_32 (fun x_3 σ_4 => ?_)
      refine rt_if_eq 42 d_M_appendName_35 (by decide) (fun _ => ?_) (fun _ => ?_)
      · refine rb_TC.mono (rk_iconst (0 : Int32) d_M_appendName_42 (by decide)) ?_
        refine rb_TC.mono (rk_istore_n (lv2 := [some (va_rf r0), some (.long y1), none, some (.int (0 : Int32)), some (.int x4)]) 3 d_M_appendName_43 rfl (by decide) (fun _ => rb_one_n) rfl) ?_
        refine rb_TC.mono (rk_iinc (lv2 := [some (va_rf r0), some (.long y1), none, some (.int (0 : Int32)), some (.int (x4 + (-1)))]) (x4 + (-1)) d_M_appendName_44 rfl rfl (by decide) (fun _ => rb_one_i) rfl) ?_
        refine rb_TC.mono (rk_goto 10 d_M_appendName_47 (by decide)) ?_
        exact rb_back
      · refine rb_TC.mono (rk_iconst (1 : Int32) d_M_appendName_38 (by decide)) ?_
        refine rb_TC.mono (rk_goto 43 d_M_appendName_39 (by decide)) ?_
        refine rb_TC.mono (rk_istore_n (lv2 := [some (va_rf r0), some (.long y1), none, some (.int (1 : Int32)), some (.int x4)]) 3 d_M_appendName_43 rfl (by decide) (fun _ => rb_one_n) rfl) ?_
        refine rb_TC.mono (rk_iinc (lv2 := [some (va_rf r0), some (.long y1), none, some (.int (1 : Int32)), some (.int (x4 + (-1)))]) (x4 + (-1)) d_M_appendName_44 rfl rfl (by decide) (fun _ => rb_one_i) rfl) ?_
        refine rb_TC.mono (rk_goto 10 d_M_appendName_47 (by decide)) ?_
        exact rb_back
noncomputable def f_M_appendName (r0 : Option Nat) (y1 : Int64) (σ : rb_St) : Option rb_Rs :=
  rb_cI (f_M_length (y1) σ) fun x_1 σ_2 => rb_it (fun z : (Int32 × Int32 × rb_St) => f_M_appendName_b10 (r0) (y1) (z.1) (z.2.1) z.2.2) ((1 : Int32), (x_1 - (1 : Int32)), σ_2)
theorem s_M_appendName {E : rb_EV} {d : Nat} (hdd : 1 ≤ d) (r0 : Option Nat) (y1 : Int64) (σ : rb_St) : rb_Does E k_M_appendName d [va_rf r0, .long y1] σ (f_M_appendName r0 y1 σ) := by
  refine rb_start (lv := [some (va_rf r0), some (.long y1), none, none, none]) (by decide) (by simp [lg_sl, rb_as, lv_args, rb_cat_r, rb_cat_i, rb_cat_l, rb_nL, k_M_appendName]) (fun res => ?_)
  unfold f_M_appendName
  refine rb_TC.mono (rk_iconst (1 : Int32) d_M_appendName_0 (by decide)) ?_
  refine rb_TC.mono (rk_istore_n (lv2 := [some (va_rf r0), some (.long y1), none, some (.int (1 : Int32)), none]) 3 d_M_appendName_1 rfl (by decide) (fun _ => rb_one_n) rfl) ?_
  refine rb_TC.mono (rk_lload_n 1 d_M_appendName_2 rfl rfl) ?_
  refine rt_sI (As := [.long y1]) (st := []) sw_M_167 (s_M_length (Nat.le_refl _) (y1) σ) (Nat.le_trans (by decide) hdd) rfl (by simp [rb_cat_r, rb_cat_i, rb_cat_l]) d_M_appendName_3 (fun x_1 σ_2 => ?_)
  refine rb_TC.mono (rk_iconst (1 : Int32) d_M_appendName_6 (by decide)) ?_
  refine rb_TC.mono (rk_isub d_M_appendName_7) ?_
  refine rb_TC.mono (rk_istore (lv2 := [some (va_rf r0), some (.long y1), none, some (.int (1 : Int32)), some (.int (x_1 - (1 : Int32)))]) d_M_appendName_8 (by decide) (fun _ => rb_one_i) rfl) ?_
  exact rb_TC.loop2 (A := (fun z : (Int32 × Int32 × rb_St) => rb_WK E k_M_appendName d σ res 10 [some (va_rf r0), some (.long y1), none, some (.int z.1), some (.int z.2.1)] [] z.2.2)) ((1 : Int32), (x_1 - (1 : Int32)), σ_2) (fun z => t_M_appendName_b10 hdd  (r0) (y1) (z.1) (z.2.1) z.2.2)
-- ===== RuleBuilderModel.names()I
def k_M_names : rb_MK := (⟨"RuleBuilderModel", "names", "()I"⟩, prog_14_method_62_code, 1, some (.int))
theorem mw_M_names : rb_Mw k_M_names 0 := ⟨rb_inG 1693 (by decide +kernel) rfl, rb_inG 94 (by decide +kernel) rfl, ⟨by decide, by decide, by decide +kernel⟩, by decide⟩
theorem d_M_names_0 : decode prog_14_method_62_code 0 = .ok (.aload_n 0, 1) := by decide +kernel
theorem d_M_names_1 : decode prog_14_method_62_code 1 = .ok (.getfield 173, 3) := by decide +kernel
theorem d_M_names_4 : decode prog_14_method_62_code 4 = .ok (.ireturn, 1) := by decide +kernel
noncomputable def f_M_names (r0 : Option Nat) (σ : rb_St) : Option rb_Rs :=
  (rb_gI σ r0 13 2).bind fun x_1 => some (some (.int x_1), σ)
theorem s_M_names {E : rb_EV} {d : Nat} (hdd : 0 ≤ d) (r0 : Option Nat) (σ : rb_St) : rb_Does E k_M_names d [va_rf r0] σ (f_M_names r0 σ) := by
  refine rb_start (lv := [some (va_rf r0)]) (by decide) (by simp [lg_sl, rb_as, lv_args, rb_cat_r, rb_cat_i, rb_cat_l, rb_nL, k_M_names]) (fun res => ?_)
  unfold f_M_names
  refine rb_TC.mono (rk_aload_n 0 d_M_names_0 rfl rfl) ?_
  refine rt_gI r0 fw_M_173 d_M_names_1 (fun x_1 => ?_)
  exact rt_iret (ty := .int) rfl rfl (fun h => h) d_M_names_4
-- ===== RuleBuilderModel.nameAt(II)I
def k_M_nameAt : rb_MK := (⟨"RuleBuilderModel", "nameAt", "(II)I"⟩, prog_14_method_63_code, 3, some (.int))
theorem mw_M_nameAt : rb_Mw k_M_nameAt 2 := ⟨rb_inG 1697 (by decide +kernel) rfl, rb_inG 94 (by decide +kernel) rfl, ⟨by decide, by decide, by decide +kernel⟩, by decide⟩
theorem d_M_nameAt_0 : decode prog_14_method_63_code 0 = .ok (.iload_n 1, 1) := by decide +kernel
theorem d_M_nameAt_1 : decode prog_14_method_63_code 1 = .ok (.ifCond .lt 28, 3) := by decide +kernel
theorem d_M_nameAt_4 : decode prog_14_method_63_code 4 = .ok (.iload_n 1, 1) := by decide +kernel
theorem d_M_nameAt_5 : decode prog_14_method_63_code 5 = .ok (.aload_n 0, 1) := by decide +kernel
theorem d_M_nameAt_6 : decode prog_14_method_63_code 6 = .ok (.getfield 173, 3) := by decide +kernel
theorem d_M_nameAt_9 : decode prog_14_method_63_code 9 = .ok (.if_icmp .ge 20, 3) := by decide +kernel
theorem d_M_nameAt_12 : decode prog_14_method_63_code 12 = .ok (.iload_n 2, 1) := by decide +kernel
theorem d_M_nameAt_13 : decode prog_14_method_63_code 13 = .ok (.ifCond .lt 16, 3) := by decide +kernel
theorem d_M_nameAt_16 : decode prog_14_method_63_code 16 = .ok (.iload_n 2, 1) := by decide +kernel
theorem d_M_nameAt_17 : decode prog_14_method_63_code 17 = .ok (.aload_n 0, 1) := by decide +kernel
theorem d_M_nameAt_18 : decode prog_14_method_63_code 18 = .ok (.getfield 13, 3) := by decide +kernel
theorem d_M_nameAt_21 : decode prog_14_method_63_code 21 = .ok (.iload_n 1, 1) := by decide +kernel
theorem d_M_nameAt_22 : decode prog_14_method_63_code 22 = .ok (.laload, 1) := by decide +kernel
theorem d_M_nameAt_23 : decode prog_14_method_63_code 23 = .ok (.invokestatic 167, 3) := by decide +kernel
theorem d_M_nameAt_26 : decode prog_14_method_63_code 26 = .ok (.if_icmp .lt 5, 3) := by decide +kernel
theorem d_M_nameAt_29 : decode prog_14_method_63_code 29 = .ok (.iconst (-1), 1) := by decide +kernel
theorem d_M_nameAt_30 : decode prog_14_method_63_code 30 = .ok (.ireturn, 1) := by decide +kernel
theorem d_M_nameAt_31 : decode prog_14_method_63_code 31 = .ok (.aload_n 0, 1) := by decide +kernel
theorem d_M_nameAt_32 : decode prog_14_method_63_code 32 = .ok (.getfield 13, 3) := by decide +kernel
theorem d_M_nameAt_35 : decode prog_14_method_63_code 35 = .ok (.iload_n 1, 1) := by decide +kernel
theorem d_M_nameAt_36 : decode prog_14_method_63_code 36 = .ok (.laload, 1) := by decide +kernel
theorem d_M_nameAt_37 : decode prog_14_method_63_code 37 = .ok (.bipush 7, 2) := by decide +kernel
theorem d_M_nameAt_39 : decode prog_14_method_63_code 39 = .ok (.aload_n 0, 1) := by decide +kernel
theorem d_M_nameAt_40 : decode prog_14_method_63_code 40 = .ok (.getfield 13, 3) := by decide +kernel
theorem d_M_nameAt_43 : decode prog_14_method_63_code 43 = .ok (.iload_n 1, 1) := by decide +kernel
theorem d_M_nameAt_44 : decode prog_14_method_63_code 44 = .ok (.laload, 1) := by decide +kernel
theorem d_M_nameAt_45 : decode prog_14_method_63_code 45 = .ok (.invokestatic 167, 3) := by decide +kernel
theorem d_M_nameAt_48 : decode prog_14_method_63_code 48 = .ok (.iconst 1, 1) := by decide +kernel
theorem d_M_nameAt_49 : decode prog_14_method_63_code 49 = .ok (.isub, 1) := by decide +kernel
theorem d_M_nameAt_50 : decode prog_14_method_63_code 50 = .ok (.iload_n 2, 1) := by decide +kernel
theorem d_M_nameAt_51 : decode prog_14_method_63_code 51 = .ok (.isub, 1) := by decide +kernel
theorem d_M_nameAt_52 : decode prog_14_method_63_code 52 = .ok (.imul, 1) := by decide +kernel
theorem d_M_nameAt_53 : decode prog_14_method_63_code 53 = .ok (.lshr, 1) := by decide +kernel
theorem d_M_nameAt_54 : decode prog_14_method_63_code 54 = .ok (.ldc2_w 171, 3) := by decide +kernel
theorem d_M_nameAt_57 : decode prog_14_method_63_code 57 = .ok (.land, 1) := by decide +kernel
theorem d_M_nameAt_58 : decode prog_14_method_63_code 58 = .ok (.l2i, 1) := by decide +kernel
theorem d_M_nameAt_59 : decode prog_14_method_63_code 59 = .ok (.ireturn, 1) := by decide +kernel
noncomputable def f_M_nameAt (r0 : Option Nat) (x1 : Int32) (x2 : Int32) (σ : rb_St) : Option rb_Rs :=
  if x1 < 0 then (some (some (.int (-1 : Int32)), σ)) else ((rb_gI σ r0 13 2).bind fun x_1 => if x_1 ≤ x1 then (some (some (.int (-1 : Int32)), σ)) else (if x2 < 0 then (some (some (.int (-1 : Int32)), σ)) else ((rb_gR σ r0 13 3).bind fun r_2 => (rb_aL σ r_2 103 x1).bind fun y_3 => rb_cI (f_M_length (y_3) σ) fun x_4 σ_5 => if x2 < x_4 then ((rb_gR σ_5 r0 13 3).bind fun r_6 => (rb_aL σ_5 r_6 103 x1).bind fun y_7 => (rb_gR σ_5 r0 13 3).bind fun r_8 => (rb_aL σ_5 r_8 103 x1).bind fun y_9 => rb_cI (f_M_length (y_9) σ_5) fun x_10 σ_11 => some (some (.int (((y_7 >>> (((7 : Int32) * ((x_10 - (1 : Int32)) - x2)).toInt64 &&& 63)) &&& (127 : Int64)).toInt32)), σ_11)) else (some (some (.int (-1 : Int32)), σ_5)))))
theorem s_M_nameAt {E : rb_EV} {d : Nat} (hdd : 1 ≤ d) (r0 : Option Nat) (x1 : Int32) (x2 : Int32) (σ : rb_St) : rb_Does E k_M_nameAt d [va_rf r0, .int x1, .int x2] σ (f_M_nameAt r0 x1 x2 σ) := by
  refine rb_start (lv := [some (va_rf r0), some (.int x1), some (.int x2)]) (by decide) (by simp [lg_sl, rb_as, lv_args, rb_cat_r, rb_cat_i, rb_cat_l, rb_nL, k_M_nameAt]) (fun res => ?_)
  unfold f_M_nameAt
  refine rb_TC.mono (rk_iload_n 1 d_M_nameAt_0 rfl rfl) ?_
  refine rt_if_lt 29 d_M_nameAt_1 (by decide) (fun _ => ?_) (fun _ => ?_)
  · refine rb_TC.mono (rk_iconst (-1 : Int32) d_M_nameAt_29 (by decide)) ?_
    exact rt_iret (ty := .int) rfl rfl (fun h => h) d_M_nameAt_30
  · refine rb_TC.mono (rk_iload_n 1 d_M_nameAt_4 rfl rfl) ?_
    refine rb_TC.mono (rk_aload_n 0 d_M_nameAt_5 rfl rfl) ?_
    refine rt_gI r0 fw_M_173 d_M_nameAt_6 (fun x_1 => ?_)
    refine rt_icmp_ge 29 d_M_nameAt_9 (by decide) (fun _ => ?_) (fun _ => ?_)
    · refine rb_TC.mono (rk_iconst (-1 : Int32) d_M_nameAt_29 (by decide)) ?_
      exact rt_iret (ty := .int) rfl rfl (fun h => h) d_M_nameAt_30
    · refine rb_TC.mono (rk_iload_n 2 d_M_nameAt_12 rfl rfl) ?_
      refine rt_if_lt 29 d_M_nameAt_13 (by decide) (fun _ => ?_) (fun _ => ?_)
      · refine rb_TC.mono (rk_iconst (-1 : Int32) d_M_nameAt_29 (by decide)) ?_
        exact rt_iret (ty := .int) rfl rfl (fun h => h) d_M_nameAt_30
      · refine rb_TC.mono (rk_iload_n 2 d_M_nameAt_16 rfl rfl) ?_
        refine rb_TC.mono (rk_aload_n 0 d_M_nameAt_17 rfl rfl) ?_
        refine rt_gR r0 fw_M_13 d_M_nameAt_18 (fun r_2 => ?_)
        refine rb_TC.mono (rk_iload_n 1 d_M_nameAt_21 rfl rfl) ?_
        refine rt_lald r_2 d_M_nameAt_22 (fun y_3 => ?_)
        refine rt_sI (As := [.long y_3]) (st := [.int x2]) sw_M_167 (s_M_length (Nat.le_refl _) (y_3) σ) (Nat.le_trans (by decide) hdd) rfl (by simp [rb_cat_r, rb_cat_i, rb_cat_l]) d_M_nameAt_23 (fun x_4 σ_5 => ?_)
        refine rt_icmp_lt 31 d_M_nameAt_26 (by decide) (fun _ => ?_) (fun _ => ?_)
        · refine rb_TC.mono (rk_aload_n 0 d_M_nameAt_31 rfl rfl) ?_
          refine rt_gR r0 fw_M_13 d_M_nameAt_32 (fun r_6 => ?_)
          refine rb_TC.mono (rk_iload_n 1 d_M_nameAt_35 rfl rfl) ?_
          refine rt_lald r_6 d_M_nameAt_36 (fun y_7 => ?_)
          refine rb_TC.mono (rk_bipush (7 : Int32) d_M_nameAt_37 (by decide)) ?_
          refine rb_TC.mono (rk_aload_n 0 d_M_nameAt_39 rfl rfl) ?_
          refine rt_gR r0 fw_M_13 d_M_nameAt_40 (fun r_8 => ?_)
          refine rb_TC.mono (rk_iload_n 1 d_M_nameAt_43 rfl rfl) ?_
          refine rt_lald r_8 d_M_nameAt_44 (fun y_9 => ?_)
          refine rt_sI (As := [.long y_9]) (st := [.int (7 : Int32), .long y_7]) sw_M_167 (s_M_length (Nat.le_refl _) (y_9) σ_5) (Nat.le_trans (by decide) hdd) rfl (by simp [rb_cat_r, rb_cat_i, rb_cat_l]) d_M_nameAt_45 (fun x_10 σ_11 => ?_)
          refine rb_TC.mono (rk_iconst (1 : Int32) d_M_nameAt_48 (by decide)) ?_
          refine rb_TC.mono (rk_isub d_M_nameAt_49) ?_
          refine rb_TC.mono (rk_iload_n 2 d_M_nameAt_50 rfl rfl) ?_
          refine rb_TC.mono (rk_isub d_M_nameAt_51) ?_
          refine rb_TC.mono (rk_imul d_M_nameAt_52) ?_
          refine rb_TC.mono (rk_lshr d_M_nameAt_53) ?_
          refine rb_TC.mono (rk_ldc2 d_M_nameAt_54 w_long_M_171) ?_
          refine rb_TC.mono (rk_land d_M_nameAt_57) ?_
          refine rb_TC.mono (rk_l2i d_M_nameAt_58) ?_
          exact rt_iret (ty := .int) rfl rfl (fun h => h) d_M_nameAt_59
        · refine rb_TC.mono (rk_iconst (-1 : Int32) d_M_nameAt_29 (by decide)) ?_
          exact rt_iret (ty := .int) rfl rfl (fun h => h) d_M_nameAt_30
-- ===== RuleBuilderModel.time(I)I
def k_M_time : rb_MK := (⟨"RuleBuilderModel", "time", "(I)I"⟩, prog_14_method_64_code, 2, some (.int))
theorem mw_M_time : rb_Mw k_M_time 1 := ⟨rb_inG 1701 (by decide +kernel) rfl, rb_inG 94 (by decide +kernel) rfl, ⟨by decide, by decide, by decide +kernel⟩, by decide⟩
theorem d_M_time_0 : decode prog_14_method_64_code 0 = .ok (.iload_n 1, 1) := by decide +kernel
theorem d_M_time_1 : decode prog_14_method_64_code 1 = .ok (.ifCond .lt 11, 3) := by decide +kernel
theorem d_M_time_4 : decode prog_14_method_64_code 4 = .ok (.iload_n 1, 1) := by decide +kernel
theorem d_M_time_5 : decode prog_14_method_64_code 5 = .ok (.aload_n 0, 1) := by decide +kernel
theorem d_M_time_6 : decode prog_14_method_64_code 6 = .ok (.getfield 173, 3) := by decide +kernel
theorem d_M_time_9 : decode prog_14_method_64_code 9 = .ok (.if_icmp .lt 7, 3) := by decide +kernel
theorem d_M_time_12 : decode prog_14_method_64_code 12 = .ok (.iconst (-1), 1) := by decide +kernel
theorem d_M_time_13 : decode prog_14_method_64_code 13 = .ok (.goto 9, 3) := by decide +kernel
theorem d_M_time_16 : decode prog_14_method_64_code 16 = .ok (.aload_n 0, 1) := by decide +kernel
theorem d_M_time_17 : decode prog_14_method_64_code 17 = .ok (.getfield 21, 3) := by decide +kernel
theorem d_M_time_20 : decode prog_14_method_64_code 20 = .ok (.iload_n 1, 1) := by decide +kernel
theorem d_M_time_21 : decode prog_14_method_64_code 21 = .ok (.iaload, 1) := by decide +kernel
theorem d_M_time_22 : decode prog_14_method_64_code 22 = .ok (.ireturn, 1) := by decide +kernel
noncomputable def f_M_time (r0 : Option Nat) (x1 : Int32) (σ : rb_St) : Option rb_Rs :=
  if x1 < 0 then (some (some (.int (-1 : Int32)), σ)) else ((rb_gI σ r0 13 2).bind fun x_1 => if x1 < x_1 then ((rb_gR σ r0 13 5).bind fun r_2 => (rb_aI σ r_2 102 x1).bind fun x_3 => some (some (.int x_3), σ)) else (some (some (.int (-1 : Int32)), σ)))
theorem s_M_time {E : rb_EV} {d : Nat} (hdd : 0 ≤ d) (r0 : Option Nat) (x1 : Int32) (σ : rb_St) : rb_Does E k_M_time d [va_rf r0, .int x1] σ (f_M_time r0 x1 σ) := by
  refine rb_start (lv := [some (va_rf r0), some (.int x1)]) (by decide) (by simp [lg_sl, rb_as, lv_args, rb_cat_r, rb_cat_i, rb_cat_l, rb_nL, k_M_time]) (fun res => ?_)
  unfold f_M_time
  refine rb_TC.mono (rk_iload_n 1 d_M_time_0 rfl rfl) ?_
  refine rt_if_lt 12 d_M_time_1 (by decide) (fun _ => ?_) (fun _ => ?_)
  · refine rb_TC.mono (rk_iconst (-1 : Int32) d_M_time_12 (by decide)) ?_
    refine rb_TC.mono (rk_goto 22 d_M_time_13 (by decide)) ?_
    exact rt_iret (ty := .int) rfl rfl (fun h => h) d_M_time_22
  · refine rb_TC.mono (rk_iload_n 1 d_M_time_4 rfl rfl) ?_
    refine rb_TC.mono (rk_aload_n 0 d_M_time_5 rfl rfl) ?_
    refine rt_gI r0 fw_M_173 d_M_time_6 (fun x_1 => ?_)
    refine rt_icmp_lt 16 d_M_time_9 (by decide) (fun _ => ?_) (fun _ => ?_)
    · refine rb_TC.mono (rk_aload_n 0 d_M_time_16 rfl rfl) ?_
      refine rt_gR r0 fw_M_21 d_M_time_17 (fun r_2 => ?_)
      refine rb_TC.mono (rk_iload_n 1 d_M_time_20 rfl rfl) ?_
      refine rt_iald r_2 d_M_time_21 (fun x_3 => ?_)
      exact rt_iret (ty := .int) rfl rfl (fun h => h) d_M_time_22
    · refine rb_TC.mono (rk_iconst (-1 : Int32) d_M_time_12 (by decide)) ?_
      refine rb_TC.mono (rk_goto 22 d_M_time_13 (by decide)) ?_
      exact rt_iret (ty := .int) rfl rfl (fun h => h) d_M_time_22
-- ===== RuleBuilderModel.content(I)I
def k_M_content : rb_MK := (⟨"RuleBuilderModel", "content", "(I)I"⟩, prog_14_method_65_code, 2, some (.int))
theorem mw_M_content : rb_Mw k_M_content 1 := ⟨rb_inG 1705 (by decide +kernel) rfl, rb_inG 94 (by decide +kernel) rfl, ⟨by decide, by decide, by decide +kernel⟩, by decide⟩
theorem d_M_content_0 : decode prog_14_method_65_code 0 = .ok (.iload_n 1, 1) := by decide +kernel
theorem d_M_content_1 : decode prog_14_method_65_code 1 = .ok (.ifCond .lt 11, 3) := by decide +kernel
theorem d_M_content_4 : decode prog_14_method_65_code 4 = .ok (.iload_n 1, 1) := by decide +kernel
theorem d_M_content_5 : decode prog_14_method_65_code 5 = .ok (.aload_n 0, 1) := by decide +kernel
theorem d_M_content_6 : decode prog_14_method_65_code 6 = .ok (.getfield 173, 3) := by decide +kernel
theorem d_M_content_9 : decode prog_14_method_65_code 9 = .ok (.if_icmp .lt 7, 3) := by decide +kernel
theorem d_M_content_12 : decode prog_14_method_65_code 12 = .ok (.iconst 0, 1) := by decide +kernel
theorem d_M_content_13 : decode prog_14_method_65_code 13 = .ok (.goto 9, 3) := by decide +kernel
theorem d_M_content_16 : decode prog_14_method_65_code 16 = .ok (.aload_n 0, 1) := by decide +kernel
theorem d_M_content_17 : decode prog_14_method_65_code 17 = .ok (.getfield 24, 3) := by decide +kernel
theorem d_M_content_20 : decode prog_14_method_65_code 20 = .ok (.iload_n 1, 1) := by decide +kernel
theorem d_M_content_21 : decode prog_14_method_65_code 21 = .ok (.iaload, 1) := by decide +kernel
theorem d_M_content_22 : decode prog_14_method_65_code 22 = .ok (.ireturn, 1) := by decide +kernel
noncomputable def f_M_content (r0 : Option Nat) (x1 : Int32) (σ : rb_St) : Option rb_Rs :=
  if x1 < 0 then (some (some (.int (0 : Int32)), σ)) else ((rb_gI σ r0 13 2).bind fun x_1 => if x1 < x_1 then ((rb_gR σ r0 13 6).bind fun r_2 => (rb_aI σ r_2 102 x1).bind fun x_3 => some (some (.int x_3), σ)) else (some (some (.int (0 : Int32)), σ)))
theorem s_M_content {E : rb_EV} {d : Nat} (hdd : 0 ≤ d) (r0 : Option Nat) (x1 : Int32) (σ : rb_St) : rb_Does E k_M_content d [va_rf r0, .int x1] σ (f_M_content r0 x1 σ) := by
  refine rb_start (lv := [some (va_rf r0), some (.int x1)]) (by decide) (by simp [lg_sl, rb_as, lv_args, rb_cat_r, rb_cat_i, rb_cat_l, rb_nL, k_M_content]) (fun res => ?_)
  unfold f_M_content
  refine rb_TC.mono (rk_iload_n 1 d_M_content_0 rfl rfl) ?_
  refine rt_if_lt 12 d_M_content_1 (by decide) (fun _ => ?_) (fun _ => ?_)
  · refine rb_TC.mono (rk_iconst (0 : Int32) d_M_content_12 (by decide)) ?_
    refine rb_TC.mono (rk_goto 22 d_M_content_13 (by decide)) ?_
    exact rt_iret (ty := .int) rfl rfl (fun h => h) d_M_content_22
  · refine rb_TC.mono (rk_iload_n 1 d_M_content_4 rfl rfl) ?_
    refine rb_TC.mono (rk_aload_n 0 d_M_content_5 rfl rfl) ?_
    refine rt_gI r0 fw_M_173 d_M_content_6 (fun x_1 => ?_)
    refine rt_icmp_lt 16 d_M_content_9 (by decide) (fun _ => ?_) (fun _ => ?_)
    · refine rb_TC.mono (rk_aload_n 0 d_M_content_16 rfl rfl) ?_
      refine rt_gR r0 fw_M_24 d_M_content_17 (fun r_2 => ?_)
      refine rb_TC.mono (rk_iload_n 1 d_M_content_20 rfl rfl) ?_
      refine rt_iald r_2 d_M_content_21 (fun x_3 => ?_)
      exact rt_iret (ty := .int) rfl rfl (fun h => h) d_M_content_22
    · refine rb_TC.mono (rk_iconst (0 : Int32) d_M_content_12 (by decide)) ?_
      refine rb_TC.mono (rk_goto 22 d_M_content_13 (by decide)) ?_
      exact rt_iret (ty := .int) rfl rfl (fun h => h) d_M_content_22
-- ===== RuleBuilderModel.fate(I)I
def k_M_fate : rb_MK := (⟨"RuleBuilderModel", "fate", "(I)I"⟩, prog_14_method_66_code, 2, some (.int))
theorem mw_M_fate : rb_Mw k_M_fate 1 := ⟨rb_inG 1709 (by decide +kernel) rfl, rb_inG 94 (by decide +kernel) rfl, ⟨by decide, by decide, by decide +kernel⟩, by decide⟩
theorem d_M_fate_0 : decode prog_14_method_66_code 0 = .ok (.iload_n 1, 1) := by decide +kernel
theorem d_M_fate_1 : decode prog_14_method_66_code 1 = .ok (.ifCond .lt 11, 3) := by decide +kernel
theorem d_M_fate_4 : decode prog_14_method_66_code 4 = .ok (.iload_n 1, 1) := by decide +kernel
theorem d_M_fate_5 : decode prog_14_method_66_code 5 = .ok (.aload_n 0, 1) := by decide +kernel
theorem d_M_fate_6 : decode prog_14_method_66_code 6 = .ok (.getfield 173, 3) := by decide +kernel
theorem d_M_fate_9 : decode prog_14_method_66_code 9 = .ok (.if_icmp .lt 7, 3) := by decide +kernel
theorem d_M_fate_12 : decode prog_14_method_66_code 12 = .ok (.iconst (-1), 1) := by decide +kernel
theorem d_M_fate_13 : decode prog_14_method_66_code 13 = .ok (.goto 9, 3) := by decide +kernel
theorem d_M_fate_16 : decode prog_14_method_66_code 16 = .ok (.aload_n 0, 1) := by decide +kernel
theorem d_M_fate_17 : decode prog_14_method_66_code 17 = .ok (.getfield 123, 3) := by decide +kernel
theorem d_M_fate_20 : decode prog_14_method_66_code 20 = .ok (.iload_n 1, 1) := by decide +kernel
theorem d_M_fate_21 : decode prog_14_method_66_code 21 = .ok (.iaload, 1) := by decide +kernel
theorem d_M_fate_22 : decode prog_14_method_66_code 22 = .ok (.ireturn, 1) := by decide +kernel
noncomputable def f_M_fate (r0 : Option Nat) (x1 : Int32) (σ : rb_St) : Option rb_Rs :=
  if x1 < 0 then (some (some (.int (-1 : Int32)), σ)) else ((rb_gI σ r0 13 2).bind fun x_1 => if x1 < x_1 then ((rb_gR σ r0 13 57).bind fun r_2 => (rb_aI σ r_2 102 x1).bind fun x_3 => some (some (.int x_3), σ)) else (some (some (.int (-1 : Int32)), σ)))
theorem s_M_fate {E : rb_EV} {d : Nat} (hdd : 0 ≤ d) (r0 : Option Nat) (x1 : Int32) (σ : rb_St) : rb_Does E k_M_fate d [va_rf r0, .int x1] σ (f_M_fate r0 x1 σ) := by
  refine rb_start (lv := [some (va_rf r0), some (.int x1)]) (by decide) (by simp [lg_sl, rb_as, lv_args, rb_cat_r, rb_cat_i, rb_cat_l, rb_nL, k_M_fate]) (fun res => ?_)
  unfold f_M_fate
  refine rb_TC.mono (rk_iload_n 1 d_M_fate_0 rfl rfl) ?_
  refine rt_if_lt 12 d_M_fate_1 (by decide) (fun _ => ?_) (fun _ => ?_)
  · refine rb_TC.mono (rk_iconst (-1 : Int32) d_M_fate_12 (by decide)) ?_
    refine rb_TC.mono (rk_goto 22 d_M_fate_13 (by decide)) ?_
    exact rt_iret (ty := .int) rfl rfl (fun h => h) d_M_fate_22
  · refine rb_TC.mono (rk_iload_n 1 d_M_fate_4 rfl rfl) ?_
    refine rb_TC.mono (rk_aload_n 0 d_M_fate_5 rfl rfl) ?_
    refine rt_gI r0 fw_M_173 d_M_fate_6 (fun x_1 => ?_)
    refine rt_icmp_lt 16 d_M_fate_9 (by decide) (fun _ => ?_) (fun _ => ?_)
    · refine rb_TC.mono (rk_aload_n 0 d_M_fate_16 rfl rfl) ?_
      refine rt_gR r0 fw_M_123 d_M_fate_17 (fun r_2 => ?_)
      refine rb_TC.mono (rk_iload_n 1 d_M_fate_20 rfl rfl) ?_
      refine rt_iald r_2 d_M_fate_21 (fun x_3 => ?_)
      exact rt_iret (ty := .int) rfl rfl (fun h => h) d_M_fate_22
    · refine rb_TC.mono (rk_iconst (-1 : Int32) d_M_fate_12 (by decide)) ?_
      refine rb_TC.mono (rk_goto 22 d_M_fate_13 (by decide)) ?_
      exact rt_iret (ty := .int) rfl rfl (fun h => h) d_M_fate_22
-- ===== RuleBuilderModel.done()I
def k_M_done : rb_MK := (⟨"RuleBuilderModel", "done", "()I"⟩, prog_14_method_67_code, 1, some (.int))
theorem mw_M_done : rb_Mw k_M_done 0 := ⟨rb_inG 1713 (by decide +kernel) rfl, rb_inG 94 (by decide +kernel) rfl, ⟨by decide, by decide, by decide +kernel⟩, by decide⟩
theorem fw_M_407 : rb_Fw "RuleBuilderModel" 407 13 70 := ⟨_, rfl, by decide, by decide, by decide, rfl, rb_inG 1290 (by decide +kernel) rfl⟩
theorem d_M_done_0 : decode prog_14_method_67_code 0 = .ok (.aload_n 0, 1) := by decide +kernel
theorem d_M_done_1 : decode prog_14_method_67_code 1 = .ok (.getfield 407, 3) := by decide +kernel
theorem d_M_done_4 : decode prog_14_method_67_code 4 = .ok (.ireturn, 1) := by decide +kernel
noncomputable def f_M_done (r0 : Option Nat) (σ : rb_St) : Option rb_Rs :=
  (rb_gI σ r0 13 70).bind fun x_1 => some (some (.int x_1), σ)
theorem s_M_done {E : rb_EV} {d : Nat} (hdd : 0 ≤ d) (r0 : Option Nat) (σ : rb_St) : rb_Does E k_M_done d [va_rf r0] σ (f_M_done r0 σ) := by
  refine rb_start (lv := [some (va_rf r0)]) (by decide) (by simp [lg_sl, rb_as, lv_args, rb_cat_r, rb_cat_i, rb_cat_l, rb_nL, k_M_done]) (fun res => ?_)
  unfold f_M_done
  refine rb_TC.mono (rk_aload_n 0 d_M_done_0 rfl rfl) ?_
  refine rt_gI r0 fw_M_407 d_M_done_1 (fun x_1 => ?_)
  exact rt_iret (ty := .int) rfl rfl (fun h => h) d_M_done_4
-- ===== RuleBuilderModel.printed()I
def k_M_printed : rb_MK := (⟨"RuleBuilderModel", "printed", "()I"⟩, prog_14_method_68_code, 1, some (.int))
theorem mw_M_printed : rb_Mw k_M_printed 0 := ⟨rb_inG 1717 (by decide +kernel) rfl, rb_inG 94 (by decide +kernel) rfl, ⟨by decide, by decide, by decide +kernel⟩, by decide⟩
theorem fw_M_413 : rb_Fw "RuleBuilderModel" 413 13 72 := ⟨_, rfl, by decide, by decide, by decide, rfl, rb_inG 1292 (by decide +kernel) rfl⟩
theorem d_M_printed_0 : decode prog_14_method_68_code 0 = .ok (.aload_n 0, 1) := by decide +kernel
theorem d_M_printed_1 : decode prog_14_method_68_code 1 = .ok (.getfield 413, 3) := by decide +kernel
theorem d_M_printed_4 : decode prog_14_method_68_code 4 = .ok (.ireturn, 1) := by decide +kernel
noncomputable def f_M_printed (r0 : Option Nat) (σ : rb_St) : Option rb_Rs :=
  (rb_gI σ r0 13 72).bind fun x_1 => some (some (.int x_1), σ)
theorem s_M_printed {E : rb_EV} {d : Nat} (hdd : 0 ≤ d) (r0 : Option Nat) (σ : rb_St) : rb_Does E k_M_printed d [va_rf r0] σ (f_M_printed r0 σ) := by
  refine rb_start (lv := [some (va_rf r0)]) (by decide) (by simp [lg_sl, rb_as, lv_args, rb_cat_r, rb_cat_i, rb_cat_l, rb_nL, k_M_printed]) (fun res => ?_)
  unfold f_M_printed
  refine rb_TC.mono (rk_aload_n 0 d_M_printed_0 rfl rfl) ?_
  refine rt_gI r0 fw_M_413 d_M_printed_1 (fun x_1 => ?_)
  exact rt_iret (ty := .int) rfl rfl (fun h => h) d_M_printed_4
-- ===== RuleBuilderModel.printedAt(I)I
def k_M_printedAt : rb_MK := (⟨"RuleBuilderModel", "printedAt", "(I)I"⟩, prog_14_method_69_code, 2, some (.int))
theorem mw_M_printedAt : rb_Mw k_M_printedAt 1 := ⟨rb_inG 1721 (by decide +kernel) rfl, rb_inG 94 (by decide +kernel) rfl, ⟨by decide, by decide, by decide +kernel⟩, by decide⟩
theorem d_M_printedAt_0 : decode prog_14_method_69_code 0 = .ok (.iload_n 1, 1) := by decide +kernel
theorem d_M_printedAt_1 : decode prog_14_method_69_code 1 = .ok (.ifCond .lt 11, 3) := by decide +kernel
theorem d_M_printedAt_4 : decode prog_14_method_69_code 4 = .ok (.iload_n 1, 1) := by decide +kernel
theorem d_M_printedAt_5 : decode prog_14_method_69_code 5 = .ok (.aload_n 0, 1) := by decide +kernel
theorem d_M_printedAt_6 : decode prog_14_method_69_code 6 = .ok (.getfield 413, 3) := by decide +kernel
theorem d_M_printedAt_9 : decode prog_14_method_69_code 9 = .ok (.if_icmp .lt 7, 3) := by decide +kernel
theorem d_M_printedAt_12 : decode prog_14_method_69_code 12 = .ok (.iconst (-1), 1) := by decide +kernel
theorem d_M_printedAt_13 : decode prog_14_method_69_code 13 = .ok (.goto 9, 3) := by decide +kernel
theorem d_M_printedAt_16 : decode prog_14_method_69_code 16 = .ok (.aload_n 0, 1) := by decide +kernel
theorem d_M_printedAt_17 : decode prog_14_method_69_code 17 = .ok (.getfield 153, 3) := by decide +kernel
theorem d_M_printedAt_20 : decode prog_14_method_69_code 20 = .ok (.iload_n 1, 1) := by decide +kernel
theorem d_M_printedAt_21 : decode prog_14_method_69_code 21 = .ok (.iaload, 1) := by decide +kernel
theorem d_M_printedAt_22 : decode prog_14_method_69_code 22 = .ok (.ireturn, 1) := by decide +kernel
noncomputable def f_M_printedAt (r0 : Option Nat) (x1 : Int32) (σ : rb_St) : Option rb_Rs :=
  if x1 < 0 then (some (some (.int (-1 : Int32)), σ)) else ((rb_gI σ r0 13 72).bind fun x_1 => if x1 < x_1 then ((rb_gR σ r0 13 71).bind fun r_2 => (rb_aI σ r_2 102 x1).bind fun x_3 => some (some (.int x_3), σ)) else (some (some (.int (-1 : Int32)), σ)))
theorem s_M_printedAt {E : rb_EV} {d : Nat} (hdd : 0 ≤ d) (r0 : Option Nat) (x1 : Int32) (σ : rb_St) : rb_Does E k_M_printedAt d [va_rf r0, .int x1] σ (f_M_printedAt r0 x1 σ) := by
  refine rb_start (lv := [some (va_rf r0), some (.int x1)]) (by decide) (by simp [lg_sl, rb_as, lv_args, rb_cat_r, rb_cat_i, rb_cat_l, rb_nL, k_M_printedAt]) (fun res => ?_)
  unfold f_M_printedAt
  refine rb_TC.mono (rk_iload_n 1 d_M_printedAt_0 rfl rfl) ?_
  refine rt_if_lt 12 d_M_printedAt_1 (by decide) (fun _ => ?_) (fun _ => ?_)
  · refine rb_TC.mono (rk_iconst (-1 : Int32) d_M_printedAt_12 (by decide)) ?_
    refine rb_TC.mono (rk_goto 22 d_M_printedAt_13 (by decide)) ?_
    exact rt_iret (ty := .int) rfl rfl (fun h => h) d_M_printedAt_22
  · refine rb_TC.mono (rk_iload_n 1 d_M_printedAt_4 rfl rfl) ?_
    refine rb_TC.mono (rk_aload_n 0 d_M_printedAt_5 rfl rfl) ?_
    refine rt_gI r0 fw_M_413 d_M_printedAt_6 (fun x_1 => ?_)
    refine rt_icmp_lt 16 d_M_printedAt_9 (by decide) (fun _ => ?_) (fun _ => ?_)
    · refine rb_TC.mono (rk_aload_n 0 d_M_printedAt_16 rfl rfl) ?_
      refine rt_gR r0 fw_M_153 d_M_printedAt_17 (fun r_2 => ?_)
      refine rb_TC.mono (rk_iload_n 1 d_M_printedAt_20 rfl rfl) ?_
      refine rt_iald r_2 d_M_printedAt_21 (fun x_3 => ?_)
      exact rt_iret (ty := .int) rfl rfl (fun h => h) d_M_printedAt_22
    · refine rb_TC.mono (rk_iconst (-1 : Int32) d_M_printedAt_12 (by decide)) ?_
      refine rb_TC.mono (rk_goto 22 d_M_printedAt_13 (by decide)) ?_
      exact rt_iret (ty := .int) rfl rfl (fun h => h) d_M_printedAt_22
