-- ===== RuleBuilder$Store.<init>()V
def k_Store_init : rb_MK := (⟨"RuleBuilder$Store", "<init>", "()V"⟩, prog_10_method_1_code, 1, none)
theorem mw_Store_init : rb_Mw k_Store_init 0 := ⟨rb_inG 131 (by decide +kernel) rfl, rb_inG 87 (by decide +kernel) rfl, ⟨by decide, by decide, by decide +kernel⟩, by decide⟩
theorem w_cl_Store_11 : Cond.classLink "RuleBuilder$Store" 11 "RuleBuilder$Name" ∈ rb_G := rb_inG 133 (by decide +kernel) rfl
theorem fw_Store_13 : rb_Fw "RuleBuilder$Store" 13 3 0 := ⟨_, rfl, by decide, by decide, by decide, rfl, rb_inG 135 (by decide +kernel) rfl⟩
theorem fp_Store_init_13 : rb_Fp k_Store_init 13 3 0 (.array (.object "RuleBuilder$Name")) ∧ ((∃ n, (.array (.object "RuleBuilder$Name") : FieldType) = .object n) ∨ ∃ t, (.array (.object "RuleBuilder$Name") : FieldType) = .array t) := ⟨⟨fw_Store_13, rfl, fun q h => by cases h; exact Or.inr ⟨rfl, rfl, rfl⟩⟩, Or.inr ⟨_, rfl⟩⟩
theorem w_ml_Store_3 : Cond.methodLink "RuleBuilder$Store" 3 Lib.objectInit ∈ rb_G := rb_inG 132 (by decide +kernel) rfl
theorem d_Store_init_0 : decode prog_10_method_1_code 0 = .ok (.aload_n 0, 1) := by decide +kernel
theorem d_Store_init_1 : decode prog_10_method_1_code 1 = .ok (.invokespecial 3, 3) := by decide +kernel
theorem d_Store_init_4 : decode prog_10_method_1_code 4 = .ok (.aload_n 0, 1) := by decide +kernel
theorem d_Store_init_5 : decode prog_10_method_1_code 5 = .ok (.bipush 32, 2) := by decide +kernel
theorem d_Store_init_7 : decode prog_10_method_1_code 7 = .ok (.anewarray 11, 3) := by decide +kernel
theorem d_Store_init_10 : decode prog_10_method_1_code 10 = .ok (.putfield 13, 3) := by decide +kernel
theorem d_Store_init_13 : decode prog_10_method_1_code 13 = .ok (.return_, 1) := by decide +kernel
noncomputable def f_Store_init (a0 : Nat) (σ : rb_St) : Option rb_Rs :=
  (rb_nA σ 112 (32 : Int32)).bind fun σ_1 => (rb_pR σ_1 (some a0) 3 0 (some (rb_n σ))).bind fun σ_2 => some (none, σ_2)
theorem s_Store_init {E : rb_EV} {d : Nat} (hdd : 1 ≤ d) (a0 : Nat) (σ : rb_St) : rb_Does E k_Store_init d [va_rf (some a0)] σ (f_Store_init a0 σ) := by
  refine rb_start (lv := [some (va_rf (some a0))]) (by decide) (by simp [lg_sl, rb_as, lv_args, rb_cat_r, rb_cat_i, rb_cat_l, rb_nL, k_Store_init]) (fun res => ?_)
  unfold f_Store_init
  refine rb_TC.mono (rk_aload_n 0 d_Store_init_0 rfl rfl) ?_
  refine rb_TC.mono (rk_objInit w_ml_Store_3 w_oi w_oc (Nat.le_trans (by decide) hdd) (by simp [rb_cat_r, rb_cat_i, rb_cat_l]) d_Store_init_1 rfl) ?_
  refine rb_TC.mono (rk_aload_n 0 d_Store_init_4 rfl rfl) ?_
  refine rb_TC.mono (rk_bipush (32 : Int32) d_Store_init_5 (by decide)) ?_
  refine rt_anew (t := 112) ⟨by decide, rfl, by decide, w_cl_Store_11⟩ d_Store_init_7 (fun σ_1 => ?_)
  refine rt_pR (some a0) fp_Store_init_13 d_Store_init_10 (fun σ_2 => ?_)
  exact rt_vret rfl (fun h => h) d_Store_init_13
-- ===== RuleBuilder$Store.forgetRules()V
def k_Store_forgetRules : rb_MK := (⟨"RuleBuilder$Store", "forgetRules", "()V"⟩, prog_10_method_7_code, 2, none)
theorem mw_Store_forgetRules : rb_Mw k_Store_forgetRules 0 := ⟨rb_inG 546 (by decide +kernel) rfl, rb_inG 87 (by decide +kernel) rfl, ⟨by decide, by decide, by decide +kernel⟩, by decide⟩
theorem fw_Store_17 : rb_Fw "RuleBuilder$Store" 17 3 1 := ⟨_, rfl, by decide, by decide, by decide, rfl, rb_inG 136 (by decide +kernel) rfl⟩
theorem vw_Store_61 : rb_Vw "RuleBuilder$Store" 61 k_Name_forgetRules 12 0 := ⟨mw_Name_forgetRules, rb_inG 547 (by decide +kernel) rfl, rb_inG 548 (by decide +kernel) rfl, rb_inG 549 (by decide +kernel) rfl, by decide, by decide, _, rfl, rfl⟩
theorem d_Store_forgetRules_0 : decode prog_10_method_7_code 0 = .ok (.iconst 0, 1) := by decide +kernel
theorem d_Store_forgetRules_1 : decode prog_10_method_7_code 1 = .ok (.istore_n 1, 1) := by decide +kernel
theorem d_Store_forgetRules_2 : decode prog_10_method_7_code 2 = .ok (.iload_n 1, 1) := by decide +kernel
theorem d_Store_forgetRules_3 : decode prog_10_method_7_code 3 = .ok (.aload_n 0, 1) := by decide +kernel
theorem d_Store_forgetRules_4 : decode prog_10_method_7_code 4 = .ok (.getfield 17, 3) := by decide +kernel
theorem d_Store_forgetRules_7 : decode prog_10_method_7_code 7 = .ok (.if_icmp .ge 18, 3) := by decide +kernel
theorem d_Store_forgetRules_10 : decode prog_10_method_7_code 10 = .ok (.aload_n 0, 1) := by decide +kernel
theorem d_Store_forgetRules_11 : decode prog_10_method_7_code 11 = .ok (.getfield 13, 3) := by decide +kernel
theorem d_Store_forgetRules_14 : decode prog_10_method_7_code 14 = .ok (.iload_n 1, 1) := by decide +kernel
theorem d_Store_forgetRules_15 : decode prog_10_method_7_code 15 = .ok (.aaload, 1) := by decide +kernel
theorem d_Store_forgetRules_16 : decode prog_10_method_7_code 16 = .ok (.invokevirtual 61, 3) := by decide +kernel
theorem d_Store_forgetRules_19 : decode prog_10_method_7_code 19 = .ok (.iinc 1 1, 3) := by decide +kernel
theorem d_Store_forgetRules_22 : decode prog_10_method_7_code 22 = .ok (.goto (-20), 3) := by decide +kernel
theorem d_Store_forgetRules_25 : decode prog_10_method_7_code 25 = .ok (.return_, 1) := by decide +kernel
noncomputable def f_Store_forgetRules_b2 (r0 : Option Nat) (x1 : Int32) (σ : rb_St) : Option ((Int32 × rb_St) ⊕ rb_Rs) :=
  (rb_gI σ r0 3 1).bind fun x_1 => if x_1 ≤ x1 then ((some (none, σ)).map Sum.inr) else ((rb_gR σ r0 3 0).bind fun r_2 => (rb_aR σ r_2 112 x1).bind fun r_3 => (rb_fc σ r_3 12).bind fun _ => rb_cV (f_Name_forgetRules (r_3)  σ) fun σ_4 => some (.inl ((x1 + 1), σ_4)))
theorem t_Store_forgetRules_b2 {E : rb_EV} {d : Nat} {σ0 : rb_St} {res : rb_Rs} (hdd : 1 ≤ d)  (r0 : Option Nat) (x1 : Int32) (σ : rb_St) : rb_TC (f_Store_forgetRules_b2 r0 x1 σ) (Sum.elim (fun z : (Int32 × rb_St) => rb_WK E k_Store_forgetRules d σ0 res 2 [some (va_rf r0), some (.int z.1)] [] z.2) (fun r => r = res)) (rb_WK E k_Store_forgetRules d σ0 res 2 [some (va_rf r0), some (.int x1)] [] σ) := by
  unfold f_Store_forgetRules_b2
  refine rb_TC.mono (rk_iload_n 1 d_Store_forgetRules_2 rfl rfl) ?_
  refine rb_TC.mono (rk_aload_n 0 d_Store_forgetRules_3 rfl rfl) ?_
  refine rt_gI r0 fw_Store_17 d_Store_forgetRules_4 (fun x_1 => ?_)
  refine rt_icmp_ge 25 d_Store_forgetRules_7 (by decide) (fun _ => ?_) (fun _ => ?_)
  · refine rb_TC.out ?_
    exact rt_vret rfl (fun h => h) d_Store_forgetRules_25
  · refine rb_TC.mono (rk_aload_n 0 d_Store_forgetRules_10 rfl rfl) ?_
    refine rt_gR r0 fw_Store_13 d_Store_forgetRules_11 (fun r_2 => ?_)
    refine rb_TC.mono (rk_iload_n 1 d_Store_forgetRules_14 rfl rfl) ?_
    refine rt_aald (t := 112) r_2 (by decide) d_Store_forgetRules_15 (fun r_3 => ?_)
    refine rt_vV (As := []) (st := []) (r_3) vw_Store_61 (s_Name_forgetRules (Nat.le_refl _) (r_3)  σ) (Nat.le_trans (by decide) hdd) rfl (by simp [rb_cat_r, rb_cat_i, rb_cat_l]) d_Store_forgetRules_16 (fun σ_4 => ?_)
    refine rb_TC.mono (rk_iinc (lv2 := [some (va_rf r0), some (.int (x1 + 1))]) (x1 + 1) d_Store_forgetRules_19 rfl rfl (by decide) (fun _ => rb_one_r) rfl) ?_
    refine rb_TC.mono (rk_goto 2 d_Store_forgetRules_22 (by decide)) ?_
    exact rb_back
noncomputable def f_Store_forgetRules (r0 : Option Nat) (σ : rb_St) : Option rb_Rs :=
  rb_it (fun z : (Int32 × rb_St) => f_Store_forgetRules_b2 (r0) (z.1) z.2) ((0 : Int32), σ)
theorem s_Store_forgetRules {E : rb_EV} {d : Nat} (hdd : 1 ≤ d) (r0 : Option Nat) (σ : rb_St) : rb_Does E k_Store_forgetRules d [va_rf r0] σ (f_Store_forgetRules r0 σ) := by
  refine rb_start (lv := [some (va_rf r0), none]) (by decide) (by simp [lg_sl, rb_as, lv_args, rb_cat_r, rb_cat_i, rb_cat_l, rb_nL, k_Store_forgetRules]) (fun res => ?_)
  unfold f_Store_forgetRules
  refine rb_TC.mono (rk_iconst (0 : Int32) d_Store_forgetRules_0 (by decide)) ?_
  refine rb_TC.mono (rk_istore_n (lv2 := [some (va_rf r0), some (.int (0 : Int32))]) 1 d_Store_forgetRules_1 rfl (by decide) (fun _ => rb_one_r) rfl) ?_
  exact rb_TC.loop2 (A := (fun z : (Int32 × rb_St) => rb_WK E k_Store_forgetRules d σ res 2 [some (va_rf r0), some (.int z.1)] [] z.2)) ((0 : Int32), σ) (fun z => t_Store_forgetRules_b2 hdd  (r0) (z.1) z.2)
-- ===== RuleBuilder$Store.giveToLatestTargets(I)Z
def k_Store_giveToLatestTargets : rb_MK := (⟨"RuleBuilder$Store", "giveToLatestTargets", "(I)Z"⟩, prog_10_method_10_code, 4, some (.boolean))
theorem mw_Store_giveToLatestTargets : rb_Mw k_Store_giveToLatestTargets 1 := ⟨rb_inG 578 (by decide +kernel) rfl, rb_inG 87 (by decide +kernel) rfl, ⟨by decide, by decide, by decide +kernel⟩, by decide⟩
theorem fw_Store_71 : rb_Fw "RuleBuilder$Store" 71 12 9 := ⟨_, rfl, by decide, by decide, by decide, rfl, rb_inG 910 (by decide +kernel) rfl⟩
theorem fp_Store_giveToLatestTargets_71 : rb_Fp k_Store_giveToLatestTargets 71 12 9 .int := ⟨fw_Store_71, rfl, fun q h => by cases h; exact Or.inl rfl⟩
theorem fw_Store_67 : rb_Fw "RuleBuilder$Store" 67 12 8 := ⟨_, rfl, by decide, by decide, by decide, rfl, rb_inG 906 (by decide +kernel) rfl⟩
theorem d_Store_giveToLatestTargets_0 : decode prog_10_method_10_code 0 = .ok (.iconst 0, 1) := by decide +kernel
theorem d_Store_giveToLatestTargets_1 : decode prog_10_method_10_code 1 = .ok (.istore_n 2, 1) := by decide +kernel
theorem d_Store_giveToLatestTargets_2 : decode prog_10_method_10_code 2 = .ok (.iload_n 2, 1) := by decide +kernel
theorem d_Store_giveToLatestTargets_3 : decode prog_10_method_10_code 3 = .ok (.aload_n 0, 1) := by decide +kernel
theorem d_Store_giveToLatestTargets_4 : decode prog_10_method_10_code 4 = .ok (.getfield 17, 3) := by decide +kernel
theorem d_Store_giveToLatestTargets_7 : decode prog_10_method_10_code 7 = .ok (.if_icmp .ge 45, 3) := by decide +kernel
theorem d_Store_giveToLatestTargets_10 : decode prog_10_method_10_code 10 = .ok (.aload_n 0, 1) := by decide +kernel
theorem d_Store_giveToLatestTargets_11 : decode prog_10_method_10_code 11 = .ok (.getfield 13, 3) := by decide +kernel
theorem d_Store_giveToLatestTargets_14 : decode prog_10_method_10_code 14 = .ok (.iload_n 2, 1) := by decide +kernel
theorem d_Store_giveToLatestTargets_15 : decode prog_10_method_10_code 15 = .ok (.aaload, 1) := by decide +kernel
theorem d_Store_giveToLatestTargets_16 : decode prog_10_method_10_code 16 = .ok (.astore_n 3, 1) := by decide +kernel
theorem d_Store_giveToLatestTargets_17 : decode prog_10_method_10_code 17 = .ok (.aload_n 3, 1) := by decide +kernel
theorem d_Store_giveToLatestTargets_18 : decode prog_10_method_10_code 18 = .ok (.getfield 67, 3) := by decide +kernel
theorem d_Store_giveToLatestTargets_21 : decode prog_10_method_10_code 21 = .ok (.ifCond .eq 13, 3) := by decide +kernel
theorem d_Store_giveToLatestTargets_24 : decode prog_10_method_10_code 24 = .ok (.aload_n 3, 1) := by decide +kernel
theorem d_Store_giveToLatestTargets_25 : decode prog_10_method_10_code 25 = .ok (.getfield 71, 3) := by decide +kernel
theorem d_Store_giveToLatestTargets_28 : decode prog_10_method_10_code 28 = .ok (.iconst (-1), 1) := by decide +kernel
theorem d_Store_giveToLatestTargets_29 : decode prog_10_method_10_code 29 = .ok (.if_icmp .eq 5, 3) := by decide +kernel
theorem d_Store_giveToLatestTargets_32 : decode prog_10_method_10_code 32 = .ok (.iconst 0, 1) := by decide +kernel
theorem d_Store_giveToLatestTargets_33 : decode prog_10_method_10_code 33 = .ok (.ireturn, 1) := by decide +kernel
theorem d_Store_giveToLatestTargets_34 : decode prog_10_method_10_code 34 = .ok (.aload_n 3, 1) := by decide +kernel
theorem d_Store_giveToLatestTargets_35 : decode prog_10_method_10_code 35 = .ok (.getfield 67, 3) := by decide +kernel
theorem d_Store_giveToLatestTargets_38 : decode prog_10_method_10_code 38 = .ok (.ifCond .eq 8, 3) := by decide +kernel
theorem d_Store_giveToLatestTargets_41 : decode prog_10_method_10_code 41 = .ok (.aload_n 3, 1) := by decide +kernel
theorem d_Store_giveToLatestTargets_42 : decode prog_10_method_10_code 42 = .ok (.iload_n 1, 1) := by decide +kernel
theorem d_Store_giveToLatestTargets_43 : decode prog_10_method_10_code 43 = .ok (.putfield 71, 3) := by decide +kernel
theorem d_Store_giveToLatestTargets_46 : decode prog_10_method_10_code 46 = .ok (.iinc 2 1, 3) := by decide +kernel
theorem d_Store_giveToLatestTargets_49 : decode prog_10_method_10_code 49 = .ok (.goto (-47), 3) := by decide +kernel
theorem d_Store_giveToLatestTargets_52 : decode prog_10_method_10_code 52 = .ok (.iconst 1, 1) := by decide +kernel
theorem d_Store_giveToLatestTargets_53 : decode prog_10_method_10_code 53 = .ok (.ireturn, 1) := by decide +kernel
noncomputable def f_Store_giveToLatestTargets_j34 (r0 : Option Nat) (x1 : Int32) (x2 : Int32) (r3 : Option Nat) (σ : rb_St) : Option ((Int32 × rb_St) ⊕ rb_Rs) :=
  (rb_gI σ r3 12 8).bind fun x_5 => if x_5 = 0 then (some (.inl ((x2 + 1), σ))) else ((rb_pI σ r3 12 9 x1).bind fun σ_6 => some (.inl ((x2 + 1), σ_6)))
theorem t_Store_giveToLatestTargets_j34 {E : rb_EV} {d : Nat} {σ0 : rb_St} {res : rb_Rs} (hdd : 0 ≤ d)  (r0 : Option Nat) (x1 : Int32) (x2 : Int32) (r3 : Option Nat) (σ : rb_St) : rb_TC (f_Store_giveToLatestTargets_j34 r0 x1 x2 r3 σ) (Sum.elim (fun z : (Int32 × rb_St) => rb_WK E k_Store_giveToLatestTargets d σ0 res 2 [some (va_rf r0), some (.int x1), some (.int z.1), none] [] z.2) (fun r => r = res)) (rb_WK E k_Store_giveToLatestTargets d σ0 res 34 [some (va_rf r0), some (.int x1), some (.int x2), some (va_rf r3)] [] σ) := by
  unfold f_Store_giveToLatestTargets_j34
  refine rb_TC.mono (rk_aload_n 3 d_Store_giveToLatestTargets_34 rfl rfl) ?_
  refine rt_gI r3 fw_Store_67 d_Store_giveToLatestTargets_35 (fun x_5 => ?_)
  refine rt_if_eq 46 d_Store_giveToLatestTargets_38 (by decide) (fun _ => ?_) (fun _ => ?_)
  · refine rb_TC.mono (rk_iinc (lv2 := [some (va_rf r0), some (.int x1), some (.int (x2 + 1)), some (va_rf r3)]) (x2 + 1) d_Store_giveToLatestTargets_46 rfl rfl (by decide) (fun _ => rb_one_i) rfl) ?_
    refine rb_TC.mono (rk_goto 2 d_Store_giveToLatestTargets_49 (by decide)) ?_
    refine rb_TC.mono (rk_less (lv2 := [some (va_rf r0), some (.int x1), some (.int (x2 + 1)), none]) (rb_le_ok (rb_leS (rb_leS (rb_leS (rb_leN rb_le0)))))) ?_
    exact rb_back
  · refine rb_TC.mono (rk_aload_n 3 d_Store_giveToLatestTargets_41 rfl rfl) ?_
    refine rb_TC.mono (rk_iload_n 1 d_Store_giveToLatestTargets_42 rfl rfl) ?_
    refine rt_pI r3 fp_Store_giveToLatestTargets_71 d_Store_giveToLatestTargets_43 (fun σ_6 => ?_)
    refine rb_TC.mono (rk_iinc (lv2 := [some (va_rf r0), some (.int x1), some (.int (x2 + 1)), some (va_rf r3)]) (x2 + 1) d_Store_giveToLatestTargets_46 rfl rfl (by decide) (fun _ => rb_one_i) rfl) ?_
    refine rb_TC.mono (rk_goto 2 d_Store_giveToLatestTargets_49 (by decide)) ?_
    refine rb_TC.mono (rk_less (lv2 := [some (va_rf r0), some (.int x1), some (.int (x2 + 1)), none]) (rb_le_ok (rb_leS (rb_leS (rb_leS (rb_leN rb_le0)))))) ?_
    exact rb_back
noncomputable def f_Store_giveToLatestTargets_b2 (r0 : Option Nat) (x1 : Int32) (x2 : Int32) (σ : rb_St) : Option ((Int32 × rb_St) ⊕ rb_Rs) :=
  (rb_gI σ r0 3 1).bind fun x_1 => if x_1 ≤ x2 then ((some (some (.int (1 : Int32)), σ)).map Sum.inr) else ((rb_gR σ r0 3 0).bind fun r_2 => (rb_aR σ r_2 112 x2).bind fun r_3 => (rb_gI σ r_3 12 8).bind fun x_4 => if x_4 = 0 then (f_Store_giveToLatestTargets_j34 (r0) (x1) (x2) (r_3) σ) else ((rb_gI σ r_3 12 9).bind fun x_7 => if x_7 = (-1 : Int32) then (f_Store_giveToLatestTargets_j34 (r0) (x1) (x2) (r_3) σ) else ((some (some (.int (0 : Int32)), σ)).map Sum.inr)))
theorem t_Store_giveToLatestTargets_b2 {E : rb_EV} {d : Nat} {σ0 : rb_St} {res : rb_Rs} (hdd : 0 ≤ d)  (r0 : Option Nat) (x1 : Int32) (x2 : Int32) (σ : rb_St) : rb_TC (f_Store_giveToLatestTargets_b2 r0 x1 x2 σ) (Sum.elim (fun z : (Int32 × rb_St) => rb_WK E k_Store_giveToLatestTargets d σ0 res 2 [some (va_rf r0), some (.int x1), some (.int z.1), none] [] z.2) (fun r => r = res)) (rb_WK E k_Store_giveToLatestTargets d σ0 res 2 [some (va_rf r0), some (.int x1), some (.int x2), none] [] σ) := by
  unfold f_Store_giveToLatestTargets_b2
  refine rb_TC.mono (rk_iload_n 2 d_Store_giveToLatestTargets_2 rfl rfl) ?_
  refine rb_TC.mono (rk_aload_n 0 d_Store_giveToLatestTargets_3 rfl rfl) ?_
  refine rt_gI r0 fw_Store_17 d_Store_giveToLatestTargets_4 (fun x_1 => ?_)
  refine rt_icmp_ge 52 d_Store_giveToLatestTargets_7 (by decide) (fun _ => ?_) (fun _ => ?_)
  · refine rb_TC.out ?_
    refine rb_TC.mono (rk_iconst (1 : Int32) d_Store_giveToLatestTargets_52 (by decide)) ?_
    exact rt_iret (ty := .boolean) rfl (by decide) (fun h => h) d_Store_giveToLatestTargets_53
  · refine rb_TC.mono (rk_aload_n 0 d_Store_giveToLatestTargets_10 rfl rfl) ?_
    refine rt_gR r0 fw_Store_13 d_Store_giveToLatestTargets_11 (fun r_2 => ?_)
    refine rb_TC.mono (rk_iload_n 2 d_Store_giveToLatestTargets_14 rfl rfl) ?_
    refine rt_aald (t := 112) r_2 (by decide) d_Store_giveToLatestTargets_15 (fun r_3 => ?_)
    refine rb_TC.mono (rk_astore_n (lv2 := [some (va_rf r0), some (.int x1), some (.int x2), some (va_rf r_3)]) 3 d_Store_giveToLatestTargets_16 rfl (by decide) (fun _ => rb_one_i) rfl) ?_
    refine rb_TC.mono (rk_aload_n 3 d_Store_giveToLatestTargets_17 rfl rfl) ?_
    refine rt_gI r_3 fw_Store_67 d_Store_giveToLatestTargets_18 (fun x_4 => ?_)
    refine rt_if_eq 34 d_Store_giveToLatestTargets_21 (by decide) (fun _ => ?_) (fun _ => ?_)
    · exact t_Store_giveToLatestTargets_j34 hdd  (r0) (x1) (x2) (r_3) σ
    · refine rb_TC.mono (rk_aload_n 3 d_Store_giveToLatestTargets_24 rfl rfl) ?_
      refine rt_gI r_3 fw_Store_71 d_Store_giveToLatestTargets_25 (fun x_7 => ?_)
      refine rb_TC.mono (rk_iconst (-1 : Int32) d_Store_giveToLatestTargets_28 (by decide)) ?_
      refine rt_icmp_eq 34 d_Store_giveToLatestTargets_29 (by decide) (fun _ => ?_) (fun _ => ?_)
      · exact t_Store_giveToLatestTargets_j34 hdd  (r0) (x1) (x2) (r_3) σ
      · refine rb_TC.out ?_
        refine rb_TC.mono (rk_iconst (0 : Int32) d_Store_giveToLatestTargets_32 (by decide)) ?_
        exact rt_iret (ty := .boolean) rfl (by decide) (fun h => h) d_Store_giveToLatestTargets_33
noncomputable def f_Store_giveToLatestTargets (r0 : Option Nat) (x1 : Int32) (σ : rb_St) : Option rb_Rs :=
  rb_it (fun z : (Int32 × rb_St) => f_Store_giveToLatestTargets_b2 (r0) (x1) (z.1) z.2) ((0 : Int32), σ)
theorem s_Store_giveToLatestTargets {E : rb_EV} {d : Nat} (hdd : 0 ≤ d) (r0 : Option Nat) (x1 : Int32) (σ : rb_St) : rb_Does E k_Store_giveToLatestTargets d [va_rf r0, .int x1] σ (f_Store_giveToLatestTargets r0 x1 σ) := by
  refine rb_start (lv := [some (va_rf r0), some (.int x1), none, none]) (by decide) (by simp [lg_sl, rb_as, lv_args, rb_cat_r, rb_cat_i, rb_cat_l, rb_nL, k_Store_giveToLatestTargets]) (fun res => ?_)
  unfold f_Store_giveToLatestTargets
  refine rb_TC.mono (rk_iconst (0 : Int32) d_Store_giveToLatestTargets_0 (by decide)) ?_
  refine rb_TC.mono (rk_istore_n (lv2 := [some (va_rf r0), some (.int x1), some (.int (0 : Int32)), none]) 2 d_Store_giveToLatestTargets_1 rfl (by decide) (fun _ => rb_one_i) rfl) ?_
  exact rb_TC.loop2 (A := (fun z : (Int32 × rb_St) => rb_WK E k_Store_giveToLatestTargets d σ res 2 [some (va_rf r0), some (.int x1), some (.int z.1), none] [] z.2)) ((0 : Int32), σ) (fun z => t_Store_giveToLatestTargets_b2 hdd  (r0) (x1) (z.1) z.2)
-- ===== RuleBuilder$Store.find(LRuleBuilder$Text;II)LRuleBuilder$Name;
def k_Store_find : rb_MK := (⟨"RuleBuilder$Store", "find", "(LRuleBuilder$Text;II)LRuleBuilder$Name;"⟩, prog_10_method_4_code, 6, some (.object "RuleBuilder$Name"))
theorem mw_Store_find : rb_Mw k_Store_find 3 := ⟨rb_inG 868 (by decide +kernel) rfl, rb_inG 87 (by decide +kernel) rfl, ⟨by decide, by decide, by decide +kernel⟩, by decide⟩
theorem fw_Store_21 : rb_Fw "RuleBuilder$Store" 21 12 1 := ⟨_, rfl, by decide, by decide, by decide, rfl, rb_inG 881 (by decide +kernel) rfl⟩
theorem vw_Store_25 : rb_Vw "RuleBuilder$Store" 25 k_Str_length 14 0 := ⟨mw_Str_length, rb_inG 869 (by decide +kernel) rfl, rb_inG 590 (by decide +kernel) rfl, rb_inG 591 (by decide +kernel) rfl, by decide, by decide, _, rfl, rfl⟩
theorem vw_Store_31 : rb_Vw "RuleBuilder$Store" 31 k_Text_holds 2 5 := ⟨mw_Text_holds, rb_inG 870 (by decide +kernel) rfl, rb_inG 762 (by decide +kernel) rfl, rb_inG 763 (by decide +kernel) rfl, by decide, by decide, _, rfl, rfl⟩
theorem d_Store_find_0 : decode prog_10_method_4_code 0 = .ok (.iconst 0, 1) := by decide +kernel
theorem d_Store_find_1 : decode prog_10_method_4_code 1 = .ok (.istore 4, 2) := by decide +kernel
theorem d_Store_find_3 : decode prog_10_method_4_code 3 = .ok (.iload 4, 2) := by decide +kernel
theorem d_Store_find_5 : decode prog_10_method_4_code 5 = .ok (.aload_n 0, 1) := by decide +kernel
theorem d_Store_find_6 : decode prog_10_method_4_code 6 = .ok (.getfield 17, 3) := by decide +kernel
theorem d_Store_find_9 : decode prog_10_method_4_code 9 = .ok (.if_icmp .ge 46, 3) := by decide +kernel
theorem d_Store_find_12 : decode prog_10_method_4_code 12 = .ok (.aload_n 0, 1) := by decide +kernel
theorem d_Store_find_13 : decode prog_10_method_4_code 13 = .ok (.getfield 13, 3) := by decide +kernel
theorem d_Store_find_16 : decode prog_10_method_4_code 16 = .ok (.iload 4, 2) := by decide +kernel
theorem d_Store_find_18 : decode prog_10_method_4_code 18 = .ok (.aaload, 1) := by decide +kernel
theorem d_Store_find_19 : decode prog_10_method_4_code 19 = .ok (.getfield 21, 3) := by decide +kernel
theorem d_Store_find_22 : decode prog_10_method_4_code 22 = .ok (.astore 5, 2) := by decide +kernel
theorem d_Store_find_24 : decode prog_10_method_4_code 24 = .ok (.aload_n 1, 1) := by decide +kernel
theorem d_Store_find_25 : decode prog_10_method_4_code 25 = .ok (.iload_n 2, 1) := by decide +kernel
theorem d_Store_find_26 : decode prog_10_method_4_code 26 = .ok (.iload_n 3, 1) := by decide +kernel
theorem d_Store_find_27 : decode prog_10_method_4_code 27 = .ok (.aload 5, 2) := by decide +kernel
theorem d_Store_find_29 : decode prog_10_method_4_code 29 = .ok (.iconst 0, 1) := by decide +kernel
theorem d_Store_find_30 : decode prog_10_method_4_code 30 = .ok (.aload 5, 2) := by decide +kernel
theorem d_Store_find_32 : decode prog_10_method_4_code 32 = .ok (.invokevirtual 25, 3) := by decide +kernel
theorem d_Store_find_35 : decode prog_10_method_4_code 35 = .ok (.invokevirtual 31, 3) := by decide +kernel
theorem d_Store_find_38 : decode prog_10_method_4_code 38 = .ok (.ifCond .eq 11, 3) := by decide +kernel
theorem d_Store_find_41 : decode prog_10_method_4_code 41 = .ok (.aload_n 0, 1) := by decide +kernel
theorem d_Store_find_42 : decode prog_10_method_4_code 42 = .ok (.getfield 13, 3) := by decide +kernel
theorem d_Store_find_45 : decode prog_10_method_4_code 45 = .ok (.iload 4, 2) := by decide +kernel
theorem d_Store_find_47 : decode prog_10_method_4_code 47 = .ok (.aaload, 1) := by decide +kernel
theorem d_Store_find_48 : decode prog_10_method_4_code 48 = .ok (.areturn, 1) := by decide +kernel
theorem d_Store_find_49 : decode prog_10_method_4_code 49 = .ok (.iinc 4 1, 3) := by decide +kernel
theorem d_Store_find_52 : decode prog_10_method_4_code 52 = .ok (.goto (-49), 3) := by decide +kernel
theorem d_Store_find_55 : decode prog_10_method_4_code 55 = .ok (.aconst_null, 1) := by decide +kernel
theorem d_Store_find_56 : decode prog_10_method_4_code 56 = .ok (.areturn, 1) := by decide +kernel
noncomputable def f_Store_find_b3 (r0 : Option Nat) (r1 : Option Nat) (x2 : Int32) (x3 : Int32) (x4 : Int32) (σ : rb_St) : Option ((Int32 × rb_St) ⊕ rb_Rs) :=
  (rb_gI σ r0 3 1).bind fun x_1 => if x_1 ≤ x4 then ((some (some (va_rf none), σ)).map Sum.inr) else ((rb_gR σ r0 3 0).bind fun r_2 => (rb_aR σ r_2 112 x4).bind fun r_3 => (rb_gR σ r_3 12 1).bind fun r_4 => (rb_fc σ r_4 14).bind fun _ => rb_cI (f_Str_length (r_4)  σ) fun x_5 σ_6 => (rb_fc σ_6 r1 2).bind fun _ => rb_cI (f_Text_holds (r1) (x2) (x3) (r_4) ((0 : Int32)) (x_5) σ_6) fun x_7 σ_8 => if x_7 = 0 then (some (.inl ((x4 + 1), σ_8))) else (((rb_gR σ_8 r0 3 0).bind fun r_9 => (rb_aR σ_8 r_9 112 x4).bind fun r_10 => some (some (va_rf r_10), σ_8)).map Sum.inr))
theorem t_Store_find_b3 {E : rb_EV} {d : Nat} {σ0 : rb_St} {res : rb_Rs} (hdd : 5 ≤ d)  (r0 : Option Nat) (r1 : Option Nat) (x2 : Int32) (x3 : Int32) (x4 : Int32) (σ : rb_St) : rb_TC (f_Store_find_b3 r0 r1 x2 x3 x4 σ) (Sum.elim (fun z : (Int32 × rb_St) => rb_WK E k_Store_find d σ0 res 3 [some (va_rf r0), some (va_rf r1), some (.int x2), some (.int x3), some (.int z.1), none] [] z.2) (fun r => r = res)) (rb_WK E k_Store_find d σ0 res 3 [some (va_rf r0), some (va_rf r1), some (.int x2), some (.int x3), some (.int x4), none] [] σ) := by
  unfold f_Store_find_b3
  refine rb_TC.mono (rk_iload d_Store_find_3 rfl) ?_
  refine rb_TC.mono (rk_aload_n 0 d_Store_find_5 rfl rfl) ?_
  refine rt_gI r0 fw_Store_17 d_Store_find_6 (fun x_1 => ?_)
  refine rt_icmp_ge 55 d_Store_find_9 (by decide) (fun _ => ?_) (fun _ => ?_)
  · refine rb_TC.out ?_
    refine rb_TC.mono (rk_null d_Store_find_55) ?_
    exact rt_aret (ty := .object "RuleBuilder$Name") rfl (Or.inl ⟨_, rfl⟩) (fun h => h) d_Store_find_56
  · refine rb_TC.mono (rk_aload_n 0 d_Store_find_12 rfl rfl) ?_
    refine rt_gR r0 fw_Store_13 d_Store_find_13 (fun r_2 => ?_)
    refine rb_TC.mono (rk_iload d_Store_find_16 rfl) ?_
    refine rt_aald (t := 112) r_2 (by decide) d_Store_find_18 (fun r_3 => ?_)
    refine rt_gR r_3 fw_Store_21 d_Store_find_19 (fun r_4 => ?_)
    refine rb_TC.mono (rk_astore (lv2 := [some (va_rf r0), some (va_rf r1), some (.int x2), some (.int x3), some (.int x4), some (va_rf r_4)]) d_Store_find_22 (by decide) (fun _ => rb_one_i) rfl) ?_
    refine rb_TC.mono (rk_aload_n 1 d_Store_find_24 rfl rfl) ?_
    refine rb_TC.mono (rk_iload_n 2 d_Store_find_25 rfl rfl) ?_
    refine rb_TC.mono (rk_iload_n 3 d_Store_find_26 rfl rfl) ?_
    refine rb_TC.mono (rk_aload d_Store_find_27 rfl) ?_
    refine rb_TC.mono (rk_iconst (0 : Int32) d_Store_find_29 (by decide)) ?_
    refine rb_TC.mono (rk_aload d_Store_find_30 rfl) ?_
    refine rt_vI (As := []) (st := [.int (0 : Int32), va_rf r_4, .int x3, .int x2, va_rf r1]) (r_4) vw_Store_25 (s_Str_length (Nat.le_refl _) (r_4)  σ) (Nat.le_trans (by decide) hdd) rfl (by simp [rb_cat_r, rb_cat_i, rb_cat_l]) d_Store_find_32 (fun x_5 σ_6 => ?_)
    refine rt_vI (As := [.int x2, .int x3, va_rf r_4, .int (0 : Int32), .int x_5]) (st := []) (r1) vw_Store_31 (s_Text_holds (Nat.le_refl _) (r1) (x2) (x3) (r_4) ((0 : Int32)) (x_5) σ_6) (Nat.le_trans (by decide) hdd) rfl (by simp [rb_cat_r, rb_cat_i, rb_cat_l]) d_Store_find_35 (fun x_7 σ_8 => ?_)
    refine rt_if_eq 49 d_Store_find_38 (by decide) (fun _ => ?_) (fun _ => ?_)
    · refine rb_TC.mono (rk_iinc (lv2 := [some (va_rf r0), some (va_rf r1), some (.int x2), some (.int x3), some (.int (x4 + 1)), some (va_rf r_4)]) (x4 + 1) d_Store_find_49 rfl rfl (by decide) (fun _ => rb_one_i) rfl) ?_
      refine rb_TC.mono (rk_goto 3 d_Store_find_52 (by decide)) ?_
      refine rb_TC.mono (rk_less (lv2 := [some (va_rf r0), some (va_rf r1), some (.int x2), some (.int x3), some (.int (x4 + 1)), none]) (rb_le_ok (rb_leS (rb_leS (rb_leS (rb_leS (rb_leS (rb_leN rb_le0)))))))) ?_
      exact rb_back
    · refine rb_TC.out ?_
      refine rb_TC.mono (rk_aload_n 0 d_Store_find_41 rfl rfl) ?_
      refine rt_gR r0 fw_Store_13 d_Store_find_42 (fun r_9 => ?_)
      refine rb_TC.mono (rk_iload d_Store_find_45 rfl) ?_
      refine rt_aald (t := 112) r_9 (by decide) d_Store_find_47 (fun r_10 => ?_)
      exact rt_aret (ty := .object "RuleBuilder$Name") rfl (Or.inl ⟨_, rfl⟩) (fun h => h) d_Store_find_48
noncomputable def f_Store_find (r0 : Option Nat) (r1 : Option Nat) (x2 : Int32) (x3 : Int32) (σ : rb_St) : Option rb_Rs :=
  rb_it (fun z : (Int32 × rb_St) => f_Store_find_b3 (r0) (r1) (x2) (x3) (z.1) z.2) ((0 : Int32), σ)
theorem s_Store_find {E : rb_EV} {d : Nat} (hdd : 5 ≤ d) (r0 : Option Nat) (r1 : Option Nat) (x2 : Int32) (x3 : Int32) (σ : rb_St) : rb_Does E k_Store_find d [va_rf r0, va_rf r1, .int x2, .int x3] σ (f_Store_find r0 r1 x2 x3 σ) := by
  refine rb_start (lv := [some (va_rf r0), some (va_rf r1), some (.int x2), some (.int x3), none, none]) (by decide) (by simp [lg_sl, rb_as, lv_args, rb_cat_r, rb_cat_i, rb_cat_l, rb_nL, k_Store_find]) (fun res => ?_)
  unfold f_Store_find
  refine rb_TC.mono (rk_iconst (0 : Int32) d_Store_find_0 (by decide)) ?_
  refine rb_TC.mono (rk_istore (lv2 := [some (va_rf r0), some (va_rf r1), some (.int x2), some (.int x3), some (.int (0 : Int32)), none]) d_Store_find_1 (by decide) (fun _ => rb_one_i) rfl) ?_
  exact rb_TC.loop2 (A := (fun z : (Int32 × rb_St) => rb_WK E k_Store_find d σ res 3 [some (va_rf r0), some (va_rf r1), some (.int x2), some (.int x3), some (.int z.1), none] [] z.2)) ((0 : Int32), σ) (fun z => t_Store_find_b3 hdd  (r0) (r1) (x2) (x3) (z.1) z.2)
-- ===== RuleBuilder$Store.meet(LRuleBuilder$Text;II)LRuleBuilder$Name;
def k_Store_meet : rb_MK := (⟨"RuleBuilder$Store", "meet", "(LRuleBuilder$Text;II)LRuleBuilder$Name;"⟩, prog_10_method_5_code, 6, some (.object "RuleBuilder$Name"))
theorem mw_Store_meet : rb_Mw k_Store_meet 3 := ⟨rb_inG 864 (by decide +kernel) rfl, rb_inG 87 (by decide +kernel) rfl, ⟨by decide, by decide, by decide +kernel⟩, by decide⟩
theorem fp_Store_meet_17 : rb_Fp k_Store_meet 17 3 1 .int := ⟨fw_Store_17, rfl, fun q h => by cases h; exact Or.inl rfl⟩
theorem iw_Store_49 : rb_Iw "RuleBuilder$Store" 49 k_Name_init 2 := ⟨mw_Name_init, rfl, rfl, rb_inG 875 (by decide +kernel) rfl, Or.inl (rb_inG 874 (by decide +kernel) rfl)⟩
theorem ow_Store_11 : rb_Ow "RuleBuilder$Store" 11 12 := ⟨_, rfl, by decide, by decide, rb_inG 133 (by decide +kernel) rfl, rb_ins12, rb_ini12, rfl, by decide⟩
theorem vw_Store_37 : rb_Vw "RuleBuilder$Store" 37 k_Store_find 3 3 := ⟨mw_Store_find, rb_inG 865 (by decide +kernel) rfl, rb_inG 866 (by decide +kernel) rfl, rb_inG 867 (by decide +kernel) rfl, by decide, by decide, _, rfl, rfl⟩
theorem vw_Store_41 : rb_Vw "RuleBuilder$Store" 41 k_Text_isName 2 2 := ⟨mw_Text_isName, rb_inG 871 (by decide +kernel) rfl, rb_inG 846 (by decide +kernel) rfl, rb_inG 847 (by decide +kernel) rfl, by decide, by decide, _, rfl, rfl⟩
theorem vw_Store_45 : rb_Vw "RuleBuilder$Store" 45 k_Text_cut 2 2 := ⟨mw_Text_cut, rb_inG 873 (by decide +kernel) rfl, rb_inG 427 (by decide +kernel) rfl, rb_inG 428 (by decide +kernel) rfl, by decide, by decide, _, rfl, rfl⟩
theorem d_Store_meet_0 : decode prog_10_method_5_code 0 = .ok (.aload_n 0, 1) := by decide +kernel
theorem d_Store_meet_1 : decode prog_10_method_5_code 1 = .ok (.aload_n 1, 1) := by decide +kernel
theorem d_Store_meet_2 : decode prog_10_method_5_code 2 = .ok (.iload_n 2, 1) := by decide +kernel
theorem d_Store_meet_3 : decode prog_10_method_5_code 3 = .ok (.iload_n 3, 1) := by decide +kernel
theorem d_Store_meet_4 : decode prog_10_method_5_code 4 = .ok (.invokevirtual 37, 3) := by decide +kernel
theorem d_Store_meet_7 : decode prog_10_method_5_code 7 = .ok (.astore 4, 2) := by decide +kernel
theorem d_Store_meet_9 : decode prog_10_method_5_code 9 = .ok (.aload 4, 2) := by decide +kernel
theorem d_Store_meet_11 : decode prog_10_method_5_code 11 = .ok (.ifnonnull 21, 3) := by decide +kernel
theorem d_Store_meet_14 : decode prog_10_method_5_code 14 = .ok (.aload_n 0, 1) := by decide +kernel
theorem d_Store_meet_15 : decode prog_10_method_5_code 15 = .ok (.getfield 17, 3) := by decide +kernel
theorem d_Store_meet_18 : decode prog_10_method_5_code 18 = .ok (.bipush 32, 2) := by decide +kernel
theorem d_Store_meet_20 : decode prog_10_method_5_code 20 = .ok (.if_icmp .eq 12, 3) := by decide +kernel
theorem d_Store_meet_23 : decode prog_10_method_5_code 23 = .ok (.aload_n 1, 1) := by decide +kernel
theorem d_Store_meet_24 : decode prog_10_method_5_code 24 = .ok (.iload_n 2, 1) := by decide +kernel
theorem d_Store_meet_25 : decode prog_10_method_5_code 25 = .ok (.iload_n 3, 1) := by decide +kernel
theorem d_Store_meet_26 : decode prog_10_method_5_code 26 = .ok (.invokevirtual 41, 3) := by decide +kernel
theorem d_Store_meet_29 : decode prog_10_method_5_code 29 = .ok (.ifCond .ne 6, 3) := by decide +kernel
theorem d_Store_meet_32 : decode prog_10_method_5_code 32 = .ok (.aload 4, 2) := by decide +kernel
theorem d_Store_meet_34 : decode prog_10_method_5_code 34 = .ok (.areturn, 1) := by decide +kernel
theorem d_Store_meet_35 : decode prog_10_method_5_code 35 = .ok (.new 11, 3) := by decide +kernel
theorem d_Store_meet_38 : decode prog_10_method_5_code 38 = .ok (.dup, 1) := by decide +kernel
theorem d_Store_meet_39 : decode prog_10_method_5_code 39 = .ok (.aload_n 0, 1) := by decide +kernel
theorem d_Store_meet_40 : decode prog_10_method_5_code 40 = .ok (.getfield 17, 3) := by decide +kernel
theorem d_Store_meet_43 : decode prog_10_method_5_code 43 = .ok (.aload_n 1, 1) := by decide +kernel
theorem d_Store_meet_44 : decode prog_10_method_5_code 44 = .ok (.iload_n 2, 1) := by decide +kernel
theorem d_Store_meet_45 : decode prog_10_method_5_code 45 = .ok (.iload_n 3, 1) := by decide +kernel
theorem d_Store_meet_46 : decode prog_10_method_5_code 46 = .ok (.invokevirtual 45, 3) := by decide +kernel
theorem d_Store_meet_49 : decode prog_10_method_5_code 49 = .ok (.invokespecial 49, 3) := by decide +kernel
theorem d_Store_meet_52 : decode prog_10_method_5_code 52 = .ok (.astore 5, 2) := by decide +kernel
theorem d_Store_meet_54 : decode prog_10_method_5_code 54 = .ok (.aload_n 0, 1) := by decide +kernel
theorem d_Store_meet_55 : decode prog_10_method_5_code 55 = .ok (.getfield 13, 3) := by decide +kernel
theorem d_Store_meet_58 : decode prog_10_method_5_code 58 = .ok (.aload_n 0, 1) := by decide +kernel
theorem d_Store_meet_59 : decode prog_10_method_5_code 59 = .ok (.getfield 17, 3) := by decide +kernel
theorem d_Store_meet_62 : decode prog_10_method_5_code 62 = .ok (.aload 5, 2) := by decide +kernel
theorem d_Store_meet_64 : decode prog_10_method_5_code 64 = .ok (.aastore, 1) := by decide +kernel
theorem d_Store_meet_65 : decode prog_10_method_5_code 65 = .ok (.aload_n 0, 1) := by decide +kernel
theorem d_Store_meet_66 : decode prog_10_method_5_code 66 = .ok (.dup, 1) := by decide +kernel
theorem d_Store_meet_67 : decode prog_10_method_5_code 67 = .ok (.getfield 17, 3) := by decide +kernel
theorem d_Store_meet_70 : decode prog_10_method_5_code 70 = .ok (.iconst 1, 1) := by decide +kernel
theorem d_Store_meet_71 : decode prog_10_method_5_code 71 = .ok (.iadd, 1) := by decide +kernel
theorem d_Store_meet_72 : decode prog_10_method_5_code 72 = .ok (.putfield 17, 3) := by decide +kernel
theorem d_Store_meet_75 : decode prog_10_method_5_code 75 = .ok (.aload 5, 2) := by decide +kernel
theorem d_Store_meet_77 : decode prog_10_method_5_code 77 = .ok (.areturn, 1) := by decide +kernel
noncomputable def f_Store_meet (r0 : Option Nat) (r1 : Option Nat) (x2 : Int32) (x3 : Int32) (σ : rb_St) : Option rb_Rs :=
  (rb_fc σ r0 3).bind fun _ => rb_cR (f_Store_find (r0) (r1) (x2) (x3) σ) fun r_1 σ_2 => if r_1 = none then ((rb_gI σ_2 r0 3 1).bind fun x_3 => if x_3 = (32 : Int32) then (some (some (va_rf r_1), σ_2)) else ((rb_fc σ_2 r1 2).bind fun _ => rb_cI (f_Text_isName (r1) (x2) (x3) σ_2) fun x_4 σ_5 => if x_4 = 0 then (some (some (va_rf r_1), σ_5)) else ((rb_gI (rb_nO σ_5 12) r0 3 1).bind fun x_6 => (rb_fc (rb_nO σ_5 12) r1 2).bind fun _ => rb_cR (f_Text_cut (r1) (x2) (x3) (rb_nO σ_5 12)) fun r_7 σ_8 => rb_cV (f_Name_init ((rb_n σ_5)) (x_6) (r_7) σ_8) fun σ_9 => (rb_gR σ_9 r0 3 0).bind fun r_10 => (rb_gI σ_9 r0 3 1).bind fun x_11 => (rb_sR σ_9 r_10 112 x_11 (some (rb_n σ_5))).bind fun σ_12 => (rb_gI σ_12 r0 3 1).bind fun x_13 => (rb_pI σ_12 r0 3 1 (x_13 + (1 : Int32))).bind fun σ_14 => some (some (va_rf (some (rb_n σ_5))), σ_14)))) else (some (some (va_rf r_1), σ_2))
theorem s_Store_meet {E : rb_EV} {d : Nat} (hdd : 6 ≤ d) (r0 : Option Nat) (r1 : Option Nat) (x2 : Int32) (x3 : Int32) (σ : rb_St) : rb_Does E k_Store_meet d [va_rf r0, va_rf r1, .int x2, .int x3] σ (f_Store_meet r0 r1 x2 x3 σ) := by
  refine rb_start (lv := [some (va_rf r0), some (va_rf r1), some (.int x2), some (.int x3), none, none]) (by decide) (by simp [lg_sl, rb_as, lv_args, rb_cat_r, rb_cat_i, rb_cat_l, rb_nL, k_Store_meet]) (fun res => ?_)
  unfold f_Store_meet
  refine rb_TC.mono (rk_aload_n 0 d_Store_meet_0 rfl rfl) ?_
  refine rb_TC.mono (rk_aload_n 1 d_Store_meet_1 rfl rfl) ?_
  refine rb_TC.mono (rk_iload_n 2 d_Store_meet_2 rfl rfl) ?_
  refine rb_TC.mono (rk_iload_n 3 d_Store_meet_3 rfl rfl) ?_
  refine rt_vR (As := [va_rf r1, .int x2, .int x3]) (st := []) (r0) vw_Store_37 (s_Store_find (Nat.le_refl _) (r0) (r1) (x2) (x3) σ) (Nat.le_trans (by decide) hdd) rfl (by simp [rb_cat_r, rb_cat_i, rb_cat_l]) d_Store_meet_4 (fun r_1 σ_2 => ?_)
  refine rb_TC.mono (rk_astore (lv2 := [some (va_rf r0), some (va_rf r1), some (.int x2), some (.int x3), some (va_rf r_1), none]) d_Store_meet_7 (by decide) (fun _ => rb_one_i) rfl) ?_
  refine rb_TC.mono (rk_aload d_Store_meet_9 rfl) ?_
  refine rt_ifnonnull 32 d_Store_meet_11 (by decide) (fun _ => ?_) (fun _ => ?_)
  · refine rb_TC.mono (rk_aload_n 0 d_Store_meet_14 rfl rfl) ?_
    refine rt_gI r0 fw_Store_17 d_Store_meet_15 (fun x_3 => ?_)
    refine rb_TC.mono (rk_bipush (32 : Int32) d_Store_meet_18 (by decide)) ?_
    refine rt_icmp_eq 32 d_Store_meet_20 (by decide) (fun _ => ?_) (fun _ => ?_)
    · refine rb_TC.mono (rk_aload d_Store_meet_32 rfl) ?_
      exact rt_aret (ty := .object "RuleBuilder$Name") rfl (Or.inl ⟨_, rfl⟩) (fun h => h) d_Store_meet_34
    · refine rb_TC.mono (rk_aload_n 1 d_Store_meet_23 rfl rfl) ?_
      refine rb_TC.mono (rk_iload_n 2 d_Store_meet_24 rfl rfl) ?_
      refine rb_TC.mono (rk_iload_n 3 d_Store_meet_25 rfl rfl) ?_
      refine rt_vI (As := [.int x2, .int x3]) (st := []) (r1) vw_Store_41 (s_Text_isName (Nat.le_refl _) (r1) (x2) (x3) σ_2) (Nat.le_trans (by decide) hdd) rfl (by simp [rb_cat_r, rb_cat_i, rb_cat_l]) d_Store_meet_26 (fun x_4 σ_5 => ?_)
      refine rt_if_ne 35 d_Store_meet_29 (by decide) (fun _ => ?_) (fun _ => ?_)
      · refine rb_TC.mono (rk_aload d_Store_meet_32 rfl) ?_
        exact rt_aret (ty := .object "RuleBuilder$Name") rfl (Or.inl ⟨_, rfl⟩) (fun h => h) d_Store_meet_34
      · refine rb_TC.mono (rk_new ow_Store_11 d_Store_meet_35) ?_
        refine rb_TC.mono (rk_dupr d_Store_meet_38) ?_
        refine rb_TC.mono (rk_aload_n 0 d_Store_meet_39 rfl rfl) ?_
        refine rt_gI r0 fw_Store_17 d_Store_meet_40 (fun x_6 => ?_)
        refine rb_TC.mono (rk_aload_n 1 d_Store_meet_43 rfl rfl) ?_
        refine rb_TC.mono (rk_iload_n 2 d_Store_meet_44 rfl rfl) ?_
        refine rb_TC.mono (rk_iload_n 3 d_Store_meet_45 rfl rfl) ?_
        refine rt_vR (As := [.int x2, .int x3]) (st := [.int x_6, va_rf (some (rb_n σ_5)), va_rf (some (rb_n σ_5))]) (r1) vw_Store_45 (s_Text_cut (Nat.le_refl _) (r1) (x2) (x3) (rb_nO σ_5 12)) (Nat.le_trans (by decide) hdd) rfl (by simp [rb_cat_r, rb_cat_i, rb_cat_l]) d_Store_meet_46 (fun r_7 σ_8 => ?_)
        refine rt_i (As := [.int x_6, va_rf r_7]) (st := [va_rf (some (rb_n σ_5))]) iw_Store_49 (s_Name_init (Nat.le_refl _) ((rb_n σ_5)) (x_6) (r_7) σ_8) (Nat.le_trans (by decide) hdd) rfl (by simp [rb_cat_r, rb_cat_i, rb_cat_l]) d_Store_meet_49 (fun σ_9 => ?_)
        refine rb_TC.mono (rk_astore (lv2 := [some (va_rf r0), some (va_rf r1), some (.int x2), some (.int x3), some (va_rf r_1), some (va_rf (some (rb_n σ_5)))]) d_Store_meet_52 (by decide) (fun _ => rb_one_r) rfl) ?_
        refine rb_TC.mono (rk_aload_n 0 d_Store_meet_54 rfl rfl) ?_
        refine rt_gR r0 fw_Store_13 d_Store_meet_55 (fun r_10 => ?_)
        refine rb_TC.mono (rk_aload_n 0 d_Store_meet_58 rfl rfl) ?_
        refine rt_gI r0 fw_Store_17 d_Store_meet_59 (fun x_11 => ?_)
        refine rb_TC.mono (rk_aload d_Store_meet_62 rfl) ?_
        refine rt_aast (t := 112) r_10 (some (rb_n σ_5)) (by decide) d_Store_meet_64 (fun σ_12 => ?_)
        refine rb_TC.mono (rk_aload_n 0 d_Store_meet_65 rfl rfl) ?_
        refine rb_TC.mono (rk_dupr d_Store_meet_66) ?_
        refine rt_gI r0 fw_Store_17 d_Store_meet_67 (fun x_13 => ?_)
        refine rb_TC.mono (rk_iconst (1 : Int32) d_Store_meet_70 (by decide)) ?_
        refine rb_TC.mono (rk_iadd d_Store_meet_71) ?_
        refine rt_pI r0 fp_Store_meet_17 d_Store_meet_72 (fun σ_14 => ?_)
        refine rb_TC.mono (rk_aload d_Store_meet_75 rfl) ?_
        exact rt_aret (ty := .object "RuleBuilder$Name") rfl (Or.inl ⟨_, rfl⟩) (fun h => h) d_Store_meet_77
  · refine rb_TC.mono (rk_aload d_Store_meet_32 rfl) ?_
    exact rt_aret (ty := .object "RuleBuilder$Name") rfl (Or.inl ⟨_, rfl⟩) (fun h => h) d_Store_meet_34
-- ===== RuleBuilder$Store.forgetLatestTargets()V
def k_Store_forgetLatestTargets : rb_MK := (⟨"RuleBuilder$Store", "forgetLatestTargets", "()V"⟩, prog_10_method_9_code, 2, none)
theorem mw_Store_forgetLatestTargets : rb_Mw k_Store_forgetLatestTargets 0 := ⟨rb_inG 987 (by decide +kernel) rfl, rb_inG 87 (by decide +kernel) rfl, ⟨by decide, by decide, by decide +kernel⟩, by decide⟩
theorem fp_Store_forgetLatestTargets_67 : rb_Fp k_Store_forgetLatestTargets 67 12 8 .boolean := ⟨fw_Store_67, rfl, fun q h => by cases h; exact Or.inl rfl⟩
theorem d_Store_forgetLatestTargets_0 : decode prog_10_method_9_code 0 = .ok (.iconst 0, 1) := by decide +kernel
theorem d_Store_forgetLatestTargets_1 : decode prog_10_method_9_code 1 = .ok (.istore_n 1, 1) := by decide +kernel
theorem d_Store_forgetLatestTargets_2 : decode prog_10_method_9_code 2 = .ok (.iload_n 1, 1) := by decide +kernel
theorem d_Store_forgetLatestTargets_3 : decode prog_10_method_9_code 3 = .ok (.aload_n 0, 1) := by decide +kernel
theorem d_Store_forgetLatestTargets_4 : decode prog_10_method_9_code 4 = .ok (.getfield 17, 3) := by decide +kernel
theorem d_Store_forgetLatestTargets_7 : decode prog_10_method_9_code 7 = .ok (.if_icmp .ge 19, 3) := by decide +kernel
theorem d_Store_forgetLatestTargets_10 : decode prog_10_method_9_code 10 = .ok (.aload_n 0, 1) := by decide +kernel
theorem d_Store_forgetLatestTargets_11 : decode prog_10_method_9_code 11 = .ok (.getfield 13, 3) := by decide +kernel
theorem d_Store_forgetLatestTargets_14 : decode prog_10_method_9_code 14 = .ok (.iload_n 1, 1) := by decide +kernel
theorem d_Store_forgetLatestTargets_15 : decode prog_10_method_9_code 15 = .ok (.aaload, 1) := by decide +kernel
theorem d_Store_forgetLatestTargets_16 : decode prog_10_method_9_code 16 = .ok (.iconst 0, 1) := by decide +kernel
theorem d_Store_forgetLatestTargets_17 : decode prog_10_method_9_code 17 = .ok (.putfield 67, 3) := by decide +kernel
theorem d_Store_forgetLatestTargets_20 : decode prog_10_method_9_code 20 = .ok (.iinc 1 1, 3) := by decide +kernel
theorem d_Store_forgetLatestTargets_23 : decode prog_10_method_9_code 23 = .ok (.goto (-21), 3) := by decide +kernel
theorem d_Store_forgetLatestTargets_26 : decode prog_10_method_9_code 26 = .ok (.return_, 1) := by decide +kernel
noncomputable def f_Store_forgetLatestTargets_b2 (r0 : Option Nat) (x1 : Int32) (σ : rb_St) : Option ((Int32 × rb_St) ⊕ rb_Rs) :=
  (rb_gI σ r0 3 1).bind fun x_1 => if x_1 ≤ x1 then ((some (none, σ)).map Sum.inr) else ((rb_gR σ r0 3 0).bind fun r_2 => (rb_aR σ r_2 112 x1).bind fun r_3 => (rb_pZ σ r_3 12 8 (0 : Int32)).bind fun σ_4 => some (.inl ((x1 + 1), σ_4)))
theorem t_Store_forgetLatestTargets_b2 {E : rb_EV} {d : Nat} {σ0 : rb_St} {res : rb_Rs} (hdd : 0 ≤ d)  (r0 : Option Nat) (x1 : Int32) (σ : rb_St) : rb_TC (f_Store_forgetLatestTargets_b2 r0 x1 σ) (Sum.elim (fun z : (Int32 × rb_St) => rb_WK E k_Store_forgetLatestTargets d σ0 res 2 [some (va_rf r0), some (.int z.1)] [] z.2) (fun r => r = res)) (rb_WK E k_Store_forgetLatestTargets d σ0 res 2 [some (va_rf r0), some (.int x1)] [] σ) := by
  unfold f_Store_forgetLatestTargets_b2
  refine rb_TC.mono (rk_iload_n 1 d_Store_forgetLatestTargets_2 rfl rfl) ?_
  refine rb_TC.mono (rk_aload_n 0 d_Store_forgetLatestTargets_3 rfl rfl) ?_
  refine rt_gI r0 fw_Store_17 d_Store_forgetLatestTargets_4 (fun x_1 => ?_)
  refine rt_icmp_ge 26 d_Store_forgetLatestTargets_7 (by decide) (fun _ => ?_) (fun _ => ?_)
  · refine rb_TC.out ?_
    exact rt_vret rfl (fun h => h) d_Store_forgetLatestTargets_26
  · refine rb_TC.mono (rk_aload_n 0 d_Store_forgetLatestTargets_10 rfl rfl) ?_
    refine rt_gR r0 fw_Store_13 d_Store_forgetLatestTargets_11 (fun r_2 => ?_)
    refine rb_TC.mono (rk_iload_n 1 d_Store_forgetLatestTargets_14 rfl rfl) ?_
    refine rt_aald (t := 112) r_2 (by decide) d_Store_forgetLatestTargets_15 (fun r_3 => ?_)
    refine rb_TC.mono (rk_iconst (0 : Int32) d_Store_forgetLatestTargets_16 (by decide)) ?_
    refine rt_pZ r_3 fp_Store_forgetLatestTargets_67 d_Store_forgetLatestTargets_17 (fun σ_4 => ?_)
    refine rb_TC.mono (rk_iinc (lv2 := [some (va_rf r0), some (.int (x1 + 1))]) (x1 + 1) d_Store_forgetLatestTargets_20 rfl rfl (by decide) (fun _ => rb_one_r) rfl) ?_
    refine rb_TC.mono (rk_goto 2 d_Store_forgetLatestTargets_23 (by decide)) ?_
    exact rb_back
noncomputable def f_Store_forgetLatestTargets (r0 : Option Nat) (σ : rb_St) : Option rb_Rs :=
  rb_it (fun z : (Int32 × rb_St) => f_Store_forgetLatestTargets_b2 (r0) (z.1) z.2) ((0 : Int32), σ)
theorem s_Store_forgetLatestTargets {E : rb_EV} {d : Nat} (hdd : 0 ≤ d) (r0 : Option Nat) (σ : rb_St) : rb_Does E k_Store_forgetLatestTargets d [va_rf r0] σ (f_Store_forgetLatestTargets r0 σ) := by
  refine rb_start (lv := [some (va_rf r0), none]) (by decide) (by simp [lg_sl, rb_as, lv_args, rb_cat_r, rb_cat_i, rb_cat_l, rb_nL, k_Store_forgetLatestTargets]) (fun res => ?_)
  unfold f_Store_forgetLatestTargets
  refine rb_TC.mono (rk_iconst (0 : Int32) d_Store_forgetLatestTargets_0 (by decide)) ?_
  refine rb_TC.mono (rk_istore_n (lv2 := [some (va_rf r0), some (.int (0 : Int32))]) 1 d_Store_forgetLatestTargets_1 rfl (by decide) (fun _ => rb_one_r) rfl) ?_
  exact rb_TC.loop2 (A := (fun z : (Int32 × rb_St) => rb_WK E k_Store_forgetLatestTargets d σ res 2 [some (va_rf r0), some (.int z.1)] [] z.2)) ((0 : Int32), σ) (fun z => t_Store_forgetLatestTargets_b2 hdd  (r0) (z.1) z.2)
-- ===== RuleBuilder$Store.write(LRuleBuilder$Name;I)V
def k_Store_write : rb_MK := (⟨"RuleBuilder$Store", "write", "(LRuleBuilder$Name;I)V"⟩, prog_10_method_6_code, 3, none)
theorem mw_Store_write : rb_Mw k_Store_write 2 := ⟨rb_inG 1000 (by decide +kernel) rfl, rb_inG 87 (by decide +kernel) rfl, ⟨by decide, by decide, by decide +kernel⟩, by decide⟩
theorem fw_Store_52 : rb_Fw "RuleBuilder$Store" 52 3 2 := ⟨_, rfl, by decide, by decide, by decide, rfl, rb_inG 137 (by decide +kernel) rfl⟩
theorem fp_Store_write_52 : rb_Fp k_Store_write 52 3 2 .int := ⟨fw_Store_52, rfl, fun q h => by cases h; exact Or.inl rfl⟩
theorem fw_Store_55 : rb_Fw "RuleBuilder$Store" 55 12 2 := ⟨_, rfl, by decide, by decide, by decide, rfl, rb_inG 886 (by decide +kernel) rfl⟩
theorem fp_Store_write_55 : rb_Fp k_Store_write 55 12 2 .int := ⟨fw_Store_55, rfl, fun q h => by cases h; exact Or.inl rfl⟩
theorem fw_Store_58 : rb_Fw "RuleBuilder$Store" 58 12 3 := ⟨_, rfl, by decide, by decide, by decide, rfl, rb_inG 890 (by decide +kernel) rfl⟩
theorem fp_Store_write_58 : rb_Fp k_Store_write 58 12 3 .int := ⟨fw_Store_58, rfl, fun q h => by cases h; exact Or.inl rfl⟩
theorem d_Store_write_0 : decode prog_10_method_6_code 0 = .ok (.aload_n 0, 1) := by decide +kernel
theorem d_Store_write_1 : decode prog_10_method_6_code 1 = .ok (.dup, 1) := by decide +kernel
theorem d_Store_write_2 : decode prog_10_method_6_code 2 = .ok (.getfield 52, 3) := by decide +kernel
theorem d_Store_write_5 : decode prog_10_method_6_code 5 = .ok (.iconst 1, 1) := by decide +kernel
theorem d_Store_write_6 : decode prog_10_method_6_code 6 = .ok (.iadd, 1) := by decide +kernel
theorem d_Store_write_7 : decode prog_10_method_6_code 7 = .ok (.putfield 52, 3) := by decide +kernel
theorem d_Store_write_10 : decode prog_10_method_6_code 10 = .ok (.aload_n 1, 1) := by decide +kernel
theorem d_Store_write_11 : decode prog_10_method_6_code 11 = .ok (.aload_n 0, 1) := by decide +kernel
theorem d_Store_write_12 : decode prog_10_method_6_code 12 = .ok (.getfield 52, 3) := by decide +kernel
theorem d_Store_write_15 : decode prog_10_method_6_code 15 = .ok (.putfield 55, 3) := by decide +kernel
theorem d_Store_write_18 : decode prog_10_method_6_code 18 = .ok (.aload_n 1, 1) := by decide +kernel
theorem d_Store_write_19 : decode prog_10_method_6_code 19 = .ok (.iload_n 2, 1) := by decide +kernel
theorem d_Store_write_20 : decode prog_10_method_6_code 20 = .ok (.putfield 58, 3) := by decide +kernel
theorem d_Store_write_23 : decode prog_10_method_6_code 23 = .ok (.return_, 1) := by decide +kernel
noncomputable def f_Store_write (r0 : Option Nat) (r1 : Option Nat) (x2 : Int32) (σ : rb_St) : Option rb_Rs :=
  (rb_gI σ r0 3 2).bind fun x_1 => (rb_pI σ r0 3 2 (x_1 + (1 : Int32))).bind fun σ_2 => (rb_gI σ_2 r0 3 2).bind fun x_3 => (rb_pI σ_2 r1 12 2 x_3).bind fun σ_4 => (rb_pI σ_4 r1 12 3 x2).bind fun σ_5 => some (none, σ_5)
theorem s_Store_write {E : rb_EV} {d : Nat} (hdd : 0 ≤ d) (r0 : Option Nat) (r1 : Option Nat) (x2 : Int32) (σ : rb_St) : rb_Does E k_Store_write d [va_rf r0, va_rf r1, .int x2] σ (f_Store_write r0 r1 x2 σ) := by
  refine rb_start (lv := [some (va_rf r0), some (va_rf r1), some (.int x2)]) (by decide) (by simp [lg_sl, rb_as, lv_args, rb_cat_r, rb_cat_i, rb_cat_l, rb_nL, k_Store_write]) (fun res => ?_)
  unfold f_Store_write
  refine rb_TC.mono (rk_aload_n 0 d_Store_write_0 rfl rfl) ?_
  refine rb_TC.mono (rk_dupr d_Store_write_1) ?_
  refine rt_gI r0 fw_Store_52 d_Store_write_2 (fun x_1 => ?_)
  refine rb_TC.mono (rk_iconst (1 : Int32) d_Store_write_5 (by decide)) ?_
  refine rb_TC.mono (rk_iadd d_Store_write_6) ?_
  refine rt_pI r0 fp_Store_write_52 d_Store_write_7 (fun σ_2 => ?_)
  refine rb_TC.mono (rk_aload_n 1 d_Store_write_10 rfl rfl) ?_
  refine rb_TC.mono (rk_aload_n 0 d_Store_write_11 rfl rfl) ?_
  refine rt_gI r0 fw_Store_52 d_Store_write_12 (fun x_3 => ?_)
  refine rt_pI r1 fp_Store_write_55 d_Store_write_15 (fun σ_4 => ?_)
  refine rb_TC.mono (rk_aload_n 1 d_Store_write_18 rfl rfl) ?_
  refine rb_TC.mono (rk_iload_n 2 d_Store_write_19 rfl rfl) ?_
  refine rt_pI r1 fp_Store_write_58 d_Store_write_20 (fun σ_5 => ?_)
  exact rt_vret rfl (fun h => h) d_Store_write_23
-- ===== RuleBuilder$Store.forgetFates()V
def k_Store_forgetFates : rb_MK := (⟨"RuleBuilder$Store", "forgetFates", "()V"⟩, prog_10_method_8_code, 2, none)
theorem mw_Store_forgetFates : rb_Mw k_Store_forgetFates 0 := ⟨rb_inG 1026 (by decide +kernel) rfl, rb_inG 87 (by decide +kernel) rfl, ⟨by decide, by decide, by decide +kernel⟩, by decide⟩
theorem fw_Store_64 : rb_Fw "RuleBuilder$Store" 64 12 10 := ⟨_, rfl, by decide, by decide, by decide, rfl, rb_inG 913 (by decide +kernel) rfl⟩
theorem fp_Store_forgetFates_64 : rb_Fp k_Store_forgetFates 64 12 10 .int := ⟨fw_Store_64, rfl, fun q h => by cases h; exact Or.inl rfl⟩
theorem d_Store_forgetFates_0 : decode prog_10_method_8_code 0 = .ok (.iconst 0, 1) := by decide +kernel
theorem d_Store_forgetFates_1 : decode prog_10_method_8_code 1 = .ok (.istore_n 1, 1) := by decide +kernel
theorem d_Store_forgetFates_2 : decode prog_10_method_8_code 2 = .ok (.iload_n 1, 1) := by decide +kernel
theorem d_Store_forgetFates_3 : decode prog_10_method_8_code 3 = .ok (.aload_n 0, 1) := by decide +kernel
theorem d_Store_forgetFates_4 : decode prog_10_method_8_code 4 = .ok (.getfield 17, 3) := by decide +kernel
theorem d_Store_forgetFates_7 : decode prog_10_method_8_code 7 = .ok (.if_icmp .ge 19, 3) := by decide +kernel
theorem d_Store_forgetFates_10 : decode prog_10_method_8_code 10 = .ok (.aload_n 0, 1) := by decide +kernel
theorem d_Store_forgetFates_11 : decode prog_10_method_8_code 11 = .ok (.getfield 13, 3) := by decide +kernel
theorem d_Store_forgetFates_14 : decode prog_10_method_8_code 14 = .ok (.iload_n 1, 1) := by decide +kernel
theorem d_Store_forgetFates_15 : decode prog_10_method_8_code 15 = .ok (.aaload, 1) := by decide +kernel
theorem d_Store_forgetFates_16 : decode prog_10_method_8_code 16 = .ok (.iconst 0, 1) := by decide +kernel
theorem d_Store_forgetFates_17 : decode prog_10_method_8_code 17 = .ok (.putfield 64, 3) := by decide +kernel
theorem d_Store_forgetFates_20 : decode prog_10_method_8_code 20 = .ok (.iinc 1 1, 3) := by decide +kernel
theorem d_Store_forgetFates_23 : decode prog_10_method_8_code 23 = .ok (.goto (-21), 3) := by decide +kernel
theorem d_Store_forgetFates_26 : decode prog_10_method_8_code 26 = .ok (.return_, 1) := by decide +kernel
noncomputable def f_Store_forgetFates_b2 (r0 : Option Nat) (x1 : Int32) (σ : rb_St) : Option ((Int32 × rb_St) ⊕ rb_Rs) :=
  (rb_gI σ r0 3 1).bind fun x_1 => if x_1 ≤ x1 then ((some (none, σ)).map Sum.inr) else ((rb_gR σ r0 3 0).bind fun r_2 => (rb_aR σ r_2 112 x1).bind fun r_3 => (rb_pI σ r_3 12 10 (0 : Int32)).bind fun σ_4 => some (.inl ((x1 + 1), σ_4)))
theorem t_Store_forgetFates_b2 {E : rb_EV} {d : Nat} {σ0 : rb_St} {res : rb_Rs} (hdd : 0 ≤ d)  (r0 : Option Nat) (x1 : Int32) (σ : rb_St) : rb_TC (f_Store_forgetFates_b2 r0 x1 σ) (Sum.elim (fun z : (Int32 × rb_St) => rb_WK E k_Store_forgetFates d σ0 res 2 [some (va_rf r0), some (.int z.1)] [] z.2) (fun r => r = res)) (rb_WK E k_Store_forgetFates d σ0 res 2 [some (va_rf r0), some (.int x1)] [] σ) := by
  unfold f_Store_forgetFates_b2
  refine rb_TC.mono (rk_iload_n 1 d_Store_forgetFates_2 rfl rfl) ?_
  refine rb_TC.mono (rk_aload_n 0 d_Store_forgetFates_3 rfl rfl) ?_
  refine rt_gI r0 fw_Store_17 d_Store_forgetFates_4 (fun x_1 => ?_)
  refine rt_icmp_ge 26 d_Store_forgetFates_7 (by decide) (fun _ => ?_) (fun _ => ?_)
  · refine rb_TC.out ?_
    exact rt_vret rfl (fun h => h) d_Store_forgetFates_26
  · refine rb_TC.mono (rk_aload_n 0 d_Store_forgetFates_10 rfl rfl) ?_
    refine rt_gR r0 fw_Store_13 d_Store_forgetFates_11 (fun r_2 => ?_)
    refine rb_TC.mono (rk_iload_n 1 d_Store_forgetFates_14 rfl rfl) ?_
    refine rt_aald (t := 112) r_2 (by decide) d_Store_forgetFates_15 (fun r_3 => ?_)
    refine rb_TC.mono (rk_iconst (0 : Int32) d_Store_forgetFates_16 (by decide)) ?_
    refine rt_pI r_3 fp_Store_forgetFates_64 d_Store_forgetFates_17 (fun σ_4 => ?_)
    refine rb_TC.mono (rk_iinc (lv2 := [some (va_rf r0), some (.int (x1 + 1))]) (x1 + 1) d_Store_forgetFates_20 rfl rfl (by decide) (fun _ => rb_one_r) rfl) ?_
    refine rb_TC.mono (rk_goto 2 d_Store_forgetFates_23 (by decide)) ?_
    exact rb_back
noncomputable def f_Store_forgetFates (r0 : Option Nat) (σ : rb_St) : Option rb_Rs :=
  rb_it (fun z : (Int32 × rb_St) => f_Store_forgetFates_b2 (r0) (z.1) z.2) ((0 : Int32), σ)
theorem s_Store_forgetFates {E : rb_EV} {d : Nat} (hdd : 0 ≤ d) (r0 : Option Nat) (σ : rb_St) : rb_Does E k_Store_forgetFates d [va_rf r0] σ (f_Store_forgetFates r0 σ) := by
  refine rb_start (lv := [some (va_rf r0), none]) (by decide) (by simp [lg_sl, rb_as, lv_args, rb_cat_r, rb_cat_i, rb_cat_l, rb_nL, k_Store_forgetFates]) (fun res => ?_)
  unfold f_Store_forgetFates
  refine rb_TC.mono (rk_iconst (0 : Int32) d_Store_forgetFates_0 (by decide)) ?_
  refine rb_TC.mono (rk_istore_n (lv2 := [some (va_rf r0), some (.int (0 : Int32))]) 1 d_Store_forgetFates_1 rfl (by decide) (fun _ => rb_one_r) rfl) ?_
  exact rb_TC.loop2 (A := (fun z : (Int32 × rb_St) => rb_WK E k_Store_forgetFates d σ res 2 [some (va_rf r0), some (.int z.1)] [] z.2)) ((0 : Int32), σ) (fun z => t_Store_forgetFates_b2 hdd  (r0) (z.1) z.2)
-- ===== RuleBuilder$Store.count()I
def k_Store_count : rb_MK := (⟨"RuleBuilder$Store", "count", "()I"⟩, prog_10_method_2_code, 1, some (.int))
theorem mw_Store_count : rb_Mw k_Store_count 0 := ⟨rb_inG 1175 (by decide +kernel) rfl, rb_inG 87 (by decide +kernel) rfl, ⟨by decide, by decide, by decide +kernel⟩, by decide⟩
theorem d_Store_count_0 : decode prog_10_method_2_code 0 = .ok (.aload_n 0, 1) := by decide +kernel
theorem d_Store_count_1 : decode prog_10_method_2_code 1 = .ok (.getfield 17, 3) := by decide +kernel
theorem d_Store_count_4 : decode prog_10_method_2_code 4 = .ok (.ireturn, 1) := by decide +kernel
noncomputable def f_Store_count (r0 : Option Nat) (σ : rb_St) : Option rb_Rs :=
  (rb_gI σ r0 3 1).bind fun x_1 => some (some (.int x_1), σ)
theorem s_Store_count {E : rb_EV} {d : Nat} (hdd : 0 ≤ d) (r0 : Option Nat) (σ : rb_St) : rb_Does E k_Store_count d [va_rf r0] σ (f_Store_count r0 σ) := by
  refine rb_start (lv := [some (va_rf r0)]) (by decide) (by simp [lg_sl, rb_as, lv_args, rb_cat_r, rb_cat_i, rb_cat_l, rb_nL, k_Store_count]) (fun res => ?_)
  unfold f_Store_count
  refine rb_TC.mono (rk_aload_n 0 d_Store_count_0 rfl rfl) ?_
  refine rt_gI r0 fw_Store_17 d_Store_count_1 (fun x_1 => ?_)
  exact rt_iret (ty := .int) rfl rfl (fun h => h) d_Store_count_4
-- ===== RuleBuilder$Store.at(I)LRuleBuilder$Name;
def k_Store_at : rb_MK := (⟨"RuleBuilder$Store", "at", "(I)LRuleBuilder$Name;"⟩, prog_10_method_3_code, 2, some (.object "RuleBuilder$Name"))
theorem mw_Store_at : rb_Mw k_Store_at 1 := ⟨rb_inG 1183 (by decide +kernel) rfl, rb_inG 87 (by decide +kernel) rfl, ⟨by decide, by decide, by decide +kernel⟩, by decide⟩
theorem d_Store_at_0 : decode prog_10_method_3_code 0 = .ok (.iload_n 1, 1) := by decide +kernel
theorem d_Store_at_1 : decode prog_10_method_3_code 1 = .ok (.ifCond .lt 11, 3) := by decide +kernel
theorem d_Store_at_4 : decode prog_10_method_3_code 4 = .ok (.iload_n 1, 1) := by decide +kernel
theorem d_Store_at_5 : decode prog_10_method_3_code 5 = .ok (.aload_n 0, 1) := by decide +kernel
theorem d_Store_at_6 : decode prog_10_method_3_code 6 = .ok (.getfield 17, 3) := by decide +kernel
theorem d_Store_at_9 : decode prog_10_method_3_code 9 = .ok (.if_icmp .lt 7, 3) := by decide +kernel
theorem d_Store_at_12 : decode prog_10_method_3_code 12 = .ok (.aconst_null, 1) := by decide +kernel
theorem d_Store_at_13 : decode prog_10_method_3_code 13 = .ok (.goto 9, 3) := by decide +kernel
theorem d_Store_at_16 : decode prog_10_method_3_code 16 = .ok (.aload_n 0, 1) := by decide +kernel
theorem d_Store_at_17 : decode prog_10_method_3_code 17 = .ok (.getfield 13, 3) := by decide +kernel
theorem d_Store_at_20 : decode prog_10_method_3_code 20 = .ok (.iload_n 1, 1) := by decide +kernel
theorem d_Store_at_21 : decode prog_10_method_3_code 21 = .ok (.aaload, 1) := by decide +kernel
theorem d_Store_at_22 : decode prog_10_method_3_code 22 = .ok (.areturn, 1) := by decide +kernel
noncomputable def f_Store_at (r0 : Option Nat) (x1 : Int32) (σ : rb_St) : Option rb_Rs :=
  if x1 < 0 then (some (some (va_rf none), σ)) else ((rb_gI σ r0 3 1).bind fun x_1 => if x1 < x_1 then ((rb_gR σ r0 3 0).bind fun r_2 => (rb_aR σ r_2 112 x1).bind fun r_3 => some (some (va_rf r_3), σ)) else (some (some (va_rf none), σ)))
theorem s_Store_at {E : rb_EV} {d : Nat} (hdd : 0 ≤ d) (r0 : Option Nat) (x1 : Int32) (σ : rb_St) : rb_Does E k_Store_at d [va_rf r0, .int x1] σ (f_Store_at r0 x1 σ) := by
  refine rb_start (lv := [some (va_rf r0), some (.int x1)]) (by decide) (by simp [lg_sl, rb_as, lv_args, rb_cat_r, rb_cat_i, rb_cat_l, rb_nL, k_Store_at]) (fun res => ?_)
  unfold f_Store_at
  refine rb_TC.mono (rk_iload_n 1 d_Store_at_0 rfl rfl) ?_
  refine rt_if_lt 12 d_Store_at_1 (by decide) (fun _ => ?_) (fun _ => ?_)
  · refine rb_TC.mono (rk_null d_Store_at_12) ?_
    refine rb_TC.mono (rk_goto 22 d_Store_at_13 (by decide)) ?_
    exact rt_aret (ty := .object "RuleBuilder$Name") rfl (Or.inl ⟨_, rfl⟩) (fun h => h) d_Store_at_22
  · refine rb_TC.mono (rk_iload_n 1 d_Store_at_4 rfl rfl) ?_
    refine rb_TC.mono (rk_aload_n 0 d_Store_at_5 rfl rfl) ?_
    refine rt_gI r0 fw_Store_17 d_Store_at_6 (fun x_1 => ?_)
    refine rt_icmp_lt 16 d_Store_at_9 (by decide) (fun _ => ?_) (fun _ => ?_)
    · refine rb_TC.mono (rk_aload_n 0 d_Store_at_16 rfl rfl) ?_
      refine rt_gR r0 fw_Store_13 d_Store_at_17 (fun r_2 => ?_)
      refine rb_TC.mono (rk_iload_n 1 d_Store_at_20 rfl rfl) ?_
      refine rt_aald (t := 112) r_2 (by decide) d_Store_at_21 (fun r_3 => ?_)
      exact rt_aret (ty := .object "RuleBuilder$Name") rfl (Or.inl ⟨_, rfl⟩) (fun h => h) d_Store_at_22
    · refine rb_TC.mono (rk_null d_Store_at_12) ?_
      refine rb_TC.mono (rk_goto 22 d_Store_at_13 (by decide)) ?_
      exact rt_aret (ty := .object "RuleBuilder$Name") rfl (Or.inl ⟨_, rfl⟩) (fun h => h) d_Store_at_22
-- ===== RuleBuilder$Words.<init>(LRuleBuilder$Text;)V
def k_Words_init : rb_MK := (⟨"RuleBuilder$Words", "<init>", "(LRuleBuilder$Text;)V"⟩, prog_12_method_1_code, 2, none)
theorem mw_Words_init : rb_Mw k_Words_init 1 := ⟨rb_inG 256 (by decide +kernel) rfl, rb_inG 90 (by decide +kernel) rfl, ⟨by decide, by decide, by decide +kernel⟩, by decide⟩
theorem w_ac_int : Cond.arrayClass (newarray.typeOf .int) ∈ rb_G := rb_inG 216 (by decide +kernel) rfl
theorem w_cl_Words_18 : Cond.classLink "RuleBuilder$Words" 18 "RuleBuilder$Name" ∈ rb_G := rb_inG 258 (by decide +kernel) rfl
theorem fw_Words_11 : rb_Fw "RuleBuilder$Words" 11 6 1 := ⟨_, rfl, by decide, by decide, by decide, rfl, rb_inG 260 (by decide +kernel) rfl⟩
theorem fp_Words_init_11 : rb_Fp k_Words_init 11 6 1 (.array .int) ∧ ((∃ n, (.array .int : FieldType) = .object n) ∨ ∃ t, (.array .int : FieldType) = .array t) := ⟨⟨fw_Words_11, rfl, fun q h => by cases h; exact Or.inr ⟨rfl, rfl, rfl⟩⟩, Or.inr ⟨_, rfl⟩⟩
theorem fw_Words_15 : rb_Fw "RuleBuilder$Words" 15 6 2 := ⟨_, rfl, by decide, by decide, by decide, rfl, rb_inG 261 (by decide +kernel) rfl⟩
theorem fp_Words_init_15 : rb_Fp k_Words_init 15 6 2 (.array .int) ∧ ((∃ n, (.array .int : FieldType) = .object n) ∨ ∃ t, (.array .int : FieldType) = .array t) := ⟨⟨fw_Words_15, rfl, fun q h => by cases h; exact Or.inr ⟨rfl, rfl, rfl⟩⟩, Or.inr ⟨_, rfl⟩⟩
theorem fw_Words_20 : rb_Fw "RuleBuilder$Words" 20 6 3 := ⟨_, rfl, by decide, by decide, by decide, rfl, rb_inG 262 (by decide +kernel) rfl⟩
theorem fp_Words_init_20 : rb_Fp k_Words_init 20 6 3 (.array (.object "RuleBuilder$Name")) ∧ ((∃ n, (.array (.object "RuleBuilder$Name") : FieldType) = .object n) ∨ ∃ t, (.array (.object "RuleBuilder$Name") : FieldType) = .array t) := ⟨⟨fw_Words_20, rfl, fun q h => by cases h; exact Or.inr ⟨rfl, rfl, rfl⟩⟩, Or.inr ⟨_, rfl⟩⟩
theorem fw_Words_24 : rb_Fw "RuleBuilder$Words" 24 6 0 := ⟨_, rfl, by decide, by decide, by decide, rfl, rb_inG 259 (by decide +kernel) rfl⟩
theorem fp_Words_init_24 : rb_Fp k_Words_init 24 6 0 (.object "RuleBuilder$Text") ∧ ((∃ n, (.object "RuleBuilder$Text" : FieldType) = .object n) ∨ ∃ t, (.object "RuleBuilder$Text" : FieldType) = .array t) := ⟨⟨fw_Words_24, rfl, fun q h => by cases h; exact Or.inr ⟨rfl, rfl, rfl⟩⟩, Or.inl ⟨_, rfl⟩⟩
theorem w_ml_Words_3 : Cond.methodLink "RuleBuilder$Words" 3 Lib.objectInit ∈ rb_G := rb_inG 257 (by decide +kernel) rfl
theorem d_Words_init_0 : decode prog_12_method_1_code 0 = .ok (.aload_n 0, 1) := by decide +kernel
theorem d_Words_init_1 : decode prog_12_method_1_code 1 = .ok (.invokespecial 3, 3) := by decide +kernel
theorem d_Words_init_4 : decode prog_12_method_1_code 4 = .ok (.aload_n 0, 1) := by decide +kernel
theorem d_Words_init_5 : decode prog_12_method_1_code 5 = .ok (.bipush 61, 2) := by decide +kernel
theorem d_Words_init_7 : decode prog_12_method_1_code 7 = .ok (.newarray .int, 2) := by decide +kernel
theorem d_Words_init_9 : decode prog_12_method_1_code 9 = .ok (.putfield 11, 3) := by decide +kernel
theorem d_Words_init_12 : decode prog_12_method_1_code 12 = .ok (.aload_n 0, 1) := by decide +kernel
theorem d_Words_init_13 : decode prog_12_method_1_code 13 = .ok (.bipush 61, 2) := by decide +kernel
theorem d_Words_init_15 : decode prog_12_method_1_code 15 = .ok (.newarray .int, 2) := by decide +kernel
theorem d_Words_init_17 : decode prog_12_method_1_code 17 = .ok (.putfield 15, 3) := by decide +kernel
theorem d_Words_init_20 : decode prog_12_method_1_code 20 = .ok (.aload_n 0, 1) := by decide +kernel
theorem d_Words_init_21 : decode prog_12_method_1_code 21 = .ok (.bipush 61, 2) := by decide +kernel
theorem d_Words_init_23 : decode prog_12_method_1_code 23 = .ok (.anewarray 18, 3) := by decide +kernel
theorem d_Words_init_26 : decode prog_12_method_1_code 26 = .ok (.putfield 20, 3) := by decide +kernel
theorem d_Words_init_29 : decode prog_12_method_1_code 29 = .ok (.aload_n 0, 1) := by decide +kernel
theorem d_Words_init_30 : decode prog_12_method_1_code 30 = .ok (.aload_n 1, 1) := by decide +kernel
theorem d_Words_init_31 : decode prog_12_method_1_code 31 = .ok (.putfield 24, 3) := by decide +kernel
theorem d_Words_init_34 : decode prog_12_method_1_code 34 = .ok (.return_, 1) := by decide +kernel
noncomputable def f_Words_init (a0 : Nat) (r1 : Option Nat) (σ : rb_St) : Option rb_Rs :=
  (rb_nA σ 102 (61 : Int32)).bind fun σ_1 => (rb_pR σ_1 (some a0) 6 1 (some (rb_n σ))).bind fun σ_2 => (rb_nA σ_2 102 (61 : Int32)).bind fun σ_3 => (rb_pR σ_3 (some a0) 6 2 (some (rb_n σ_2))).bind fun σ_4 => (rb_nA σ_4 112 (61 : Int32)).bind fun σ_5 => (rb_pR σ_5 (some a0) 6 3 (some (rb_n σ_4))).bind fun σ_6 => (rb_pR σ_6 (some a0) 6 0 r1).bind fun σ_7 => some (none, σ_7)
theorem s_Words_init {E : rb_EV} {d : Nat} (hdd : 1 ≤ d) (a0 : Nat) (r1 : Option Nat) (σ : rb_St) : rb_Does E k_Words_init d [va_rf (some a0), va_rf r1] σ (f_Words_init a0 r1 σ) := by
  refine rb_start (lv := [some (va_rf (some a0)), some (va_rf r1)]) (by decide) (by simp [lg_sl, rb_as, lv_args, rb_cat_r, rb_cat_i, rb_cat_l, rb_nL, k_Words_init]) (fun res => ?_)
  unfold f_Words_init
  refine rb_TC.mono (rk_aload_n 0 d_Words_init_0 rfl rfl) ?_
  refine rb_TC.mono (rk_objInit w_ml_Words_3 w_oi w_oc (Nat.le_trans (by decide) hdd) (by simp [rb_cat_r, rb_cat_i, rb_cat_l]) d_Words_init_1 rfl) ?_
  refine rb_TC.mono (rk_aload_n 0 d_Words_init_4 rfl rfl) ?_
  refine rb_TC.mono (rk_bipush (61 : Int32) d_Words_init_5 (by decide)) ?_
  refine rt_newa (t := 102) ⟨by decide, rfl, w_ac_int⟩ d_Words_init_7 (fun σ_1 => ?_)
  refine rt_pR (some a0) fp_Words_init_11 d_Words_init_9 (fun σ_2 => ?_)
  refine rb_TC.mono (rk_aload_n 0 d_Words_init_12 rfl rfl) ?_
  refine rb_TC.mono (rk_bipush (61 : Int32) d_Words_init_13 (by decide)) ?_
  refine rt_newa (t := 102) ⟨by decide, rfl, w_ac_int⟩ d_Words_init_15 (fun σ_3 => ?_)
  refine rt_pR (some a0) fp_Words_init_15 d_Words_init_17 (fun σ_4 => ?_)
  refine rb_TC.mono (rk_aload_n 0 d_Words_init_20 rfl rfl) ?_
  refine rb_TC.mono (rk_bipush (61 : Int32) d_Words_init_21 (by decide)) ?_
  refine rt_anew (t := 112) ⟨by decide, rfl, by decide, w_cl_Words_18⟩ d_Words_init_23 (fun σ_5 => ?_)
  refine rt_pR (some a0) fp_Words_init_20 d_Words_init_26 (fun σ_6 => ?_)
  refine rb_TC.mono (rk_aload_n 0 d_Words_init_29 rfl rfl) ?_
  refine rb_TC.mono (rk_aload_n 1 d_Words_init_30 rfl rfl) ?_
  refine rt_pR (some a0) fp_Words_init_24 d_Words_init_31 (fun σ_7 => ?_)
  exact rt_vret rfl (fun h => h) d_Words_init_34
-- ===== RuleBuilder$Words.clear()V
def k_Words_clear : rb_MK := (⟨"RuleBuilder$Words", "clear", "()V"⟩, prog_12_method_3_code, 1, none)
theorem mw_Words_clear : rb_Mw k_Words_clear 0 := ⟨rb_inG 788 (by decide +kernel) rfl, rb_inG 90 (by decide +kernel) rfl, ⟨by decide, by decide, by decide +kernel⟩, by decide⟩
theorem fw_Words_28 : rb_Fw "RuleBuilder$Words" 28 6 4 := ⟨_, rfl, by decide, by decide, by decide, rfl, rb_inG 263 (by decide +kernel) rfl⟩
theorem fp_Words_clear_28 : rb_Fp k_Words_clear 28 6 4 .int := ⟨fw_Words_28, rfl, fun q h => by cases h; exact Or.inl rfl⟩
theorem d_Words_clear_0 : decode prog_12_method_3_code 0 = .ok (.aload_n 0, 1) := by decide +kernel
theorem d_Words_clear_1 : decode prog_12_method_3_code 1 = .ok (.iconst 0, 1) := by decide +kernel
theorem d_Words_clear_2 : decode prog_12_method_3_code 2 = .ok (.putfield 28, 3) := by decide +kernel
theorem d_Words_clear_5 : decode prog_12_method_3_code 5 = .ok (.return_, 1) := by decide +kernel
noncomputable def f_Words_clear (r0 : Option Nat) (σ : rb_St) : Option rb_Rs :=
  (rb_pI σ r0 6 4 (0 : Int32)).bind fun σ_1 => some (none, σ_1)
theorem s_Words_clear {E : rb_EV} {d : Nat} (hdd : 0 ≤ d) (r0 : Option Nat) (σ : rb_St) : rb_Does E k_Words_clear d [va_rf r0] σ (f_Words_clear r0 σ) := by
  refine rb_start (lv := [some (va_rf r0)]) (by decide) (by simp [lg_sl, rb_as, lv_args, rb_cat_r, rb_cat_i, rb_cat_l, rb_nL, k_Words_clear]) (fun res => ?_)
  unfold f_Words_clear
  refine rb_TC.mono (rk_aload_n 0 d_Words_clear_0 rfl rfl) ?_
  refine rb_TC.mono (rk_iconst (0 : Int32) d_Words_clear_1 (by decide)) ?_
  refine rt_pI r0 fp_Words_clear_28 d_Words_clear_2 (fun σ_1 => ?_)
  exact rt_vret rfl (fun h => h) d_Words_clear_5
-- ===== RuleBuilder$Words.addWords(II)V
def k_Words_addWords : rb_MK := (⟨"RuleBuilder$Words", "addWords", "(II)V"⟩, prog_12_method_4_code, 5, none)
theorem mw_Words_addWords : rb_Mw k_Words_addWords 2 := ⟨rb_inG 792 (by decide +kernel) rfl, rb_inG 90 (by decide +kernel) rfl, ⟨by decide, by decide, by decide +kernel⟩, by decide⟩
theorem fp_Words_addWords_28 : rb_Fp k_Words_addWords 28 6 4 .int := ⟨fw_Words_28, rfl, fun q h => by cases h; exact Or.inl rfl⟩
theorem vw_Words_32 : rb_Vw "RuleBuilder$Words" 32 k_Text_at 2 1 := ⟨mw_Text_at, rb_inG 793 (by decide +kernel) rfl, rb_inG 415 (by decide +kernel) rfl, rb_inG 416 (by decide +kernel) rfl, by decide, by decide, _, rfl, rfl⟩
theorem d_Words_addWords_0 : decode prog_12_method_4_code 0 = .ok (.iload_n 1, 1) := by decide +kernel
theorem d_Words_addWords_1 : decode prog_12_method_4_code 1 = .ok (.istore_n 3, 1) := by decide +kernel
theorem d_Words_addWords_2 : decode prog_12_method_4_code 2 = .ok (.iload_n 1, 1) := by decide +kernel
theorem d_Words_addWords_3 : decode prog_12_method_4_code 3 = .ok (.istore 4, 2) := by decide +kernel
theorem d_Words_addWords_5 : decode prog_12_method_4_code 5 = .ok (.iload 4, 2) := by decide +kernel
theorem d_Words_addWords_7 : decode prog_12_method_4_code 7 = .ok (.iload_n 2, 1) := by decide +kernel
theorem d_Words_addWords_8 : decode prog_12_method_4_code 8 = .ok (.if_icmp .gt 83, 3) := by decide +kernel
theorem d_Words_addWords_11 : decode prog_12_method_4_code 11 = .ok (.iload 4, 2) := by decide +kernel
theorem d_Words_addWords_13 : decode prog_12_method_4_code 13 = .ok (.iload_n 2, 1) := by decide +kernel
theorem d_Words_addWords_14 : decode prog_12_method_4_code 14 = .ok (.if_icmp .ge 20, 3) := by decide +kernel
theorem d_Words_addWords_17 : decode prog_12_method_4_code 17 = .ok (.aload_n 0, 1) := by decide +kernel
theorem d_Words_addWords_18 : decode prog_12_method_4_code 18 = .ok (.getfield 24, 3) := by decide +kernel
theorem d_Words_addWords_21 : decode prog_12_method_4_code 21 = .ok (.iload 4, 2) := by decide +kernel
theorem d_Words_addWords_23 : decode prog_12_method_4_code 23 = .ok (.invokevirtual 32, 3) := by decide +kernel
theorem d_Words_addWords_26 : decode prog_12_method_4_code 26 = .ok (.bipush 32, 2) := by decide +kernel
theorem d_Words_addWords_28 : decode prog_12_method_4_code 28 = .ok (.if_icmp .eq 6, 3) := by decide +kernel
theorem d_Words_addWords_31 : decode prog_12_method_4_code 31 = .ok (.goto 54, 3) := by decide +kernel
theorem d_Words_addWords_34 : decode prog_12_method_4_code 34 = .ok (.iload 4, 2) := by decide +kernel
theorem d_Words_addWords_36 : decode prog_12_method_4_code 36 = .ok (.iload_n 3, 1) := by decide +kernel
theorem d_Words_addWords_37 : decode prog_12_method_4_code 37 = .ok (.if_icmp .le 43, 3) := by decide +kernel
theorem d_Words_addWords_40 : decode prog_12_method_4_code 40 = .ok (.aload_n 0, 1) := by decide +kernel
theorem d_Words_addWords_41 : decode prog_12_method_4_code 41 = .ok (.getfield 28, 3) := by decide +kernel
theorem d_Words_addWords_44 : decode prog_12_method_4_code 44 = .ok (.bipush 61, 2) := by decide +kernel
theorem d_Words_addWords_46 : decode prog_12_method_4_code 46 = .ok (.if_icmp .ge 34, 3) := by decide +kernel
theorem d_Words_addWords_49 : decode prog_12_method_4_code 49 = .ok (.aload_n 0, 1) := by decide +kernel
theorem d_Words_addWords_50 : decode prog_12_method_4_code 50 = .ok (.getfield 11, 3) := by decide +kernel
theorem d_Words_addWords_53 : decode prog_12_method_4_code 53 = .ok (.aload_n 0, 1) := by decide +kernel
theorem d_Words_addWords_54 : decode prog_12_method_4_code 54 = .ok (.getfield 28, 3) := by decide +kernel
theorem d_Words_addWords_57 : decode prog_12_method_4_code 57 = .ok (.iload_n 3, 1) := by decide +kernel
theorem d_Words_addWords_58 : decode prog_12_method_4_code 58 = .ok (.iastore, 1) := by decide +kernel
theorem d_Words_addWords_59 : decode prog_12_method_4_code 59 = .ok (.aload_n 0, 1) := by decide +kernel
theorem d_Words_addWords_60 : decode prog_12_method_4_code 60 = .ok (.getfield 15, 3) := by decide +kernel
theorem d_Words_addWords_63 : decode prog_12_method_4_code 63 = .ok (.aload_n 0, 1) := by decide +kernel
theorem d_Words_addWords_64 : decode prog_12_method_4_code 64 = .ok (.getfield 28, 3) := by decide +kernel
theorem d_Words_addWords_67 : decode prog_12_method_4_code 67 = .ok (.iload 4, 2) := by decide +kernel
theorem d_Words_addWords_69 : decode prog_12_method_4_code 69 = .ok (.iastore, 1) := by decide +kernel
theorem d_Words_addWords_70 : decode prog_12_method_4_code 70 = .ok (.aload_n 0, 1) := by decide +kernel
theorem d_Words_addWords_71 : decode prog_12_method_4_code 71 = .ok (.dup, 1) := by decide +kernel
theorem d_Words_addWords_72 : decode prog_12_method_4_code 72 = .ok (.getfield 28, 3) := by decide +kernel
theorem d_Words_addWords_75 : decode prog_12_method_4_code 75 = .ok (.iconst 1, 1) := by decide +kernel
theorem d_Words_addWords_76 : decode prog_12_method_4_code 76 = .ok (.iadd, 1) := by decide +kernel
theorem d_Words_addWords_77 : decode prog_12_method_4_code 77 = .ok (.putfield 28, 3) := by decide +kernel
theorem d_Words_addWords_80 : decode prog_12_method_4_code 80 = .ok (.iload 4, 2) := by decide +kernel
theorem d_Words_addWords_82 : decode prog_12_method_4_code 82 = .ok (.iconst 1, 1) := by decide +kernel
theorem d_Words_addWords_83 : decode prog_12_method_4_code 83 = .ok (.iadd, 1) := by decide +kernel
theorem d_Words_addWords_84 : decode prog_12_method_4_code 84 = .ok (.istore_n 3, 1) := by decide +kernel
theorem d_Words_addWords_85 : decode prog_12_method_4_code 85 = .ok (.iinc 4 1, 3) := by decide +kernel
theorem d_Words_addWords_88 : decode prog_12_method_4_code 88 = .ok (.goto (-83), 3) := by decide +kernel
theorem d_Words_addWords_91 : decode prog_12_method_4_code 91 = .ok (.return_, 1) := by decide +kernel
noncomputable def f_Words_addWords_j34 (r0 : Option Nat) (x2 : Int32) (x3 : Int32) (x4 : Int32) (σ : rb_St) : Option ((Int32 × Int32 × rb_St) ⊕ rb_Rs) :=
  if x4 ≤ x3 then (some (.inl ((x4 + (1 : Int32)), (x4 + 1), σ))) else ((rb_gI σ r0 6 4).bind fun x_1 => if (61 : Int32) ≤ x_1 then (some (.inl ((x4 + (1 : Int32)), (x4 + 1), σ))) else ((rb_gR σ r0 6 1).bind fun r_2 => (rb_gI σ r0 6 4).bind fun x_3 => (rb_sI σ r_2 102 x_3 x3).bind fun σ_4 => (rb_gR σ_4 r0 6 2).bind fun r_5 => (rb_gI σ_4 r0 6 4).bind fun x_6 => (rb_sI σ_4 r_5 102 x_6 x4).bind fun σ_7 => (rb_gI σ_7 r0 6 4).bind fun x_8 => (rb_pI σ_7 r0 6 4 (x_8 + (1 : Int32))).bind fun σ_9 => some (.inl ((x4 + (1 : Int32)), (x4 + 1), σ_9))))
theorem t_Words_addWords_j34 {E : rb_EV} {d : Nat} {σ0 : rb_St} {res : rb_Rs} (hdd : 1 ≤ d)  (r0 : Option Nat) (x2 : Int32) (x3 : Int32) (x4 : Int32) (σ : rb_St) : rb_TC (f_Words_addWords_j34 r0 x2 x3 x4 σ) (Sum.elim (fun z : (Int32 × Int32 × rb_St) => rb_WK E k_Words_addWords d σ0 res 5 [some (va_rf r0), none, some (.int x2), some (.int z.1), some (.int z.2.1)] [] z.2.2) (fun r => r = res)) (rb_WK E k_Words_addWords d σ0 res 34 [some (va_rf r0), none, some (.int x2), some (.int x3), some (.int x4)] [] σ) := by
  unfold f_Words_addWords_j34
  refine rb_TC.mono (rk_iload d_Words_addWords_34 rfl) ?_
  refine rb_TC.mono (rk_iload_n 3 d_Words_addWords_36 rfl rfl) ?_
  refine rt_icmp_le 80 d_Words_addWords_37 (by decide) (fun _ => ?_) (fun _ => ?_)
  · refine rb_TC.mono (rk_iload d_Words_addWords_80 rfl) ?_
    refine rb_TC.mono (rk_iconst (1 : Int32) d_Words_addWords_82 (by decide)) ?_
    refine rb_TC.mono (rk_iadd d_Words_addWords_83) ?_
    refine rb_TC.mono (rk_istore_n (lv2 := [some (va_rf r0), none, some (.int x2), some (.int (x4 + (1 : Int32))), some (.int x4)]) 3 d_Words_addWords_84 rfl (by decide) (fun _ => rb_one_i) rfl) ?_
    refine rb_TC.mono (rk_iinc (lv2 := [some (va_rf r0), none, some (.int x2), some (.int (x4 + (1 : Int32))), some (.int (x4 + 1))]) (x4 + 1) d_Words_addWords_85 rfl rfl (by decide) (fun _ => rb_one_i) rfl) ?_
    refine rb_TC.mono (rk_goto 5 d_Words_addWords_88 (by decide)) ?_
    exact rb_back
  · refine rb_TC.mono (rk_aload_n 0 d_Words_addWords_40 rfl rfl) ?_
    refine rt_gI r0 fw_Words_28 d_Words_addWords_41 (fun x_1 => ?_)
    refine rb_TC.mono (rk_bipush (61 : Int32) d_Words_addWords_44 (by decide)) ?_
    refine rt_icmp_ge 80 d_Words_addWords_46 (by decide) (fun _ => ?_) (fun _ => ?_)
    · refine rb_TC.mono (rk_iload d_Words_addWords_80 rfl) ?_
      refine rb_TC.mono (rk_iconst (1 : Int32) d_Words_addWords_82 (by decide)) ?_
      refine rb_TC.mono (rk_iadd d_Words_addWords_83) ?_
      refine rb_TC.mono (rk_istore_n (lv2 := [some (va_rf r0), none, some (.int x2), some (.int (x4 + (1 : Int32))), some (.int x4)]) 3 d_Words_addWords_84 rfl (by decide) (fun _ => rb_one_i) rfl) ?_
      refine rb_TC.mono (rk_iinc (lv2 := [some (va_rf r0), none, some (.int x2), some (.int (x4 + (1 : Int32))), some (.int (x4 + 1))]) (x4 + 1) d_Words_addWords_85 rfl rfl (by decide) (fun _ => rb_one_i) rfl) ?_
      refine rb_TC.mono (rk_goto 5 d_Words_addWords_88 (by decide)) ?_
      exact rb_back
    · refine rb_TC.mono (rk_aload_n 0 d_Words_addWords_49 rfl rfl) ?_
      refine rt_gR r0 fw_Words_11 d_Words_addWords_50 (fun r_2 => ?_)
      refine rb_TC.mono (rk_aload_n 0 d_Words_addWords_53 rfl rfl) ?_
      refine rt_gI r0 fw_Words_28 d_Words_addWords_54 (fun x_3 => ?_)
      refine rb_TC.mono (rk_iload_n 3 d_Words_addWords_57 rfl rfl) ?_
      refine rt_iast r_2 d_Words_addWords_58 (fun σ_4 => ?_)
      refine rb_TC.mono (rk_aload_n 0 d_Words_addWords_59 rfl rfl) ?_
      refine rt_gR r0 fw_Words_15 d_Words_addWords_60 (fun r_5 => ?_)
      refine rb_TC.mono (rk_aload_n 0 d_Words_addWords_63 rfl rfl) ?_
      refine rt_gI r0 fw_Words_28 d_Words_addWords_64 (fun x_6 => ?_)
      refine rb_TC.mono (rk_iload d_Words_addWords_67 rfl) ?_
      refine rt_iast r_5 d_Words_addWords_69 (fun σ_7 => ?_)
      refine rb_TC.mono (rk_aload_n 0 d_Words_addWords_70 rfl rfl) ?_
      refine rb_TC.mono (rk_dupr d_Words_addWords_71) ?_
      refine rt_gI r0 fw_Words_28 d_Words_addWords_72 (fun x_8 => ?_)
      refine rb_TC.mono (rk_iconst (1 : Int32) d_Words_addWords_75 (by decide)) ?_
      refine rb_TC.mono (rk_iadd d_Words_addWords_76) ?_
      refine rt_pI r0 fp_Words_addWords_28 d_Words_addWords_77 (fun σ_9 => ?_)
      refine rb_TC.mono (rk_iload d_Words_addWords_80 rfl) ?_
      refine rb_TC.mono (rk_iconst (1 : Int32) d_Words_addWords_82 (by decide)) ?_
      refine rb_TC.mono (rk_iadd d_Words_addWords_83) ?_
      refine rb_TC.mono (rk_istore_n (lv2 := [some (va_rf r0), none, some (.int x2), some (.int (x4 + (1 : Int32))), some (.int x4)]) 3 d_Words_addWords_84 rfl (by decide) (fun _ => rb_one_i) rfl) ?_
      refine rb_TC.mono (rk_iinc (lv2 := [some (va_rf r0), none, some (.int x2), some (.int (x4 + (1 : Int32))), some (.int (x4 + 1))]) (x4 + 1) d_Words_addWords_85 rfl rfl (by decide) (fun _ => rb_one_i) rfl) ?_
      refine rb_TC.mono (rk_goto 5 d_Words_addWords_88 (by decide)) ?_
      exact rb_back
noncomputable def f_Words_addWords_b5 (r0 : Option Nat) (x2 : Int32) (x3 : Int32) (x4 : Int32) (σ : rb_St) : Option ((Int32 × Int32 × rb_St) ⊕ rb_Rs) :=
  if x2 < x4 then ((some (none, σ)).map Sum.inr) else (if x2 ≤ x4 then (f_Words_addWords_j34 (r0) (x2) (x3) (x4) σ) else ((rb_gR σ r0 6 0).bind fun r_10 => (rb_fc σ r_10 2).bind fun _ => rb_cI (f_Text_at (r_10) (x4) σ) fun x_11 σ_12 => if x_11 = (32 : Int32) then (f_Words_addWords_j34 (r0) (x2) (x3) (x4) σ_12) else (some (.inl (x3, (x4 + 1), σ_12)))))
theorem t_Words_addWords_b5 {E : rb_EV} {d : Nat} {σ0 : rb_St} {res : rb_Rs} (hdd : 1 ≤ d)  (r0 : Option Nat) (x2 : Int32) (x3 : Int32) (x4 : Int32) (σ : rb_St) : rb_TC (f_Words_addWords_b5 r0 x2 x3 x4 σ) (Sum.elim (fun z : (Int32 × Int32 × rb_St) => rb_WK E k_Words_addWords d σ0 res 5 [some (va_rf r0), none, some (.int x2), some (.int z.1), some (.int z.2.1)] [] z.2.2) (fun r => r = res)) (rb_WK E k_Words_addWords d σ0 res 5 [some (va_rf r0), none, some (.int x2), some (.int x3), some (.int x4)] [] σ) := by
  unfold f_Words_addWords_b5
  refine rb_TC.mono (rk_iload d_Words_addWords_5 rfl) ?_
  refine rb_TC.mono (rk_iload_n 2 d_Words_addWords_7 rfl rfl) ?_
  refine rt_icmp_gt 91 d_Words_addWords_8 (by decide) (fun _ => ?_) (fun _ => ?_)
  · refine rb_TC.out ?_
    exact rt_vret rfl (fun h => h) d_Words_addWords_91
  · refine rb_TC.mono (rk_iload d_Words_addWords_11 rfl) ?_
    refine rb_TC.mono (rk_iload_n 2 d_Words_addWords_13 rfl rfl) ?_
    refine rt_icmp_ge 34 d_Words_addWords_14 (by decide) (fun _ => ?_) (fun _ => ?_)
    · exact t_Words_addWords_j34 hdd  (r0) (x2) (x3) (x4) σ
    · refine rb_TC.mono (rk_aload_n 0 d_Words_addWords_17 rfl rfl) ?_
      refine rt_gR r0 fw_Words_24 d_Words_addWords_18 (fun r_10 => ?_)
      refine rb_TC.mono (rk_iload d_Words_addWords_21 rfl) ?_
      refine rt_vI (As := [.int x4]) (st := []) (r_10) vw_Words_32 (s_Text_at (Nat.le_refl _) (r_10) (x4) σ) (Nat.le_trans (by decide) hdd) rfl (by simp [rb_cat_r, rb_cat_i, rb_cat_l]) d_Words_addWords_23 (fun x_11 σ_12 => ?_)
      refine rb_TC.mono (rk_bipush (32 : Int32) d_Words_addWords_26 (by decide)) ?_
      refine rt_icmp_eq 34 d_Words_addWords_28 (by decide) (fun _ => ?_) (fun _ => ?_)
      · exact t_Words_addWords_j34 hdd  (r0) (x2) (x3) (x4) σ_12
      · refine rb_TC.mono (rk_goto 85 d_Words_addWords_31 (by decide)) ?_
        refine rb_TC.mono (rk_iinc (lv2 := [some (va_rf r0), none, some (.int x2), some (.int x3), some (.int (x4 + 1))]) (x4 + 1) d_Words_addWords_85 rfl rfl (by decide) (fun _ => rb_one_i) rfl) ?_
        refine rb_TC.mono (rk_goto 5 d_Words_addWords_88 (by decide)) ?_
        exact rb_back
noncomputable def f_Words_addWords (r0 : Option Nat) (x1 : Int32) (x2 : Int32) (σ : rb_St) : Option rb_Rs :=
  rb_it (fun z : (Int32 × Int32 × rb_St) => f_Words_addWords_b5 (r0) (x2) (z.1) (z.2.1) z.2.2) (x1, x1, σ)
theorem s_Words_addWords {E : rb_EV} {d : Nat} (hdd : 1 ≤ d) (r0 : Option Nat) (x1 : Int32) (x2 : Int32) (σ : rb_St) : rb_Does E k_Words_addWords d [va_rf r0, .int x1, .int x2] σ (f_Words_addWords r0 x1 x2 σ) := by
  refine rb_start (lv := [some (va_rf r0), some (.int x1), some (.int x2), none, none]) (by decide) (by simp [lg_sl, rb_as, lv_args, rb_cat_r, rb_cat_i, rb_cat_l, rb_nL, k_Words_addWords]) (fun res => ?_)
  unfold f_Words_addWords
  refine rb_TC.mono (rk_iload_n 1 d_Words_addWords_0 rfl rfl) ?_
  refine rb_TC.mono (rk_istore_n (lv2 := [some (va_rf r0), some (.int x1), some (.int x2), some (.int x1), none]) 3 d_Words_addWords_1 rfl (by decide) (fun _ => rb_one_i) rfl) ?_
  refine rb_TC.mono (rk_iload_n 1 d_Words_addWords_2 rfl rfl) ?_
  refine rb_TC.mono (rk_istore (lv2 := [some (va_rf r0), some (.int x1), some (.int x2), some (.int x1), some (.int x1)]) d_Words_addWords_3 (by decide) (fun _ => rb_one_i) rfl) ?_
  refine rb_TC.mono (rk_less (lv2 := [some (va_rf r0), none, some (.int x2), some (.int x1), some (.int x1)]) (rb_le_ok (rb_leS (rb_leN (rb_leS (rb_leS (rb_leS rb_le0))))))) ?_
  exact rb_TC.loop2 (A := (fun z : (Int32 × Int32 × rb_St) => rb_WK E k_Words_addWords d σ res 5 [some (va_rf r0), none, some (.int x2), some (.int z.1), some (.int z.2.1)] [] z.2.2)) (x1, x1, σ) (fun z => t_Words_addWords_b5 hdd  (r0) (x2) (z.1) (z.2.1) z.2.2)
-- ===== RuleBuilder$Words.count()I
def k_Words_count : rb_MK := (⟨"RuleBuilder$Words", "count", "()I"⟩, prog_12_method_2_code, 1, some (.int))
theorem mw_Words_count : rb_Mw k_Words_count 0 := ⟨rb_inG 797 (by decide +kernel) rfl, rb_inG 90 (by decide +kernel) rfl, ⟨by decide, by decide, by decide +kernel⟩, by decide⟩
theorem d_Words_count_0 : decode prog_12_method_2_code 0 = .ok (.aload_n 0, 1) := by decide +kernel
theorem d_Words_count_1 : decode prog_12_method_2_code 1 = .ok (.getfield 28, 3) := by decide +kernel
theorem d_Words_count_4 : decode prog_12_method_2_code 4 = .ok (.ireturn, 1) := by decide +kernel
noncomputable def f_Words_count (r0 : Option Nat) (σ : rb_St) : Option rb_Rs :=
  (rb_gI σ r0 6 4).bind fun x_1 => some (some (.int x_1), σ)
theorem s_Words_count {E : rb_EV} {d : Nat} (hdd : 0 ≤ d) (r0 : Option Nat) (σ : rb_St) : rb_Does E k_Words_count d [va_rf r0] σ (f_Words_count r0 σ) := by
  refine rb_start (lv := [some (va_rf r0)]) (by decide) (by simp [lg_sl, rb_as, lv_args, rb_cat_r, rb_cat_i, rb_cat_l, rb_nL, k_Words_count]) (fun res => ?_)
  unfold f_Words_count
  refine rb_TC.mono (rk_aload_n 0 d_Words_count_0 rfl rfl) ?_
  refine rt_gI r0 fw_Words_28 d_Words_count_1 (fun x_1 => ?_)
  exact rt_iret (ty := .int) rfl rfl (fun h => h) d_Words_count_4
-- ===== RuleBuilder$Words.cut(I)Ljava/lang/String;
def k_Words_cut : rb_MK := (⟨"RuleBuilder$Words", "cut", "(I)Ljava/lang/String;"⟩, prog_12_method_7_code, 2, some (.object "java/lang/String"))
theorem mw_Words_cut : rb_Mw k_Words_cut 1 := ⟨rb_inG 804 (by decide +kernel) rfl, rb_inG 90 (by decide +kernel) rfl, ⟨by decide, by decide, by decide +kernel⟩, by decide⟩
theorem vw_Words_52 : rb_Vw "RuleBuilder$Words" 52 k_Text_cut 2 2 := ⟨mw_Text_cut, rb_inG 805 (by decide +kernel) rfl, rb_inG 427 (by decide +kernel) rfl, rb_inG 428 (by decide +kernel) rfl, by decide, by decide, _, rfl, rfl⟩
theorem d_Words_cut_0 : decode prog_12_method_7_code 0 = .ok (.iload_n 1, 1) := by decide +kernel
theorem d_Words_cut_1 : decode prog_12_method_7_code 1 = .ok (.ifCond .lt 33, 3) := by decide +kernel
theorem d_Words_cut_4 : decode prog_12_method_7_code 4 = .ok (.iload_n 1, 1) := by decide +kernel
theorem d_Words_cut_5 : decode prog_12_method_7_code 5 = .ok (.aload_n 0, 1) := by decide +kernel
theorem d_Words_cut_6 : decode prog_12_method_7_code 6 = .ok (.getfield 28, 3) := by decide +kernel
theorem d_Words_cut_9 : decode prog_12_method_7_code 9 = .ok (.if_icmp .ge 25, 3) := by decide +kernel
theorem d_Words_cut_12 : decode prog_12_method_7_code 12 = .ok (.aload_n 0, 1) := by decide +kernel
theorem d_Words_cut_13 : decode prog_12_method_7_code 13 = .ok (.getfield 24, 3) := by decide +kernel
theorem d_Words_cut_16 : decode prog_12_method_7_code 16 = .ok (.aload_n 0, 1) := by decide +kernel
theorem d_Words_cut_17 : decode prog_12_method_7_code 17 = .ok (.getfield 11, 3) := by decide +kernel
theorem d_Words_cut_20 : decode prog_12_method_7_code 20 = .ok (.iload_n 1, 1) := by decide +kernel
theorem d_Words_cut_21 : decode prog_12_method_7_code 21 = .ok (.iaload, 1) := by decide +kernel
theorem d_Words_cut_22 : decode prog_12_method_7_code 22 = .ok (.aload_n 0, 1) := by decide +kernel
theorem d_Words_cut_23 : decode prog_12_method_7_code 23 = .ok (.getfield 15, 3) := by decide +kernel
theorem d_Words_cut_26 : decode prog_12_method_7_code 26 = .ok (.iload_n 1, 1) := by decide +kernel
theorem d_Words_cut_27 : decode prog_12_method_7_code 27 = .ok (.iaload, 1) := by decide +kernel
theorem d_Words_cut_28 : decode prog_12_method_7_code 28 = .ok (.invokevirtual 52, 3) := by decide +kernel
theorem d_Words_cut_31 : decode prog_12_method_7_code 31 = .ok (.goto 5, 3) := by decide +kernel
theorem d_Words_cut_34 : decode prog_12_method_7_code 34 = .ok (.ldc 56, 2) := by decide +kernel
theorem d_Words_cut_36 : decode prog_12_method_7_code 36 = .ok (.areturn, 1) := by decide +kernel
noncomputable def f_Words_cut (r0 : Option Nat) (x1 : Int32) (σ : rb_St) : Option rb_Rs :=
  if x1 < 0 then (some (some (va_rf (some (rb_k σ 0))), σ)) else ((rb_gI σ r0 6 4).bind fun x_1 => if x_1 ≤ x1 then (some (some (va_rf (some (rb_k σ 0))), σ)) else ((rb_gR σ r0 6 0).bind fun r_2 => (rb_gR σ r0 6 1).bind fun r_3 => (rb_aI σ r_3 102 x1).bind fun x_4 => (rb_gR σ r0 6 2).bind fun r_5 => (rb_aI σ r_5 102 x1).bind fun x_6 => (rb_fc σ r_2 2).bind fun _ => rb_cR (f_Text_cut (r_2) (x_4) (x_6) σ) fun r_7 σ_8 => some (some (va_rf r_7), σ_8)))
theorem s_Words_cut {E : rb_EV} {d : Nat} (hdd : 5 ≤ d) (r0 : Option Nat) (x1 : Int32) (σ : rb_St) : rb_Does E k_Words_cut d [va_rf r0, .int x1] σ (f_Words_cut r0 x1 σ) := by
  refine rb_start (lv := [some (va_rf r0), some (.int x1)]) (by decide) (by simp [lg_sl, rb_as, lv_args, rb_cat_r, rb_cat_i, rb_cat_l, rb_nL, k_Words_cut]) (fun res => ?_)
  unfold f_Words_cut
  refine rb_TC.mono (rk_iload_n 1 d_Words_cut_0 rfl rfl) ?_
  refine rt_if_lt 34 d_Words_cut_1 (by decide) (fun _ => ?_) (fun _ => ?_)
  · refine rb_TC.mono (rk_ldcs (no := 0) (by decide) d_Words_cut_34) ?_
    exact rt_aret (ty := .object "java/lang/String") rfl (Or.inl ⟨_, rfl⟩) (fun h => h) d_Words_cut_36
  · refine rb_TC.mono (rk_iload_n 1 d_Words_cut_4 rfl rfl) ?_
    refine rb_TC.mono (rk_aload_n 0 d_Words_cut_5 rfl rfl) ?_
    refine rt_gI r0 fw_Words_28 d_Words_cut_6 (fun x_1 => ?_)
    refine rt_icmp_ge 34 d_Words_cut_9 (by decide) (fun _ => ?_) (fun _ => ?_)
    · refine rb_TC.mono (rk_ldcs (no := 0) (by decide) d_Words_cut_34) ?_
      exact rt_aret (ty := .object "java/lang/String") rfl (Or.inl ⟨_, rfl⟩) (fun h => h) d_Words_cut_36
    · refine rb_TC.mono (rk_aload_n 0 d_Words_cut_12 rfl rfl) ?_
      refine rt_gR r0 fw_Words_24 d_Words_cut_13 (fun r_2 => ?_)
      refine rb_TC.mono (rk_aload_n 0 d_Words_cut_16 rfl rfl) ?_
      refine rt_gR r0 fw_Words_11 d_Words_cut_17 (fun r_3 => ?_)
      refine rb_TC.mono (rk_iload_n 1 d_Words_cut_20 rfl rfl) ?_
      refine rt_iald r_3 d_Words_cut_21 (fun x_4 => ?_)
      refine rb_TC.mono (rk_aload_n 0 d_Words_cut_22 rfl rfl) ?_
      refine rt_gR r0 fw_Words_15 d_Words_cut_23 (fun r_5 => ?_)
      refine rb_TC.mono (rk_iload_n 1 d_Words_cut_26 rfl rfl) ?_
      refine rt_iald r_5 d_Words_cut_27 (fun x_6 => ?_)
      refine rt_vR (As := [.int x_4, .int x_6]) (st := []) (r_2) vw_Words_52 (s_Text_cut (Nat.le_refl _) (r_2) (x_4) (x_6) σ) (Nat.le_trans (by decide) hdd) rfl (by simp [rb_cat_r, rb_cat_i, rb_cat_l]) d_Words_cut_28 (fun r_7 σ_8 => ?_)
      refine rb_TC.mono (rk_goto 36 d_Words_cut_31 (by decide)) ?_
      exact rt_aret (ty := .object "java/lang/String") rfl (Or.inl ⟨_, rfl⟩) (fun h => h) d_Words_cut_36
-- ===== RuleBuilder$Words.isName(I)Z
def k_Words_isName : rb_MK := (⟨"RuleBuilder$Words", "isName", "(I)Z"⟩, prog_12_method_6_code, 2, some (.boolean))
theorem mw_Words_isName : rb_Mw k_Words_isName 1 := ⟨rb_inG 844 (by decide +kernel) rfl, rb_inG 90 (by decide +kernel) rfl, ⟨by decide, by decide, by decide +kernel⟩, by decide⟩
theorem vw_Words_48 : rb_Vw "RuleBuilder$Words" 48 k_Text_isName 2 2 := ⟨mw_Text_isName, rb_inG 845 (by decide +kernel) rfl, rb_inG 846 (by decide +kernel) rfl, rb_inG 847 (by decide +kernel) rfl, by decide, by decide, _, rfl, rfl⟩
theorem d_Words_isName_0 : decode prog_12_method_6_code 0 = .ok (.iload_n 1, 1) := by decide +kernel
theorem d_Words_isName_1 : decode prog_12_method_6_code 1 = .ok (.ifCond .lt 37, 3) := by decide +kernel
theorem d_Words_isName_4 : decode prog_12_method_6_code 4 = .ok (.iload_n 1, 1) := by decide +kernel
theorem d_Words_isName_5 : decode prog_12_method_6_code 5 = .ok (.aload_n 0, 1) := by decide +kernel
theorem d_Words_isName_6 : decode prog_12_method_6_code 6 = .ok (.getfield 28, 3) := by decide +kernel
theorem d_Words_isName_9 : decode prog_12_method_6_code 9 = .ok (.if_icmp .ge 29, 3) := by decide +kernel
theorem d_Words_isName_12 : decode prog_12_method_6_code 12 = .ok (.aload_n 0, 1) := by decide +kernel
theorem d_Words_isName_13 : decode prog_12_method_6_code 13 = .ok (.getfield 24, 3) := by decide +kernel
theorem d_Words_isName_16 : decode prog_12_method_6_code 16 = .ok (.aload_n 0, 1) := by decide +kernel
theorem d_Words_isName_17 : decode prog_12_method_6_code 17 = .ok (.getfield 11, 3) := by decide +kernel
theorem d_Words_isName_20 : decode prog_12_method_6_code 20 = .ok (.iload_n 1, 1) := by decide +kernel
theorem d_Words_isName_21 : decode prog_12_method_6_code 21 = .ok (.iaload, 1) := by decide +kernel
theorem d_Words_isName_22 : decode prog_12_method_6_code 22 = .ok (.aload_n 0, 1) := by decide +kernel
theorem d_Words_isName_23 : decode prog_12_method_6_code 23 = .ok (.getfield 15, 3) := by decide +kernel
theorem d_Words_isName_26 : decode prog_12_method_6_code 26 = .ok (.iload_n 1, 1) := by decide +kernel
theorem d_Words_isName_27 : decode prog_12_method_6_code 27 = .ok (.iaload, 1) := by decide +kernel
theorem d_Words_isName_28 : decode prog_12_method_6_code 28 = .ok (.invokevirtual 48, 3) := by decide +kernel
theorem d_Words_isName_31 : decode prog_12_method_6_code 31 = .ok (.ifCond .eq 7, 3) := by decide +kernel
theorem d_Words_isName_34 : decode prog_12_method_6_code 34 = .ok (.iconst 1, 1) := by decide +kernel
theorem d_Words_isName_35 : decode prog_12_method_6_code 35 = .ok (.goto 4, 3) := by decide +kernel
theorem d_Words_isName_38 : decode prog_12_method_6_code 38 = .ok (.iconst 0, 1) := by decide +kernel
theorem d_Words_isName_39 : decode prog_12_method_6_code 39 = .ok (.ireturn, 1) := by decide +kernel
noncomputable def f_Words_isName (r0 : Option Nat) (x1 : Int32) (σ : rb_St) : Option rb_Rs :=
  if x1 < 0 then (some (some (.int (0 : Int32)), σ)) else ((rb_gI σ r0 6 4).bind fun x_1 => if x_1 ≤ x1 then (some (some (.int (0 : Int32)), σ)) else ((rb_gR σ r0 6 0).bind fun r_2 => (rb_gR σ r0 6 1).bind fun r_3 => (rb_aI σ r_3 102 x1).bind fun x_4 => (rb_gR σ r0 6 2).bind fun r_5 => (rb_aI σ r_5 102 x1).bind fun x_6 => (rb_fc σ r_2 2).bind fun _ => rb_cI (f_Text_isName (r_2) (x_4) (x_6) σ) fun x_7 σ_8 => if x_7 = 0 then (some (some (.int (0 : Int32)), σ_8)) else (some (some (.int (1 : Int32)), σ_8))))
theorem s_Words_isName {E : rb_EV} {d : Nat} (hdd : 1 ≤ d) (r0 : Option Nat) (x1 : Int32) (σ : rb_St) : rb_Does E k_Words_isName d [va_rf r0, .int x1] σ (f_Words_isName r0 x1 σ) := by
  refine rb_start (lv := [some (va_rf r0), some (.int x1)]) (by decide) (by simp [lg_sl, rb_as, lv_args, rb_cat_r, rb_cat_i, rb_cat_l, rb_nL, k_Words_isName]) (fun res => ?_)
  unfold f_Words_isName
  refine rb_TC.mono (rk_iload_n 1 d_Words_isName_0 rfl rfl) ?_
  refine rt_if_lt 38 d_Words_isName_1 (by decide) (fun _ => ?_) (fun _ => ?_)
  · refine rb_TC.mono (rk_iconst (0 : Int32) d_Words_isName_38 (by decide)) ?_
    exact rt_iret (ty := .boolean) rfl (by decide) (fun h => h) d_Words_isName_39
  · refine rb_TC.mono (rk_iload_n 1 d_Words_isName_4 rfl rfl) ?_
    refine rb_TC.mono (rk_aload_n 0 d_Words_isName_5 rfl rfl) ?_
    refine rt_gI r0 fw_Words_28 d_Words_isName_6 (fun x_1 => ?_)
    refine rt_icmp_ge 38 d_Words_isName_9 (by decide) (fun _ => ?_) (fun _ => ?_)
    · refine rb_TC.mono (rk_iconst (0 : Int32) d_Words_isName_38 (by decide)) ?_
      exact rt_iret (ty := .boolean) rfl (by decide) (fun h => h) d_Words_isName_39
    · refine rb_TC.mono (rk_aload_n 0 d_Words_isName_12 rfl rfl) ?_
      refine rt_gR r0 fw_Words_24 d_Words_isName_13 (fun r_2 => ?_)
      refine rb_TC.mono (rk_aload_n 0 d_Words_isName_16 rfl rfl) ?_
      refine rt_gR r0 fw_Words_11 d_Words_isName_17 (fun r_3 => ?_)
      refine rb_TC.mono (rk_iload_n 1 d_Words_isName_20 rfl rfl) ?_
      refine rt_iald r_3 d_Words_isName_21 (fun x_4 => ?_)
      refine rb_TC.mono (rk_aload_n 0 d_Words_isName_22 rfl rfl) ?_
      refine rt_gR r0 fw_Words_15 d_Words_isName_23 (fun r_5 => ?_)
      refine rb_TC.mono (rk_iload_n 1 d_Words_isName_26 rfl rfl) ?_
      refine rt_iald r_5 d_Words_isName_27 (fun x_6 => ?_)
      refine rt_vI (As := [.int x_4, .int x_6]) (st := []) (r_2) vw_Words_48 (s_Text_isName (Nat.le_refl _) (r_2) (x_4) (x_6) σ) (Nat.le_trans (by decide) hdd) rfl (by simp [rb_cat_r, rb_cat_i, rb_cat_l]) d_Words_isName_28 (fun x_7 σ_8 => ?_)
      refine rt_if_eq 38 d_Words_isName_31 (by decide) (fun _ => ?_) (fun _ => ?_)
      · refine rb_TC.mono (rk_iconst (0 : Int32) d_Words_isName_38 (by decide)) ?_
        exact rt_iret (ty := .boolean) rfl (by decide) (fun h => h) d_Words_isName_39
      · refine rb_TC.mono (rk_iconst (1 : Int32) d_Words_isName_34 (by decide)) ?_
        refine rb_TC.mono (rk_goto 39 d_Words_isName_35 (by decide)) ?_
        exact rt_iret (ty := .boolean) rfl (by decide) (fun h => h) d_Words_isName_39
-- ===== RuleBuilder$Words.meet(LRuleBuilder$Store;II)Z
def k_Words_meet : rb_MK := (⟨"RuleBuilder$Words", "meet", "(LRuleBuilder$Store;II)Z"⟩, prog_12_method_9_code, 5, some (.boolean))
theorem mw_Words_meet : rb_Mw k_Words_meet 3 := ⟨rb_inG 859 (by decide +kernel) rfl, rb_inG 90 (by decide +kernel) rfl, ⟨by decide, by decide, by decide +kernel⟩, by decide⟩
theorem w_mmax_Words_62 : rb_Xw "RuleBuilder$Words" 62 := ⟨rb_inG 860 (by decide +kernel) rfl, rb_inG 745 (by decide +kernel) rfl, rb_inG 103 (by decide +kernel) rfl, rb_inG 746 (by decide +kernel) rfl⟩
theorem vw_Words_68 : rb_Vw "RuleBuilder$Words" 68 k_Store_meet 3 3 := ⟨mw_Store_meet, rb_inG 861 (by decide +kernel) rfl, rb_inG 862 (by decide +kernel) rfl, rb_inG 863 (by decide +kernel) rfl, by decide, by decide, _, rfl, rfl⟩
theorem d_Words_meet_0 : decode prog_12_method_9_code 0 = .ok (.iload_n 2, 1) := by decide +kernel
theorem d_Words_meet_1 : decode prog_12_method_9_code 1 = .ok (.iconst 0, 1) := by decide +kernel
theorem d_Words_meet_2 : decode prog_12_method_9_code 2 = .ok (.invokestatic 62, 3) := by decide +kernel
theorem d_Words_meet_5 : decode prog_12_method_9_code 5 = .ok (.istore 4, 2) := by decide +kernel
theorem d_Words_meet_7 : decode prog_12_method_9_code 7 = .ok (.iload 4, 2) := by decide +kernel
theorem d_Words_meet_9 : decode prog_12_method_9_code 9 = .ok (.iload_n 3, 1) := by decide +kernel
theorem d_Words_meet_10 : decode prog_12_method_9_code 10 = .ok (.if_icmp .ge 59, 3) := by decide +kernel
theorem d_Words_meet_13 : decode prog_12_method_9_code 13 = .ok (.iload 4, 2) := by decide +kernel
theorem d_Words_meet_15 : decode prog_12_method_9_code 15 = .ok (.aload_n 0, 1) := by decide +kernel
theorem d_Words_meet_16 : decode prog_12_method_9_code 16 = .ok (.getfield 28, 3) := by decide +kernel
theorem d_Words_meet_19 : decode prog_12_method_9_code 19 = .ok (.if_icmp .ge 50, 3) := by decide +kernel
theorem d_Words_meet_22 : decode prog_12_method_9_code 22 = .ok (.aload_n 0, 1) := by decide +kernel
theorem d_Words_meet_23 : decode prog_12_method_9_code 23 = .ok (.getfield 20, 3) := by decide +kernel
theorem d_Words_meet_26 : decode prog_12_method_9_code 26 = .ok (.iload 4, 2) := by decide +kernel
theorem d_Words_meet_28 : decode prog_12_method_9_code 28 = .ok (.aload_n 1, 1) := by decide +kernel
theorem d_Words_meet_29 : decode prog_12_method_9_code 29 = .ok (.aload_n 0, 1) := by decide +kernel
theorem d_Words_meet_30 : decode prog_12_method_9_code 30 = .ok (.getfield 24, 3) := by decide +kernel
theorem d_Words_meet_33 : decode prog_12_method_9_code 33 = .ok (.aload_n 0, 1) := by decide +kernel
theorem d_Words_meet_34 : decode prog_12_method_9_code 34 = .ok (.getfield 11, 3) := by decide +kernel
theorem d_Words_meet_37 : decode prog_12_method_9_code 37 = .ok (.iload 4, 2) := by decide +kernel
theorem d_Words_meet_39 : decode prog_12_method_9_code 39 = .ok (.iaload, 1) := by decide +kernel
theorem d_Words_meet_40 : decode prog_12_method_9_code 40 = .ok (.aload_n 0, 1) := by decide +kernel
theorem d_Words_meet_41 : decode prog_12_method_9_code 41 = .ok (.getfield 15, 3) := by decide +kernel
theorem d_Words_meet_44 : decode prog_12_method_9_code 44 = .ok (.iload 4, 2) := by decide +kernel
theorem d_Words_meet_46 : decode prog_12_method_9_code 46 = .ok (.iaload, 1) := by decide +kernel
theorem d_Words_meet_47 : decode prog_12_method_9_code 47 = .ok (.invokevirtual 68, 3) := by decide +kernel
theorem d_Words_meet_50 : decode prog_12_method_9_code 50 = .ok (.aastore, 1) := by decide +kernel
theorem d_Words_meet_51 : decode prog_12_method_9_code 51 = .ok (.aload_n 0, 1) := by decide +kernel
theorem d_Words_meet_52 : decode prog_12_method_9_code 52 = .ok (.getfield 20, 3) := by decide +kernel
theorem d_Words_meet_55 : decode prog_12_method_9_code 55 = .ok (.iload 4, 2) := by decide +kernel
theorem d_Words_meet_57 : decode prog_12_method_9_code 57 = .ok (.aaload, 1) := by decide +kernel
theorem d_Words_meet_58 : decode prog_12_method_9_code 58 = .ok (.ifnonnull 5, 3) := by decide +kernel
theorem d_Words_meet_61 : decode prog_12_method_9_code 61 = .ok (.iconst 0, 1) := by decide +kernel
theorem d_Words_meet_62 : decode prog_12_method_9_code 62 = .ok (.ireturn, 1) := by decide +kernel
theorem d_Words_meet_63 : decode prog_12_method_9_code 63 = .ok (.iinc 4 1, 3) := by decide +kernel
theorem d_Words_meet_66 : decode prog_12_method_9_code 66 = .ok (.goto (-59), 3) := by decide +kernel
theorem d_Words_meet_69 : decode prog_12_method_9_code 69 = .ok (.iconst 1, 1) := by decide +kernel
theorem d_Words_meet_70 : decode prog_12_method_9_code 70 = .ok (.ireturn, 1) := by decide +kernel
noncomputable def f_Words_meet_j69  (σ : rb_St) : Option rb_Rs :=
  some (some (.int (1 : Int32)), σ)
theorem t_Words_meet_j69 {E : rb_EV} {d : Nat} {σ0 : rb_St} {res : rb_Rs} (hdd : 7 ≤ d)   (σ : rb_St) : rb_TC (f_Words_meet_j69  σ) (fun r => r = res) (rb_WK E k_Words_meet d σ0 res 69 [none, none, none, none, none] [] σ) := by
  unfold f_Words_meet_j69
  refine rb_TC.mono (rk_iconst (1 : Int32) d_Words_meet_69 (by decide)) ?_
  exact rt_iret (ty := .boolean) rfl (by decide) (fun h => h) d_Words_meet_70
noncomputable def f_Words_meet_b7 (r0 : Option Nat) (r1 : Option Nat) (x3 : Int32) (x4 : Int32) (σ : rb_St) : Option ((Int32 × rb_St) ⊕ rb_Rs) :=
  if x3 ≤ x4 then ((f_Words_meet_j69  σ).map Sum.inr) else ((rb_gI σ r0 6 4).bind fun x_1 => if x_1 ≤ x4 then ((f_Words_meet_j69  σ).map Sum.inr) else ((rb_gR σ r0 6 3).bind fun r_2 => (rb_gR σ r0 6 0).bind fun r_3 => (rb_gR σ r0 6 1).bind fun r_4 => (rb_aI σ r_4 102 x4).bind fun x_5 => (rb_gR σ r0 6 2).bind fun r_6 => (rb_aI σ r_6 102 x4).bind fun x_7 => (rb_fc σ r1 3).bind fun _ => rb_cR (f_Store_meet (r1) (r_3) (x_5) (x_7) σ) fun r_8 σ_9 => (rb_sR σ_9 r_2 112 x4 r_8).bind fun σ_10 => (rb_gR σ_10 r0 6 3).bind fun r_11 => (rb_aR σ_10 r_11 112 x4).bind fun r_12 => if r_12 = none then ((some (some (.int (0 : Int32)), σ_10)).map Sum.inr) else (some (.inl ((x4 + 1), σ_10)))))
theorem t_Words_meet_b7 {E : rb_EV} {d : Nat} {σ0 : rb_St} {res : rb_Rs} (hdd : 7 ≤ d)  (r0 : Option Nat) (r1 : Option Nat) (x3 : Int32) (x4 : Int32) (σ : rb_St) : rb_TC (f_Words_meet_b7 r0 r1 x3 x4 σ) (Sum.elim (fun z : (Int32 × rb_St) => rb_WK E k_Words_meet d σ0 res 7 [some (va_rf r0), some (va_rf r1), none, some (.int x3), some (.int z.1)] [] z.2) (fun r => r = res)) (rb_WK E k_Words_meet d σ0 res 7 [some (va_rf r0), some (va_rf r1), none, some (.int x3), some (.int x4)] [] σ) := by
  unfold f_Words_meet_b7
  refine rb_TC.mono (rk_iload d_Words_meet_7 rfl) ?_
  refine rb_TC.mono (rk_iload_n 3 d_Words_meet_9 rfl rfl) ?_
  refine rt_icmp_ge 69 d_Words_meet_10 (by decide) (fun _ => ?_) (fun _ => ?_)
  · refine rb_TC.out ?_
    refine rb_TC.mono (rk_less (lv2 := [none, none, none, none, none]) (rb_le_ok (rb_leN (rb_leN (rb_leN (rb_leN (rb_leN rb_le0))))))) ?_
    exact t_Words_meet_j69 hdd   σ
  · refine rb_TC.mono (rk_iload d_Words_meet_13 rfl) ?_
    refine rb_TC.mono (rk_aload_n 0 d_Words_meet_15 rfl rfl) ?_
    refine rt_gI r0 fw_Words_28 d_Words_meet_16 (fun x_1 => ?_)
    refine rt_icmp_ge 69 d_Words_meet_19 (by decide) (fun _ => ?_) (fun _ => ?_)
    · refine rb_TC.out ?_
      refine rb_TC.mono (rk_less (lv2 := [none, none, none, none, none]) (rb_le_ok (rb_leN (rb_leN (rb_leN (rb_leN (rb_leN rb_le0))))))) ?_
      exact t_Words_meet_j69 hdd   σ
    · refine rb_TC.mono (rk_aload_n 0 d_Words_meet_22 rfl rfl) ?_
      refine rt_gR r0 fw_Words_20 d_Words_meet_23 (fun r_2 => ?_)
      refine rb_TC.mono (rk_iload d_Words_meet_26 rfl) ?_
      refine rb_TC.mono (rk_aload_n 1 d_Words_meet_28 rfl rfl) ?_
      refine rb_TC.mono (rk_aload_n 0 d_Words_meet_29 rfl rfl) ?_
      refine rt_gR r0 fw_Words_24 d_Words_meet_30 (fun r_3 => ?_)
      refine rb_TC.mono (rk_aload_n 0 d_Words_meet_33 rfl rfl) ?_
      refine rt_gR r0 fw_Words_11 d_Words_meet_34 (fun r_4 => ?_)
      refine rb_TC.mono (rk_iload d_Words_meet_37 rfl) ?_
      refine rt_iald r_4 d_Words_meet_39 (fun x_5 => ?_)
      refine rb_TC.mono (rk_aload_n 0 d_Words_meet_40 rfl rfl) ?_
      refine rt_gR r0 fw_Words_15 d_Words_meet_41 (fun r_6 => ?_)
      refine rb_TC.mono (rk_iload d_Words_meet_44 rfl) ?_
      refine rt_iald r_6 d_Words_meet_46 (fun x_7 => ?_)
      refine rt_vR (As := [va_rf r_3, .int x_5, .int x_7]) (st := [.int x4, va_rf r_2]) (r1) vw_Words_68 (s_Store_meet (Nat.le_refl _) (r1) (r_3) (x_5) (x_7) σ) (Nat.le_trans (by decide) hdd) rfl (by simp [rb_cat_r, rb_cat_i, rb_cat_l]) d_Words_meet_47 (fun r_8 σ_9 => ?_)
      refine rt_aast (t := 112) r_2 r_8 (by decide) d_Words_meet_50 (fun σ_10 => ?_)
      refine rb_TC.mono (rk_aload_n 0 d_Words_meet_51 rfl rfl) ?_
      refine rt_gR r0 fw_Words_20 d_Words_meet_52 (fun r_11 => ?_)
      refine rb_TC.mono (rk_iload d_Words_meet_55 rfl) ?_
      refine rt_aald (t := 112) r_11 (by decide) d_Words_meet_57 (fun r_12 => ?_)
      refine rt_ifnonnull 63 d_Words_meet_58 (by decide) (fun _ => ?_) (fun _ => ?_)
      · refine rb_TC.out ?_
        refine rb_TC.mono (rk_iconst (0 : Int32) d_Words_meet_61 (by decide)) ?_
        exact rt_iret (ty := .boolean) rfl (by decide) (fun h => h) d_Words_meet_62
      · refine rb_TC.mono (rk_iinc (lv2 := [some (va_rf r0), some (va_rf r1), none, some (.int x3), some (.int (x4 + 1))]) (x4 + 1) d_Words_meet_63 rfl rfl (by decide) (fun _ => rb_one_i) rfl) ?_
        refine rb_TC.mono (rk_goto 7 d_Words_meet_66 (by decide)) ?_
        exact rb_back
noncomputable def f_Words_meet (r0 : Option Nat) (r1 : Option Nat) (x2 : Int32) (x3 : Int32) (σ : rb_St) : Option rb_Rs :=
  rb_it (fun z : (Int32 × rb_St) => f_Words_meet_b7 (r0) (r1) (x3) (z.1) z.2) ((rb_mx x2 (0 : Int32)), σ)
theorem s_Words_meet {E : rb_EV} {d : Nat} (hdd : 7 ≤ d) (r0 : Option Nat) (r1 : Option Nat) (x2 : Int32) (x3 : Int32) (σ : rb_St) : rb_Does E k_Words_meet d [va_rf r0, va_rf r1, .int x2, .int x3] σ (f_Words_meet r0 r1 x2 x3 σ) := by
  refine rb_start (lv := [some (va_rf r0), some (va_rf r1), some (.int x2), some (.int x3), none]) (by decide) (by simp [lg_sl, rb_as, lv_args, rb_cat_r, rb_cat_i, rb_cat_l, rb_nL, k_Words_meet]) (fun res => ?_)
  unfold f_Words_meet
  refine rb_TC.mono (rk_iload_n 2 d_Words_meet_0 rfl rfl) ?_
  refine rb_TC.mono (rk_iconst (0 : Int32) d_Words_meet_1 (by decide)) ?_
  refine rb_TC.mono (rk_mmax w_mmax_Words_62 (Nat.le_trans (by decide) hdd) (by simp [rb_cat_r, rb_cat_i, rb_cat_l]) d_Words_meet_2) ?_
  refine rb_TC.mono (rk_istore (lv2 := [some (va_rf r0), some (va_rf r1), some (.int x2), some (.int x3), some (.int (rb_mx x2 (0 : Int32)))]) d_Words_meet_5 (by decide) (fun _ => rb_one_i) rfl) ?_
  refine rb_TC.mono (rk_less (lv2 := [some (va_rf r0), some (va_rf r1), none, some (.int x3), some (.int (rb_mx x2 (0 : Int32)))]) (rb_le_ok (rb_leS (rb_leS (rb_leN (rb_leS (rb_leS rb_le0))))))) ?_
  exact rb_TC.loop2 (A := (fun z : (Int32 × rb_St) => rb_WK E k_Words_meet d σ res 7 [some (va_rf r0), some (va_rf r1), none, some (.int x3), some (.int z.1)] [] z.2)) ((rb_mx x2 (0 : Int32)), σ) (fun z => t_Words_meet_b7 hdd  (r0) (r1) (x3) (z.1) z.2)
-- ===== RuleBuilder$Words.name(I)LRuleBuilder$Name;
def k_Words_name : rb_MK := (⟨"RuleBuilder$Words", "name", "(I)LRuleBuilder$Name;"⟩, prog_12_method_10_code, 2, some (.object "RuleBuilder$Name"))
theorem mw_Words_name : rb_Mw k_Words_name 1 := ⟨rb_inG 964 (by decide +kernel) rfl, rb_inG 90 (by decide +kernel) rfl, ⟨by decide, by decide, by decide +kernel⟩, by decide⟩
theorem d_Words_name_0 : decode prog_12_method_10_code 0 = .ok (.iload_n 1, 1) := by decide +kernel
theorem d_Words_name_1 : decode prog_12_method_10_code 1 = .ok (.ifCond .lt 20, 3) := by decide +kernel
theorem d_Words_name_4 : decode prog_12_method_10_code 4 = .ok (.iload_n 1, 1) := by decide +kernel
theorem d_Words_name_5 : decode prog_12_method_10_code 5 = .ok (.aload_n 0, 1) := by decide +kernel
theorem d_Words_name_6 : decode prog_12_method_10_code 6 = .ok (.getfield 28, 3) := by decide +kernel
theorem d_Words_name_9 : decode prog_12_method_10_code 9 = .ok (.if_icmp .ge 12, 3) := by decide +kernel
theorem d_Words_name_12 : decode prog_12_method_10_code 12 = .ok (.aload_n 0, 1) := by decide +kernel
theorem d_Words_name_13 : decode prog_12_method_10_code 13 = .ok (.getfield 20, 3) := by decide +kernel
theorem d_Words_name_16 : decode prog_12_method_10_code 16 = .ok (.iload_n 1, 1) := by decide +kernel
theorem d_Words_name_17 : decode prog_12_method_10_code 17 = .ok (.aaload, 1) := by decide +kernel
theorem d_Words_name_18 : decode prog_12_method_10_code 18 = .ok (.goto 4, 3) := by decide +kernel
theorem d_Words_name_21 : decode prog_12_method_10_code 21 = .ok (.aconst_null, 1) := by decide +kernel
theorem d_Words_name_22 : decode prog_12_method_10_code 22 = .ok (.areturn, 1) := by decide +kernel
noncomputable def f_Words_name (r0 : Option Nat) (x1 : Int32) (σ : rb_St) : Option rb_Rs :=
  if x1 < 0 then (some (some (va_rf none), σ)) else ((rb_gI σ r0 6 4).bind fun x_1 => if x_1 ≤ x1 then (some (some (va_rf none), σ)) else ((rb_gR σ r0 6 3).bind fun r_2 => (rb_aR σ r_2 112 x1).bind fun r_3 => some (some (va_rf r_3), σ)))
theorem s_Words_name {E : rb_EV} {d : Nat} (hdd : 0 ≤ d) (r0 : Option Nat) (x1 : Int32) (σ : rb_St) : rb_Does E k_Words_name d [va_rf r0, .int x1] σ (f_Words_name r0 x1 σ) := by
  refine rb_start (lv := [some (va_rf r0), some (.int x1)]) (by decide) (by simp [lg_sl, rb_as, lv_args, rb_cat_r, rb_cat_i, rb_cat_l, rb_nL, k_Words_name]) (fun res => ?_)
  unfold f_Words_name
  refine rb_TC.mono (rk_iload_n 1 d_Words_name_0 rfl rfl) ?_
  refine rt_if_lt 21 d_Words_name_1 (by decide) (fun _ => ?_) (fun _ => ?_)
  · refine rb_TC.mono (rk_null d_Words_name_21) ?_
    exact rt_aret (ty := .object "RuleBuilder$Name") rfl (Or.inl ⟨_, rfl⟩) (fun h => h) d_Words_name_22
  · refine rb_TC.mono (rk_iload_n 1 d_Words_name_4 rfl rfl) ?_
    refine rb_TC.mono (rk_aload_n 0 d_Words_name_5 rfl rfl) ?_
    refine rt_gI r0 fw_Words_28 d_Words_name_6 (fun x_1 => ?_)
    refine rt_icmp_ge 21 d_Words_name_9 (by decide) (fun _ => ?_) (fun _ => ?_)
    · refine rb_TC.mono (rk_null d_Words_name_21) ?_
      exact rt_aret (ty := .object "RuleBuilder$Name") rfl (Or.inl ⟨_, rfl⟩) (fun h => h) d_Words_name_22
    · refine rb_TC.mono (rk_aload_n 0 d_Words_name_12 rfl rfl) ?_
      refine rt_gR r0 fw_Words_20 d_Words_name_13 (fun r_2 => ?_)
      refine rb_TC.mono (rk_iload_n 1 d_Words_name_16 rfl rfl) ?_
      refine rt_aald (t := 112) r_2 (by decide) d_Words_name_17 (fun r_3 => ?_)
      refine rb_TC.mono (rk_goto 22 d_Words_name_18 (by decide)) ?_
      exact rt_aret (ty := .object "RuleBuilder$Name") rfl (Or.inl ⟨_, rfl⟩) (fun h => h) d_Words_name_22
-- ===== RuleBuilder$Words.is(ILjava/lang/String;)Z
def k_Words_is : rb_MK := (⟨"RuleBuilder$Words", "is", "(ILjava/lang/String;)Z"⟩, prog_12_method_5_code, 3, some (.boolean))
theorem mw_Words_is : rb_Mw k_Words_is 2 := ⟨rb_inG 1125 (by decide +kernel) rfl, rb_inG 90 (by decide +kernel) rfl, ⟨by decide, by decide, by decide +kernel⟩, by decide⟩
theorem vw_Words_38 : rb_Vw "RuleBuilder$Words" 38 k_Str_length 14 0 := ⟨mw_Str_length, rb_inG 1126 (by decide +kernel) rfl, rb_inG 590 (by decide +kernel) rfl, rb_inG 591 (by decide +kernel) rfl, by decide, by decide, _, rfl, rfl⟩
theorem vw_Words_44 : rb_Vw "RuleBuilder$Words" 44 k_Text_holds 2 5 := ⟨mw_Text_holds, rb_inG 1127 (by decide +kernel) rfl, rb_inG 762 (by decide +kernel) rfl, rb_inG 763 (by decide +kernel) rfl, by decide, by decide, _, rfl, rfl⟩
theorem d_Words_is_0 : decode prog_12_method_5_code 0 = .ok (.iload_n 1, 1) := by decide +kernel
theorem d_Words_is_1 : decode prog_12_method_5_code 1 = .ok (.ifCond .lt 43, 3) := by decide +kernel
theorem d_Words_is_4 : decode prog_12_method_5_code 4 = .ok (.iload_n 1, 1) := by decide +kernel
theorem d_Words_is_5 : decode prog_12_method_5_code 5 = .ok (.aload_n 0, 1) := by decide +kernel
theorem d_Words_is_6 : decode prog_12_method_5_code 6 = .ok (.getfield 28, 3) := by decide +kernel
theorem d_Words_is_9 : decode prog_12_method_5_code 9 = .ok (.if_icmp .ge 35, 3) := by decide +kernel
theorem d_Words_is_12 : decode prog_12_method_5_code 12 = .ok (.aload_n 0, 1) := by decide +kernel
theorem d_Words_is_13 : decode prog_12_method_5_code 13 = .ok (.getfield 24, 3) := by decide +kernel
theorem d_Words_is_16 : decode prog_12_method_5_code 16 = .ok (.aload_n 0, 1) := by decide +kernel
theorem d_Words_is_17 : decode prog_12_method_5_code 17 = .ok (.getfield 11, 3) := by decide +kernel
theorem d_Words_is_20 : decode prog_12_method_5_code 20 = .ok (.iload_n 1, 1) := by decide +kernel
theorem d_Words_is_21 : decode prog_12_method_5_code 21 = .ok (.iaload, 1) := by decide +kernel
theorem d_Words_is_22 : decode prog_12_method_5_code 22 = .ok (.aload_n 0, 1) := by decide +kernel
theorem d_Words_is_23 : decode prog_12_method_5_code 23 = .ok (.getfield 15, 3) := by decide +kernel
theorem d_Words_is_26 : decode prog_12_method_5_code 26 = .ok (.iload_n 1, 1) := by decide +kernel
theorem d_Words_is_27 : decode prog_12_method_5_code 27 = .ok (.iaload, 1) := by decide +kernel
theorem d_Words_is_28 : decode prog_12_method_5_code 28 = .ok (.aload_n 2, 1) := by decide +kernel
theorem d_Words_is_29 : decode prog_12_method_5_code 29 = .ok (.iconst 0, 1) := by decide +kernel
theorem d_Words_is_30 : decode prog_12_method_5_code 30 = .ok (.aload_n 2, 1) := by decide +kernel
theorem d_Words_is_31 : decode prog_12_method_5_code 31 = .ok (.invokevirtual 38, 3) := by decide +kernel
theorem d_Words_is_34 : decode prog_12_method_5_code 34 = .ok (.invokevirtual 44, 3) := by decide +kernel
theorem d_Words_is_37 : decode prog_12_method_5_code 37 = .ok (.ifCond .eq 7, 3) := by decide +kernel
theorem d_Words_is_40 : decode prog_12_method_5_code 40 = .ok (.iconst 1, 1) := by decide +kernel
theorem d_Words_is_41 : decode prog_12_method_5_code 41 = .ok (.goto 4, 3) := by decide +kernel
theorem d_Words_is_44 : decode prog_12_method_5_code 44 = .ok (.iconst 0, 1) := by decide +kernel
theorem d_Words_is_45 : decode prog_12_method_5_code 45 = .ok (.ireturn, 1) := by decide +kernel
noncomputable def f_Words_is (r0 : Option Nat) (x1 : Int32) (r2 : Option Nat) (σ : rb_St) : Option rb_Rs :=
  if x1 < 0 then (some (some (.int (0 : Int32)), σ)) else ((rb_gI σ r0 6 4).bind fun x_1 => if x_1 ≤ x1 then (some (some (.int (0 : Int32)), σ)) else ((rb_gR σ r0 6 0).bind fun r_2 => (rb_gR σ r0 6 1).bind fun r_3 => (rb_aI σ r_3 102 x1).bind fun x_4 => (rb_gR σ r0 6 2).bind fun r_5 => (rb_aI σ r_5 102 x1).bind fun x_6 => (rb_fc σ r2 14).bind fun _ => rb_cI (f_Str_length (r2)  σ) fun x_7 σ_8 => (rb_fc σ_8 r_2 2).bind fun _ => rb_cI (f_Text_holds (r_2) (x_4) (x_6) (r2) ((0 : Int32)) (x_7) σ_8) fun x_9 σ_10 => if x_9 = 0 then (some (some (.int (0 : Int32)), σ_10)) else (some (some (.int (1 : Int32)), σ_10))))
theorem s_Words_is {E : rb_EV} {d : Nat} (hdd : 5 ≤ d) (r0 : Option Nat) (x1 : Int32) (r2 : Option Nat) (σ : rb_St) : rb_Does E k_Words_is d [va_rf r0, .int x1, va_rf r2] σ (f_Words_is r0 x1 r2 σ) := by
  refine rb_start (lv := [some (va_rf r0), some (.int x1), some (va_rf r2)]) (by decide) (by simp [lg_sl, rb_as, lv_args, rb_cat_r, rb_cat_i, rb_cat_l, rb_nL, k_Words_is]) (fun res => ?_)
  unfold f_Words_is
  refine rb_TC.mono (rk_iload_n 1 d_Words_is_0 rfl rfl) ?_
  refine rt_if_lt 44 d_Words_is_1 (by decide) (fun _ => ?_) (fun _ => ?_)
  · refine rb_TC.mono (rk_iconst (0 : Int32) d_Words_is_44 (by decide)) ?_
    exact rt_iret (ty := .boolean) rfl (by decide) (fun h => h) d_Words_is_45
  · refine rb_TC.mono (rk_iload_n 1 d_Words_is_4 rfl rfl) ?_
    refine rb_TC.mono (rk_aload_n 0 d_Words_is_5 rfl rfl) ?_
    refine rt_gI r0 fw_Words_28 d_Words_is_6 (fun x_1 => ?_)
    refine rt_icmp_ge 44 d_Words_is_9 (by decide) (fun _ => ?_) (fun _ => ?_)
    · refine rb_TC.mono (rk_iconst (0 : Int32) d_Words_is_44 (by decide)) ?_
      exact rt_iret (ty := .boolean) rfl (by decide) (fun h => h) d_Words_is_45
    · refine rb_TC.mono (rk_aload_n 0 d_Words_is_12 rfl rfl) ?_
      refine rt_gR r0 fw_Words_24 d_Words_is_13 (fun r_2 => ?_)
      refine rb_TC.mono (rk_aload_n 0 d_Words_is_16 rfl rfl) ?_
      refine rt_gR r0 fw_Words_11 d_Words_is_17 (fun r_3 => ?_)
      refine rb_TC.mono (rk_iload_n 1 d_Words_is_20 rfl rfl) ?_
      refine rt_iald r_3 d_Words_is_21 (fun x_4 => ?_)
      refine rb_TC.mono (rk_aload_n 0 d_Words_is_22 rfl rfl) ?_
      refine rt_gR r0 fw_Words_15 d_Words_is_23 (fun r_5 => ?_)
      refine rb_TC.mono (rk_iload_n 1 d_Words_is_26 rfl rfl) ?_
      refine rt_iald r_5 d_Words_is_27 (fun x_6 => ?_)
      refine rb_TC.mono (rk_aload_n 2 d_Words_is_28 rfl rfl) ?_
      refine rb_TC.mono (rk_iconst (0 : Int32) d_Words_is_29 (by decide)) ?_
      refine rb_TC.mono (rk_aload_n 2 d_Words_is_30 rfl rfl) ?_
      refine rt_vI (As := []) (st := [.int (0 : Int32), va_rf r2, .int x_6, .int x_4, va_rf r_2]) (r2) vw_Words_38 (s_Str_length (Nat.le_refl _) (r2)  σ) (Nat.le_trans (by decide) hdd) rfl (by simp [rb_cat_r, rb_cat_i, rb_cat_l]) d_Words_is_31 (fun x_7 σ_8 => ?_)
      refine rt_vI (As := [.int x_4, .int x_6, va_rf r2, .int (0 : Int32), .int x_7]) (st := []) (r_2) vw_Words_44 (s_Text_holds (Nat.le_refl _) (r_2) (x_4) (x_6) (r2) ((0 : Int32)) (x_7) σ_8) (Nat.le_trans (by decide) hdd) rfl (by simp [rb_cat_r, rb_cat_i, rb_cat_l]) d_Words_is_34 (fun x_9 σ_10 => ?_)
      refine rt_if_eq 44 d_Words_is_37 (by decide) (fun _ => ?_) (fun _ => ?_)
      · refine rb_TC.mono (rk_iconst (0 : Int32) d_Words_is_44 (by decide)) ?_
        exact rt_iret (ty := .boolean) rfl (by decide) (fun h => h) d_Words_is_45
      · refine rb_TC.mono (rk_iconst (1 : Int32) d_Words_is_40 (by decide)) ?_
        refine rb_TC.mono (rk_goto 45 d_Words_is_41 (by decide)) ?_
        exact rt_iret (ty := .boolean) rfl (by decide) (fun h => h) d_Words_is_45
-- ===== RuleBuilder$Words.addTo(LRuleBuilder$Text;I)V
def k_Words_addTo : rb_MK := (⟨"RuleBuilder$Words", "addTo", "(LRuleBuilder$Text;I)V"⟩, prog_12_method_8_code, 3, none)
theorem mw_Words_addTo : rb_Mw k_Words_addTo 2 := ⟨rb_inG 1136 (by decide +kernel) rfl, rb_inG 90 (by decide +kernel) rfl, ⟨by decide, by decide, by decide +kernel⟩, by decide⟩
theorem vw_Words_58 : rb_Vw "RuleBuilder$Words" 58 k_Text_addText 2 3 := ⟨mw_Text_addText, rb_inG 1137 (by decide +kernel) rfl, rb_inG 782 (by decide +kernel) rfl, rb_inG 783 (by decide +kernel) rfl, by decide, by decide, _, rfl, rfl⟩
theorem d_Words_addTo_0 : decode prog_12_method_8_code 0 = .ok (.iload_n 2, 1) := by decide +kernel
theorem d_Words_addTo_1 : decode prog_12_method_8_code 1 = .ok (.ifCond .lt 32, 3) := by decide +kernel
theorem d_Words_addTo_4 : decode prog_12_method_8_code 4 = .ok (.iload_n 2, 1) := by decide +kernel
theorem d_Words_addTo_5 : decode prog_12_method_8_code 5 = .ok (.aload_n 0, 1) := by decide +kernel
theorem d_Words_addTo_6 : decode prog_12_method_8_code 6 = .ok (.getfield 28, 3) := by decide +kernel
theorem d_Words_addTo_9 : decode prog_12_method_8_code 9 = .ok (.if_icmp .ge 24, 3) := by decide +kernel
theorem d_Words_addTo_12 : decode prog_12_method_8_code 12 = .ok (.aload_n 1, 1) := by decide +kernel
theorem d_Words_addTo_13 : decode prog_12_method_8_code 13 = .ok (.aload_n 0, 1) := by decide +kernel
theorem d_Words_addTo_14 : decode prog_12_method_8_code 14 = .ok (.getfield 24, 3) := by decide +kernel
theorem d_Words_addTo_17 : decode prog_12_method_8_code 17 = .ok (.aload_n 0, 1) := by decide +kernel
theorem d_Words_addTo_18 : decode prog_12_method_8_code 18 = .ok (.getfield 11, 3) := by decide +kernel
theorem d_Words_addTo_21 : decode prog_12_method_8_code 21 = .ok (.iload_n 2, 1) := by decide +kernel
theorem d_Words_addTo_22 : decode prog_12_method_8_code 22 = .ok (.iaload, 1) := by decide +kernel
theorem d_Words_addTo_23 : decode prog_12_method_8_code 23 = .ok (.aload_n 0, 1) := by decide +kernel
theorem d_Words_addTo_24 : decode prog_12_method_8_code 24 = .ok (.getfield 15, 3) := by decide +kernel
theorem d_Words_addTo_27 : decode prog_12_method_8_code 27 = .ok (.iload_n 2, 1) := by decide +kernel
theorem d_Words_addTo_28 : decode prog_12_method_8_code 28 = .ok (.iaload, 1) := by decide +kernel
theorem d_Words_addTo_29 : decode prog_12_method_8_code 29 = .ok (.invokevirtual 58, 3) := by decide +kernel
theorem d_Words_addTo_32 : decode prog_12_method_8_code 32 = .ok (.pop, 1) := by decide +kernel
theorem d_Words_addTo_33 : decode prog_12_method_8_code 33 = .ok (.return_, 1) := by decide +kernel
noncomputable def f_Words_addTo (r0 : Option Nat) (r1 : Option Nat) (x2 : Int32) (σ : rb_St) : Option rb_Rs :=
  if x2 < 0 then (some (none, σ)) else ((rb_gI σ r0 6 4).bind fun x_1 => if x_1 ≤ x2 then (some (none, σ)) else ((rb_gR σ r0 6 0).bind fun r_2 => (rb_gR σ r0 6 1).bind fun r_3 => (rb_aI σ r_3 102 x2).bind fun x_4 => (rb_gR σ r0 6 2).bind fun r_5 => (rb_aI σ r_5 102 x2).bind fun x_6 => (rb_fc σ r1 2).bind fun _ => rb_cI (f_Text_addText (r1) (r_2) (x_4) (x_6) σ) fun x_7 σ_8 => some (none, σ_8)))
theorem s_Words_addTo {E : rb_EV} {d : Nat} (hdd : 2 ≤ d) (r0 : Option Nat) (r1 : Option Nat) (x2 : Int32) (σ : rb_St) : rb_Does E k_Words_addTo d [va_rf r0, va_rf r1, .int x2] σ (f_Words_addTo r0 r1 x2 σ) := by
  refine rb_start (lv := [some (va_rf r0), some (va_rf r1), some (.int x2)]) (by decide) (by simp [lg_sl, rb_as, lv_args, rb_cat_r, rb_cat_i, rb_cat_l, rb_nL, k_Words_addTo]) (fun res => ?_)
  unfold f_Words_addTo
  refine rb_TC.mono (rk_iload_n 2 d_Words_addTo_0 rfl rfl) ?_
  refine rt_if_lt 33 d_Words_addTo_1 (by decide) (fun _ => ?_) (fun _ => ?_)
  · exact rt_vret rfl (fun h => h) d_Words_addTo_33
  · refine rb_TC.mono (rk_iload_n 2 d_Words_addTo_4 rfl rfl) ?_
    refine rb_TC.mono (rk_aload_n 0 d_Words_addTo_5 rfl rfl) ?_
    refine rt_gI r0 fw_Words_28 d_Words_addTo_6 (fun x_1 => ?_)
    refine rt_icmp_ge 33 d_Words_addTo_9 (by decide) (fun _ => ?_) (fun _ => ?_)
    · exact rt_vret rfl (fun h => h) d_Words_addTo_33
    · refine rb_TC.mono (rk_aload_n 1 d_Words_addTo_12 rfl rfl) ?_
      refine rb_TC.mono (rk_aload_n 0 d_Words_addTo_13 rfl rfl) ?_
      refine rt_gR r0 fw_Words_24 d_Words_addTo_14 (fun r_2 => ?_)
      refine rb_TC.mono (rk_aload_n 0 d_Words_addTo_17 rfl rfl) ?_
      refine rt_gR r0 fw_Words_11 d_Words_addTo_18 (fun r_3 => ?_)
      refine rb_TC.mono (rk_iload_n 2 d_Words_addTo_21 rfl rfl) ?_
      refine rt_iald r_3 d_Words_addTo_22 (fun x_4 => ?_)
      refine rb_TC.mono (rk_aload_n 0 d_Words_addTo_23 rfl rfl) ?_
      refine rt_gR r0 fw_Words_15 d_Words_addTo_24 (fun r_5 => ?_)
      refine rb_TC.mono (rk_iload_n 2 d_Words_addTo_27 rfl rfl) ?_
      refine rt_iald r_5 d_Words_addTo_28 (fun x_6 => ?_)
      refine rt_vI (As := [va_rf r_2, .int x_4, .int x_6]) (st := []) (r1) vw_Words_58 (s_Text_addText (Nat.le_refl _) (r1) (r_2) (x_4) (x_6) σ) (Nat.le_trans (by decide) hdd) rfl (by simp [rb_cat_r, rb_cat_i, rb_cat_l]) d_Words_addTo_29 (fun x_7 σ_8 => ?_)
      refine rb_TC.mono (rk_popi d_Words_addTo_32) ?_
      exact rt_vret rfl (fun h => h) d_Words_addTo_33
-- ===== RuleBuilder$Command.isMark(C)Z
def k_Cmd_isMark : rb_MK := (⟨"RuleBuilder$Command", "isMark", "(C)Z"⟩, prog_3_method_2_code, 1, some (.boolean))
theorem mw_Cmd_isMark : rb_Mw k_Cmd_isMark 1 := ⟨rb_inG 623 (by decide +kernel) rfl, rb_inG 100 (by decide +kernel) rfl, ⟨by decide, by decide, by decide +kernel⟩, by decide⟩
theorem d_Cmd_isMark_0 : decode prog_3_method_2_code 0 = .ok (.iload_n 0, 1) := by decide +kernel
theorem d_Cmd_isMark_1 : decode prog_3_method_2_code 1 = .ok (.bipush 45, 2) := by decide +kernel
theorem d_Cmd_isMark_3 : decode prog_3_method_2_code 3 = .ok (.if_icmp .eq 15, 3) := by decide +kernel
theorem d_Cmd_isMark_6 : decode prog_3_method_2_code 6 = .ok (.iload_n 0, 1) := by decide +kernel
theorem d_Cmd_isMark_7 : decode prog_3_method_2_code 7 = .ok (.bipush 64, 2) := by decide +kernel
theorem d_Cmd_isMark_9 : decode prog_3_method_2_code 9 = .ok (.if_icmp .eq 9, 3) := by decide +kernel
theorem d_Cmd_isMark_12 : decode prog_3_method_2_code 12 = .ok (.iload_n 0, 1) := by decide +kernel
theorem d_Cmd_isMark_13 : decode prog_3_method_2_code 13 = .ok (.bipush 43, 2) := by decide +kernel
theorem d_Cmd_isMark_15 : decode prog_3_method_2_code 15 = .ok (.if_icmp .ne 7, 3) := by decide +kernel
theorem d_Cmd_isMark_18 : decode prog_3_method_2_code 18 = .ok (.iconst 1, 1) := by decide +kernel
theorem d_Cmd_isMark_19 : decode prog_3_method_2_code 19 = .ok (.goto 4, 3) := by decide +kernel
theorem d_Cmd_isMark_22 : decode prog_3_method_2_code 22 = .ok (.iconst 0, 1) := by decide +kernel
theorem d_Cmd_isMark_23 : decode prog_3_method_2_code 23 = .ok (.ireturn, 1) := by decide +kernel
noncomputable def f_Cmd_isMark (x0 : Int32) (σ : rb_St) : Option rb_Rs :=
  if x0 = (45 : Int32) then (some (some (.int (1 : Int32)), σ)) else (if x0 = (64 : Int32) then (some (some (.int (1 : Int32)), σ)) else (if x0 = (43 : Int32) then (some (some (.int (1 : Int32)), σ)) else (some (some (.int (0 : Int32)), σ))))
theorem s_Cmd_isMark {E : rb_EV} {d : Nat} (hdd : 0 ≤ d) (x0 : Int32) (σ : rb_St) : rb_Does E k_Cmd_isMark d [.int x0] σ (f_Cmd_isMark x0 σ) := by
  refine rb_start (lv := [some (.int x0)]) (by decide) (by simp [lg_sl, rb_as, lv_args, rb_cat_r, rb_cat_i, rb_cat_l, rb_nL, k_Cmd_isMark]) (fun res => ?_)
  unfold f_Cmd_isMark
  refine rb_TC.mono (rk_iload_n 0 d_Cmd_isMark_0 rfl rfl) ?_
  refine rb_TC.mono (rk_bipush (45 : Int32) d_Cmd_isMark_1 (by decide)) ?_
  refine rt_icmp_eq 18 d_Cmd_isMark_3 (by decide) (fun _ => ?_) (fun _ => ?_)
  · refine rb_TC.mono (rk_iconst (1 : Int32) d_Cmd_isMark_18 (by decide)) ?_
    refine rb_TC.mono (rk_goto 23 d_Cmd_isMark_19 (by decide)) ?_
    exact rt_iret (ty := .boolean) rfl (by decide) (fun h => h) d_Cmd_isMark_23
  · refine rb_TC.mono (rk_iload_n 0 d_Cmd_isMark_6 rfl rfl) ?_
    refine rb_TC.mono (rk_bipush (64 : Int32) d_Cmd_isMark_7 (by decide)) ?_
    refine rt_icmp_eq 18 d_Cmd_isMark_9 (by decide) (fun _ => ?_) (fun _ => ?_)
    · refine rb_TC.mono (rk_iconst (1 : Int32) d_Cmd_isMark_18 (by decide)) ?_
      refine rb_TC.mono (rk_goto 23 d_Cmd_isMark_19 (by decide)) ?_
      exact rt_iret (ty := .boolean) rfl (by decide) (fun h => h) d_Cmd_isMark_23
    · refine rb_TC.mono (rk_iload_n 0 d_Cmd_isMark_12 rfl rfl) ?_
      refine rb_TC.mono (rk_bipush (43 : Int32) d_Cmd_isMark_13 (by decide)) ?_
      refine rt_icmp_ne 22 d_Cmd_isMark_15 (by decide) (fun _ => ?_) (fun _ => ?_)
      · refine rb_TC.mono (rk_iconst (1 : Int32) d_Cmd_isMark_18 (by decide)) ?_
        refine rb_TC.mono (rk_goto 23 d_Cmd_isMark_19 (by decide)) ?_
        exact rt_iret (ty := .boolean) rfl (by decide) (fun h => h) d_Cmd_isMark_23
      · refine rb_TC.mono (rk_iconst (0 : Int32) d_Cmd_isMark_22 (by decide)) ?_
        exact rt_iret (ty := .boolean) rfl (by decide) (fun h => h) d_Cmd_isMark_23
-- ===== jdk/internal/util/Preconditions.checkFromToIndex(IIILjava/util/function/BiFunction;)I
def k_Pre_checkFromToIndex : rb_MK := (⟨"jdk/internal/util/Preconditions", "checkFromToIndex", "(IIILjava/util/function/BiFunction;)I"⟩, prog_22_method_12_code, 4, some (.int))
theorem mw_Pre_checkFromToIndex : rb_Mw k_Pre_checkFromToIndex 4 := ⟨rb_inG 638 (by decide +kernel) rfl, rb_inG 98 (by decide +kernel) rfl, ⟨by decide, by decide, by decide +kernel⟩, by decide⟩
theorem d_Pre_checkFromToIndex_0 : decode prog_22_method_12_code 0 = .ok (.iload_n 0, 1) := by decide +kernel
theorem d_Pre_checkFromToIndex_1 : decode prog_22_method_12_code 1 = .ok (.ifCond .lt 13, 3) := by decide +kernel
theorem d_Pre_checkFromToIndex_4 : decode prog_22_method_12_code 4 = .ok (.iload_n 0, 1) := by decide +kernel
theorem d_Pre_checkFromToIndex_5 : decode prog_22_method_12_code 5 = .ok (.iload_n 1, 1) := by decide +kernel
theorem d_Pre_checkFromToIndex_6 : decode prog_22_method_12_code 6 = .ok (.if_icmp .gt 8, 3) := by decide +kernel
theorem d_Pre_checkFromToIndex_9 : decode prog_22_method_12_code 9 = .ok (.iload_n 1, 1) := by decide +kernel
theorem d_Pre_checkFromToIndex_10 : decode prog_22_method_12_code 10 = .ok (.iload_n 2, 1) := by decide +kernel
theorem d_Pre_checkFromToIndex_11 : decode prog_22_method_12_code 11 = .ok (.if_icmp .le 11, 3) := by decide +kernel
theorem d_Pre_checkFromToIndex_14 : decode prog_22_method_12_code 14 = .ok (.aload_n 3, 1) := by decide +kernel
theorem d_Pre_checkFromToIndex_15 : decode prog_22_method_12_code 15 = .ok (.iload_n 0, 1) := by decide +kernel
theorem d_Pre_checkFromToIndex_16 : decode prog_22_method_12_code 16 = .ok (.iload_n 1, 1) := by decide +kernel
theorem d_Pre_checkFromToIndex_17 : decode prog_22_method_12_code 17 = .ok (.iload_n 2, 1) := by decide +kernel
theorem d_Pre_checkFromToIndex_18 : decode prog_22_method_12_code 18 = .ok (.invokestatic 99, 3) := by decide +kernel
theorem d_Pre_checkFromToIndex_22 : decode prog_22_method_12_code 22 = .ok (.iload_n 0, 1) := by decide +kernel
theorem d_Pre_checkFromToIndex_23 : decode prog_22_method_12_code 23 = .ok (.ireturn, 1) := by decide +kernel
noncomputable def f_Pre_checkFromToIndex_j14 (x0 : Int32) (x1 : Int32) (x2 : Int32) (r3 : Option Nat) (σ : rb_St) : Option rb_Rs :=
  none
theorem t_Pre_checkFromToIndex_j14 {E : rb_EV} {d : Nat} {σ0 : rb_St} {res : rb_Rs} (hdd : 0 ≤ d)  (x0 : Int32) (x1 : Int32) (x2 : Int32) (r3 : Option Nat) (σ : rb_St) : rb_TC (f_Pre_checkFromToIndex_j14 x0 x1 x2 r3 σ) (fun r => r = res) (rb_WK E k_Pre_checkFromToIndex d σ0 res 14 [some (.int x0), some (.int x1), some (.int x2), some (va_rf r3)] [] σ) := by
  unfold f_Pre_checkFromToIndex_j14
  refine rb_TC.mono (rk_aload_n 3 d_Pre_checkFromToIndex_14 rfl rfl) ?_
  refine rb_TC.mono (rk_iload_n 0 d_Pre_checkFromToIndex_15 rfl rfl) ?_
  refine rb_TC.mono (rk_iload_n 1 d_Pre_checkFromToIndex_16 rfl rfl) ?_
  refine rb_TC.mono (rk_iload_n 2 d_Pre_checkFromToIndex_17 rfl rfl) ?_
  exact rb_TC.none
noncomputable def f_Pre_checkFromToIndex (x0 : Int32) (x1 : Int32) (x2 : Int32) (r3 : Option Nat) (σ : rb_St) : Option rb_Rs :=
  if x0 < 0 then (f_Pre_checkFromToIndex_j14 (x0) (x1) (x2) (r3) σ) else (if x1 < x0 then (f_Pre_checkFromToIndex_j14 (x0) (x1) (x2) (r3) σ) else (if x1 ≤ x2 then (some (some (.int x0), σ)) else (f_Pre_checkFromToIndex_j14 (x0) (x1) (x2) (r3) σ)))
theorem s_Pre_checkFromToIndex {E : rb_EV} {d : Nat} (hdd : 0 ≤ d) (x0 : Int32) (x1 : Int32) (x2 : Int32) (r3 : Option Nat) (σ : rb_St) : rb_Does E k_Pre_checkFromToIndex d [.int x0, .int x1, .int x2, va_rf r3] σ (f_Pre_checkFromToIndex x0 x1 x2 r3 σ) := by
  refine rb_start (lv := [some (.int x0), some (.int x1), some (.int x2), some (va_rf r3)]) (by decide) (by simp [lg_sl, rb_as, lv_args, rb_cat_r, rb_cat_i, rb_cat_l, rb_nL, k_Pre_checkFromToIndex]) (fun res => ?_)
  unfold f_Pre_checkFromToIndex
  refine rb_TC.mono (rk_iload_n 0 d_Pre_checkFromToIndex_0 rfl rfl) ?_
  refine rt_if_lt 14 d_Pre_checkFromToIndex_1 (by decide) (fun _ => ?_) (fun _ => ?_)
  · exact t_Pre_checkFromToIndex_j14 hdd  (x0) (x1) (x2) (r3) σ
  · refine rb_TC.mono (rk_iload_n 0 d_Pre_checkFromToIndex_4 rfl rfl) ?_
    refine rb_TC.mono (rk_iload_n 1 d_Pre_checkFromToIndex_5 rfl rfl) ?_
    refine rt_icmp_gt 14 d_Pre_checkFromToIndex_6 (by decide) (fun _ => ?_) (fun _ => ?_)
    · exact t_Pre_checkFromToIndex_j14 hdd  (x0) (x1) (x2) (r3) σ
    · refine rb_TC.mono (rk_iload_n 1 d_Pre_checkFromToIndex_9 rfl rfl) ?_
      refine rb_TC.mono (rk_iload_n 2 d_Pre_checkFromToIndex_10 rfl rfl) ?_
      refine rt_icmp_le 22 d_Pre_checkFromToIndex_11 (by decide) (fun _ => ?_) (fun _ => ?_)
      · refine rb_TC.mono (rk_iload_n 0 d_Pre_checkFromToIndex_22 rfl rfl) ?_
        exact rt_iret (ty := .int) rfl rfl (fun h => h) d_Pre_checkFromToIndex_23
      · exact t_Pre_checkFromToIndex_j14 hdd  (x0) (x1) (x2) (r3) σ
-- ===== java/lang/String.checkBoundsBeginEnd(III)V
def k_Str_checkBoundsBeginEnd : rb_MK := (⟨"java/lang/String", "checkBoundsBeginEnd", "(III)V"⟩, prog_17_method_158_code, 3, none)
theorem mw_Str_checkBoundsBeginEnd : rb_Mw k_Str_checkBoundsBeginEnd 3 := ⟨rb_inG 635 (by decide +kernel) rfl, rb_inG 96 (by decide +kernel) rfl, ⟨by decide, by decide, by decide +kernel⟩, by decide⟩
theorem sw_Str_1062 : rb_Sw "java/lang/String" 1062 k_Pre_checkFromToIndex 4 := ⟨mw_Pre_checkFromToIndex, rb_inG 636 (by decide +kernel) rfl, rb_inG 637 (by decide +kernel) rfl⟩
theorem d_Str_checkBoundsBeginEnd_0 : decode prog_17_method_158_code 0 = .ok (.iload_n 0, 1) := by decide +kernel
theorem d_Str_checkBoundsBeginEnd_1 : decode prog_17_method_158_code 1 = .ok (.iload_n 1, 1) := by decide +kernel
theorem d_Str_checkBoundsBeginEnd_2 : decode prog_17_method_158_code 2 = .ok (.iload_n 2, 1) := by decide +kernel
theorem d_Str_checkBoundsBeginEnd_3 : decode prog_17_method_158_code 3 = .ok (.getstatic 1053, 3) := by decide +kernel
theorem d_Str_checkBoundsBeginEnd_6 : decode prog_17_method_158_code 6 = .ok (.invokestatic 1062, 3) := by decide +kernel
theorem d_Str_checkBoundsBeginEnd_9 : decode prog_17_method_158_code 9 = .ok (.pop, 1) := by decide +kernel
theorem d_Str_checkBoundsBeginEnd_10 : decode prog_17_method_158_code 10 = .ok (.return_, 1) := by decide +kernel
noncomputable def f_Str_checkBoundsBeginEnd (x0 : Int32) (x1 : Int32) (x2 : Int32) (σ : rb_St) : Option rb_Rs :=
  rb_cI (f_Pre_checkFromToIndex (x0) (x1) (x2) ((rb_sf (rb_k σ))) σ) fun x_1 σ_2 => some (none, σ_2)
theorem s_Str_checkBoundsBeginEnd {E : rb_EV} {d : Nat} (hdd : 1 ≤ d) (x0 : Int32) (x1 : Int32) (x2 : Int32) (σ : rb_St) : rb_Does E k_Str_checkBoundsBeginEnd d [.int x0, .int x1, .int x2] σ (f_Str_checkBoundsBeginEnd x0 x1 x2 σ) := by
  refine rb_start (lv := [some (.int x0), some (.int x1), some (.int x2)]) (by decide) (by simp [lg_sl, rb_as, lv_args, rb_cat_r, rb_cat_i, rb_cat_l, rb_nL, k_Str_checkBoundsBeginEnd]) (fun res => ?_)
  unfold f_Str_checkBoundsBeginEnd
  refine rb_TC.mono (rk_iload_n 0 d_Str_checkBoundsBeginEnd_0 rfl rfl) ?_
  refine rb_TC.mono (rk_iload_n 1 d_Str_checkBoundsBeginEnd_1 rfl rfl) ?_
  refine rb_TC.mono (rk_iload_n 2 d_Str_checkBoundsBeginEnd_2 rfl rfl) ?_
  refine rb_TC.mono (rk_sioobe w_fl_Str_1053 d_Str_checkBoundsBeginEnd_3) ?_
  refine rt_sI (As := [.int x0, .int x1, .int x2, va_rf (rb_sf (rb_k σ))]) (st := []) sw_Str_1062 (s_Pre_checkFromToIndex (Nat.le_refl _) (x0) (x1) (x2) ((rb_sf (rb_k σ))) σ) (Nat.le_trans (by decide) hdd) rfl (by simp [rb_cat_r, rb_cat_i, rb_cat_l]) d_Str_checkBoundsBeginEnd_6 (fun x_1 σ_2 => ?_)
  refine rb_TC.mono (rk_popi d_Str_checkBoundsBeginEnd_9) ?_
  exact rt_vret rfl (fun h => h) d_Str_checkBoundsBeginEnd_10
-- ===== java/util/Arrays.checkLength(II)V
def k_Arr_checkLength : rb_MK := (⟨"java/util/Arrays", "checkLength", "(II)V"⟩, prog_21_method_131_code, 2, none)
theorem mw_Arr_checkLength : rb_Mw k_Arr_checkLength 2 := ⟨rb_inG 652 (by decide +kernel) rfl, rb_inG 102 (by decide +kernel) rfl, ⟨by decide, by decide, by decide +kernel⟩, by decide⟩
theorem d_Arr_checkLength_0 : decode prog_21_method_131_code 0 = .ok (.iload_n 1, 1) := by decide +kernel
theorem d_Arr_checkLength_1 : decode prog_21_method_131_code 1 = .ok (.iload_n 0, 1) := by decide +kernel
theorem d_Arr_checkLength_2 : decode prog_21_method_131_code 2 = .ok (.if_icmp .ge 35, 3) := by decide +kernel
theorem d_Arr_checkLength_5 : decode prog_21_method_131_code 5 = .ok (.new 43, 3) := by decide +kernel
theorem d_Arr_checkLength_37 : decode prog_21_method_131_code 37 = .ok (.return_, 1) := by decide +kernel
noncomputable def f_Arr_checkLength (x0 : Int32) (x1 : Int32) (σ : rb_St) : Option rb_Rs :=
  if x0 ≤ x1 then (some (none, σ)) else (none)
theorem s_Arr_checkLength {E : rb_EV} {d : Nat} (hdd : 0 ≤ d) (x0 : Int32) (x1 : Int32) (σ : rb_St) : rb_Does E k_Arr_checkLength d [.int x0, .int x1] σ (f_Arr_checkLength x0 x1 σ) := by
  refine rb_start (lv := [some (.int x0), some (.int x1)]) (by decide) (by simp [lg_sl, rb_as, lv_args, rb_cat_r, rb_cat_i, rb_cat_l, rb_nL, k_Arr_checkLength]) (fun res => ?_)
  unfold f_Arr_checkLength
  refine rb_TC.mono (rk_iload_n 1 d_Arr_checkLength_0 rfl rfl) ?_
  refine rb_TC.mono (rk_iload_n 0 d_Arr_checkLength_1 rfl rfl) ?_
  refine rt_icmp_ge 37 d_Arr_checkLength_2 (by decide) (fun _ => ?_) (fun _ => ?_)
  · exact rt_vret rfl (fun h => h) d_Arr_checkLength_37
  · exact rb_TC.none
-- ===== java/util/Arrays.copyOfRangeByte([BII)[B
def k_Arr_copyOfRangeByte : rb_MK := (⟨"java/util/Arrays", "copyOfRangeByte", "([BII)[B"⟩, prog_21_method_133_code, 5, some (.array .byte))
theorem mw_Arr_copyOfRangeByte : rb_Mw k_Arr_copyOfRangeByte 3 := ⟨rb_inG 649 (by decide +kernel) rfl, rb_inG 102 (by decide +kernel) rfl, ⟨by decide, by decide, by decide +kernel⟩, by decide⟩
theorem w_acopy_Arr_150 : rb_Yw "java/util/Arrays" 150 := ⟨rb_inG 656 (by decide +kernel) rfl, rb_inG 433 (by decide +kernel) rfl, rb_inG 432 (by decide +kernel) rfl, rb_inG 95 (by decide +kernel) rfl⟩
theorem w_mmin_Arr_304 : rb_Nw "java/util/Arrays" 304 := ⟨rb_inG 653 (by decide +kernel) rfl, rb_inG 654 (by decide +kernel) rfl, rb_inG 103 (by decide +kernel) rfl, rb_inG 655 (by decide +kernel) rfl⟩
theorem sw_Arr_343 : rb_Sw "java/util/Arrays" 343 k_Arr_checkLength 2 := ⟨mw_Arr_checkLength, rb_inG 650 (by decide +kernel) rfl, rb_inG 651 (by decide +kernel) rfl⟩
theorem d_Arr_copyOfRangeByte_0 : decode prog_21_method_133_code 0 = .ok (.iload_n 1, 1) := by decide +kernel
theorem d_Arr_copyOfRangeByte_1 : decode prog_21_method_133_code 1 = .ok (.iload_n 2, 1) := by decide +kernel
theorem d_Arr_copyOfRangeByte_2 : decode prog_21_method_133_code 2 = .ok (.invokestatic 343, 3) := by decide +kernel
theorem d_Arr_copyOfRangeByte_5 : decode prog_21_method_133_code 5 = .ok (.iload_n 2, 1) := by decide +kernel
theorem d_Arr_copyOfRangeByte_6 : decode prog_21_method_133_code 6 = .ok (.iload_n 1, 1) := by decide +kernel
theorem d_Arr_copyOfRangeByte_7 : decode prog_21_method_133_code 7 = .ok (.isub, 1) := by decide +kernel
theorem d_Arr_copyOfRangeByte_8 : decode prog_21_method_133_code 8 = .ok (.istore_n 3, 1) := by decide +kernel
theorem d_Arr_copyOfRangeByte_9 : decode prog_21_method_133_code 9 = .ok (.iload_n 3, 1) := by decide +kernel
theorem d_Arr_copyOfRangeByte_10 : decode prog_21_method_133_code 10 = .ok (.newarray .byte, 2) := by decide +kernel
theorem d_Arr_copyOfRangeByte_12 : decode prog_21_method_133_code 12 = .ok (.astore 4, 2) := by decide +kernel
theorem d_Arr_copyOfRangeByte_14 : decode prog_21_method_133_code 14 = .ok (.aload_n 0, 1) := by decide +kernel
theorem d_Arr_copyOfRangeByte_15 : decode prog_21_method_133_code 15 = .ok (.iload_n 1, 1) := by decide +kernel
theorem d_Arr_copyOfRangeByte_16 : decode prog_21_method_133_code 16 = .ok (.aload 4, 2) := by decide +kernel
theorem d_Arr_copyOfRangeByte_18 : decode prog_21_method_133_code 18 = .ok (.iconst 0, 1) := by decide +kernel
theorem d_Arr_copyOfRangeByte_19 : decode prog_21_method_133_code 19 = .ok (.aload_n 0, 1) := by decide +kernel
theorem d_Arr_copyOfRangeByte_20 : decode prog_21_method_133_code 20 = .ok (.arraylength, 1) := by decide +kernel
theorem d_Arr_copyOfRangeByte_21 : decode prog_21_method_133_code 21 = .ok (.iload_n 1, 1) := by decide +kernel
theorem d_Arr_copyOfRangeByte_22 : decode prog_21_method_133_code 22 = .ok (.isub, 1) := by decide +kernel
theorem d_Arr_copyOfRangeByte_23 : decode prog_21_method_133_code 23 = .ok (.iload_n 3, 1) := by decide +kernel
theorem d_Arr_copyOfRangeByte_24 : decode prog_21_method_133_code 24 = .ok (.invokestatic 304, 3) := by decide +kernel
theorem d_Arr_copyOfRangeByte_27 : decode prog_21_method_133_code 27 = .ok (.invokestatic 150, 3) := by decide +kernel
theorem d_Arr_copyOfRangeByte_30 : decode prog_21_method_133_code 30 = .ok (.aload 4, 2) := by decide +kernel
theorem d_Arr_copyOfRangeByte_32 : decode prog_21_method_133_code 32 = .ok (.areturn, 1) := by decide +kernel
noncomputable def f_Arr_copyOfRangeByte (r0 : Option Nat) (x1 : Int32) (x2 : Int32) (σ : rb_St) : Option rb_Rs :=
  rb_cV (f_Arr_checkLength (x1) (x2) σ) fun σ_1 => (rb_nA σ_1 105 (x2 - x1)).bind fun σ_2 => (rb_len σ_2 r0 105).bind fun x_3 => (rb_cp σ_2 r0 (some (rb_n σ_1)) 105 x1 (0 : Int32) (rb_mn (x_3 - x1) (x2 - x1))).bind fun σ_4 => some (some (va_rf (some (rb_n σ_1))), σ_4)
theorem s_Arr_copyOfRangeByte {E : rb_EV} {d : Nat} (hdd : 1 ≤ d) (r0 : Option Nat) (x1 : Int32) (x2 : Int32) (σ : rb_St) : rb_Does E k_Arr_copyOfRangeByte d [va_rf r0, .int x1, .int x2] σ (f_Arr_copyOfRangeByte r0 x1 x2 σ) := by
  refine rb_start (lv := [some (va_rf r0), some (.int x1), some (.int x2), none, none]) (by decide) (by simp [lg_sl, rb_as, lv_args, rb_cat_r, rb_cat_i, rb_cat_l, rb_nL, k_Arr_copyOfRangeByte]) (fun res => ?_)
  unfold f_Arr_copyOfRangeByte
  refine rb_TC.mono (rk_iload_n 1 d_Arr_copyOfRangeByte_0 rfl rfl) ?_
  refine rb_TC.mono (rk_iload_n 2 d_Arr_copyOfRangeByte_1 rfl rfl) ?_
  refine rt_sV (As := [.int x1, .int x2]) (st := []) sw_Arr_343 (s_Arr_checkLength (Nat.le_refl _) (x1) (x2) σ) (Nat.le_trans (by decide) hdd) rfl (by simp [rb_cat_r, rb_cat_i, rb_cat_l]) d_Arr_copyOfRangeByte_2 (fun σ_1 => ?_)
  refine rb_TC.mono (rk_iload_n 2 d_Arr_copyOfRangeByte_5 rfl rfl) ?_
  refine rb_TC.mono (rk_iload_n 1 d_Arr_copyOfRangeByte_6 rfl rfl) ?_
  refine rb_TC.mono (rk_isub d_Arr_copyOfRangeByte_7) ?_
  refine rb_TC.mono (rk_istore_n (lv2 := [some (va_rf r0), some (.int x1), some (.int x2), some (.int (x2 - x1)), none]) 3 d_Arr_copyOfRangeByte_8 rfl (by decide) (fun _ => rb_one_i) rfl) ?_
  refine rb_TC.mono (rk_iload_n 3 d_Arr_copyOfRangeByte_9 rfl rfl) ?_
  refine rt_newa (t := 105) ⟨by decide, rfl, w_ac_byte⟩ d_Arr_copyOfRangeByte_10 (fun σ_2 => ?_)
  refine rb_TC.mono (rk_astore (lv2 := [some (va_rf r0), some (.int x1), some (.int x2), some (.int (x2 - x1)), some (va_rf (some (rb_n σ_1)))]) d_Arr_copyOfRangeByte_12 (by decide) (fun _ => rb_one_i) rfl) ?_
  refine rb_TC.mono (rk_aload_n 0 d_Arr_copyOfRangeByte_14 rfl rfl) ?_
  refine rb_TC.mono (rk_iload_n 1 d_Arr_copyOfRangeByte_15 rfl rfl) ?_
  refine rb_TC.mono (rk_aload d_Arr_copyOfRangeByte_16 rfl) ?_
  refine rb_TC.mono (rk_iconst (0 : Int32) d_Arr_copyOfRangeByte_18 (by decide)) ?_
  refine rb_TC.mono (rk_aload_n 0 d_Arr_copyOfRangeByte_19 rfl rfl) ?_
  refine rt_len (t := 105) r0 (by decide) d_Arr_copyOfRangeByte_20 (fun x_3 => ?_)
  refine rb_TC.mono (rk_iload_n 1 d_Arr_copyOfRangeByte_21 rfl rfl) ?_
  refine rb_TC.mono (rk_isub d_Arr_copyOfRangeByte_22) ?_
  refine rb_TC.mono (rk_iload_n 3 d_Arr_copyOfRangeByte_23 rfl rfl) ?_
  refine rb_TC.mono (rk_mmin w_mmin_Arr_304 (Nat.le_trans (by decide) hdd) (by simp [rb_cat_r, rb_cat_i, rb_cat_l]) d_Arr_copyOfRangeByte_24) ?_
  refine rt_acopy (t := 105) r0 (some (rb_n σ_1)) w_acopy_Arr_150 (by decide) (Nat.le_trans (by decide) hdd) (by simp [rb_cat_r, rb_cat_i, rb_cat_l]) d_Arr_copyOfRangeByte_27 (fun σ_4 => ?_)
  refine rb_TC.mono (rk_aload d_Arr_copyOfRangeByte_30 rfl) ?_
  exact rt_aret (ty := .array .byte) rfl (Or.inr ⟨_, rfl⟩) (fun h => h) d_Arr_copyOfRangeByte_32
-- ===== java/util/Arrays.copyOfRange([BII)[B
def k_Arr_copyOfRange : rb_MK := (⟨"java/util/Arrays", "copyOfRange", "([BII)[B"⟩, prog_21_method_132_code, 3, some (.array .byte))
theorem mw_Arr_copyOfRange : rb_Mw k_Arr_copyOfRange 3 := ⟨rb_inG 646 (by decide +kernel) rfl, rb_inG 102 (by decide +kernel) rfl, ⟨by decide, by decide, by decide +kernel⟩, by decide⟩
theorem sw_Arr_339 : rb_Sw "java/util/Arrays" 339 k_Arr_copyOfRangeByte 3 := ⟨mw_Arr_copyOfRangeByte, rb_inG 647 (by decide +kernel) rfl, rb_inG 648 (by decide +kernel) rfl⟩
theorem d_Arr_copyOfRange_0 : decode prog_21_method_132_code 0 = .ok (.iload_n 1, 1) := by decide +kernel
theorem d_Arr_copyOfRange_1 : decode prog_21_method_132_code 1 = .ok (.ifCond .ne 9, 3) := by decide +kernel
theorem d_Arr_copyOfRange_4 : decode prog_21_method_132_code 4 = .ok (.iload_n 2, 1) := by decide +kernel
theorem d_Arr_copyOfRange_5 : decode prog_21_method_132_code 5 = .ok (.aload_n 0, 1) := by decide +kernel
theorem d_Arr_copyOfRange_6 : decode prog_21_method_132_code 6 = .ok (.arraylength, 1) := by decide +kernel
theorem d_Arr_copyOfRange_7 : decode prog_21_method_132_code 7 = .ok (.if_icmp .eq 10, 3) := by decide +kernel
theorem d_Arr_copyOfRange_10 : decode prog_21_method_132_code 10 = .ok (.aload_n 0, 1) := by decide +kernel
theorem d_Arr_copyOfRange_11 : decode prog_21_method_132_code 11 = .ok (.iload_n 1, 1) := by decide +kernel
theorem d_Arr_copyOfRange_12 : decode prog_21_method_132_code 12 = .ok (.iload_n 2, 1) := by decide +kernel
theorem d_Arr_copyOfRange_13 : decode prog_21_method_132_code 13 = .ok (.invokestatic 339, 3) := by decide +kernel
theorem d_Arr_copyOfRange_16 : decode prog_21_method_132_code 16 = .ok (.areturn, 1) := by decide +kernel
theorem d_Arr_copyOfRange_17 : decode prog_21_method_132_code 17 = .ok (.aload_n 0, 1) := by decide +kernel
theorem d_Arr_copyOfRange_18 : decode prog_21_method_132_code 18 = .ok (.invokevirtual 310, 3) := by decide +kernel
noncomputable def f_Arr_copyOfRange_j10 (r0 : Option Nat) (x1 : Int32) (x2 : Int32) (σ : rb_St) : Option rb_Rs :=
  rb_cR (f_Arr_copyOfRangeByte (r0) (x1) (x2) σ) fun r_2 σ_3 => some (some (va_rf r_2), σ_3)
theorem t_Arr_copyOfRange_j10 {E : rb_EV} {d : Nat} {σ0 : rb_St} {res : rb_Rs} (hdd : 2 ≤ d)  (r0 : Option Nat) (x1 : Int32) (x2 : Int32) (σ : rb_St) : rb_TC (f_Arr_copyOfRange_j10 r0 x1 x2 σ) (fun r => r = res) (rb_WK E k_Arr_copyOfRange d σ0 res 10 [some (va_rf r0), some (.int x1), some (.int x2)] [] σ) := by
  unfold f_Arr_copyOfRange_j10
  refine rb_TC.mono (rk_aload_n 0 d_Arr_copyOfRange_10 rfl rfl) ?_
  refine rb_TC.mono (rk_iload_n 1 d_Arr_copyOfRange_11 rfl rfl) ?_
  refine rb_TC.mono (rk_iload_n 2 d_Arr_copyOfRange_12 rfl rfl) ?_
  refine rt_sR (As := [va_rf r0, .int x1, .int x2]) (st := []) sw_Arr_339 (s_Arr_copyOfRangeByte (Nat.le_refl _) (r0) (x1) (x2) σ) (Nat.le_trans (by decide) hdd) rfl (by simp [rb_cat_r, rb_cat_i, rb_cat_l]) d_Arr_copyOfRange_13 (fun r_2 σ_3 => ?_)
  exact rt_aret (ty := .array .byte) rfl (Or.inr ⟨_, rfl⟩) (fun h => h) d_Arr_copyOfRange_16
noncomputable def f_Arr_copyOfRange (r0 : Option Nat) (x1 : Int32) (x2 : Int32) (σ : rb_St) : Option rb_Rs :=
  if x1 = 0 then ((rb_len σ r0 105).bind fun x_1 => if x2 = x_1 then (none) else (f_Arr_copyOfRange_j10 (r0) (x1) (x2) σ)) else (f_Arr_copyOfRange_j10 (r0) (x1) (x2) σ)
theorem s_Arr_copyOfRange {E : rb_EV} {d : Nat} (hdd : 2 ≤ d) (r0 : Option Nat) (x1 : Int32) (x2 : Int32) (σ : rb_St) : rb_Does E k_Arr_copyOfRange d [va_rf r0, .int x1, .int x2] σ (f_Arr_copyOfRange r0 x1 x2 σ) := by
  refine rb_start (lv := [some (va_rf r0), some (.int x1), some (.int x2)]) (by decide) (by simp [lg_sl, rb_as, lv_args, rb_cat_r, rb_cat_i, rb_cat_l, rb_nL, k_Arr_copyOfRange]) (fun res => ?_)
  unfold f_Arr_copyOfRange
  refine rb_TC.mono (rk_iload_n 1 d_Arr_copyOfRange_0 rfl rfl) ?_
  refine rt_if_ne 10 d_Arr_copyOfRange_1 (by decide) (fun _ => ?_) (fun _ => ?_)
  · refine rb_TC.mono (rk_iload_n 2 d_Arr_copyOfRange_4 rfl rfl) ?_
    refine rb_TC.mono (rk_aload_n 0 d_Arr_copyOfRange_5 rfl rfl) ?_
    refine rt_len (t := 105) r0 (by decide) d_Arr_copyOfRange_6 (fun x_1 => ?_)
    refine rt_icmp_eq 17 d_Arr_copyOfRange_7 (by decide) (fun _ => ?_) (fun _ => ?_)
    · refine rb_TC.mono (rk_aload_n 0 d_Arr_copyOfRange_17 rfl rfl) ?_
      exact rb_TC.none
    · exact t_Arr_copyOfRange_j10 hdd  (r0) (x1) (x2) σ
  · exact t_Arr_copyOfRange_j10 hdd  (r0) (x1) (x2) σ
-- ===== java/lang/String.<init>([BB)V
def k_Str_init3 : rb_MK := (⟨"java/lang/String", "<init>", "([BB)V"⟩, prog_17_method_151_code, 3, none)
theorem mw_Str_init3 : rb_Mw k_Str_init3 2 := ⟨rb_inG 666 (by decide +kernel) rfl, rb_inG 96 (by decide +kernel) rfl, ⟨by decide, by decide, by decide +kernel⟩, by decide⟩
theorem fp_Str_init3_15 : rb_Fp k_Str_init3 15 14 1 .byte := ⟨fw_Str_15, rfl, fun q h => by cases h; exact Or.inr ⟨rfl, rfl, rfl⟩⟩
theorem fp_Str_init3_9 : rb_Fp k_Str_init3 9 14 0 (.array .byte) ∧ ((∃ n, (.array .byte : FieldType) = .object n) ∨ ∃ t, (.array .byte : FieldType) = .array t) := ⟨⟨fw_Str_9, rfl, fun q h => by cases h; exact Or.inr ⟨rfl, rfl, rfl⟩⟩, Or.inr ⟨_, rfl⟩⟩
theorem d_Str_init3_0 : decode prog_17_method_151_code 0 = .ok (.aload_n 0, 1) := by decide +kernel
theorem d_Str_init3_1 : decode prog_17_method_151_code 1 = .ok (.invokespecial 1, 3) := by decide +kernel
theorem d_Str_init3_4 : decode prog_17_method_151_code 4 = .ok (.aload_n 0, 1) := by decide +kernel
theorem d_Str_init3_5 : decode prog_17_method_151_code 5 = .ok (.aload_n 1, 1) := by decide +kernel
theorem d_Str_init3_6 : decode prog_17_method_151_code 6 = .ok (.putfield 9, 3) := by decide +kernel
theorem d_Str_init3_9 : decode prog_17_method_151_code 9 = .ok (.aload_n 0, 1) := by decide +kernel
theorem d_Str_init3_10 : decode prog_17_method_151_code 10 = .ok (.iload_n 2, 1) := by decide +kernel
theorem d_Str_init3_11 : decode prog_17_method_151_code 11 = .ok (.putfield 15, 3) := by decide +kernel
theorem d_Str_init3_14 : decode prog_17_method_151_code 14 = .ok (.return_, 1) := by decide +kernel
noncomputable def f_Str_init3 (a0 : Nat) (r1 : Option Nat) (x2 : Int32) (σ : rb_St) : Option rb_Rs :=
  (rb_pR σ (some a0) 14 0 r1).bind fun σ_1 => (rb_pB σ_1 (some a0) 14 1 x2).bind fun σ_2 => some (none, σ_2)
theorem s_Str_init3 {E : rb_EV} {d : Nat} (hdd : 1 ≤ d) (a0 : Nat) (r1 : Option Nat) (x2 : Int32) (σ : rb_St) : rb_Does E k_Str_init3 d [va_rf (some a0), va_rf r1, .int x2] σ (f_Str_init3 a0 r1 x2 σ) := by
  refine rb_start (lv := [some (va_rf (some a0)), some (va_rf r1), some (.int x2)]) (by decide) (by simp [lg_sl, rb_as, lv_args, rb_cat_r, rb_cat_i, rb_cat_l, rb_nL, k_Str_init3]) (fun res => ?_)
  unfold f_Str_init3
  refine rb_TC.mono (rk_aload_n 0 d_Str_init3_0 rfl rfl) ?_
  refine rb_TC.mono (rk_objInit w_ml_Str_1 w_oi w_oc (Nat.le_trans (by decide) hdd) (by simp [rb_cat_r, rb_cat_i, rb_cat_l]) d_Str_init3_1 rfl) ?_
  refine rb_TC.mono (rk_aload_n 0 d_Str_init3_4 rfl rfl) ?_
  refine rb_TC.mono (rk_aload_n 1 d_Str_init3_5 rfl rfl) ?_
  refine rt_pR (some a0) fp_Str_init3_9 d_Str_init3_6 (fun σ_1 => ?_)
  refine rb_TC.mono (rk_aload_n 0 d_Str_init3_9 rfl rfl) ?_
  refine rb_TC.mono (rk_iload_n 2 d_Str_init3_10 rfl rfl) ?_
  refine rt_pB (some a0) fp_Str_init3_15 d_Str_init3_11 (fun σ_2 => ?_)
  exact rt_vret rfl (fun h => h) d_Str_init3_14
-- ===== java/lang/StringLatin1.newString([BII)Ljava/lang/String;
def k_SL_newString : rb_MK := (⟨"java/lang/StringLatin1", "newString", "([BII)Ljava/lang/String;"⟩, prog_18_method_47_code, 3, some (.object "java/lang/String"))
theorem mw_SL_newString : rb_Mw k_SL_newString 3 := ⟨rb_inG 641 (by decide +kernel) rfl, rb_inG 101 (by decide +kernel) rfl, ⟨by decide, by decide, by decide +kernel⟩, by decide⟩
theorem iw_SL_112 : rb_Iw "java/lang/StringLatin1" 112 k_Str_init3 2 := ⟨mw_Str_init3, rfl, rfl, rb_inG 665 (by decide +kernel) rfl, Or.inl (rb_inG 664 (by decide +kernel) rfl)⟩
theorem ow_SL_1 : rb_Ow "java/lang/StringLatin1" 1 14 := ⟨_, rfl, by decide, by decide, rb_inG 643 (by decide +kernel) rfl, rb_ins14, rb_ini14, rfl, by decide⟩
theorem sw_SL_232 : rb_Sw "java/lang/StringLatin1" 232 k_Arr_copyOfRange 3 := ⟨mw_Arr_copyOfRange, rb_inG 644 (by decide +kernel) rfl, rb_inG 645 (by decide +kernel) rfl⟩
theorem d_SL_newString_0 : decode prog_18_method_47_code 0 = .ok (.iload_n 2, 1) := by decide +kernel
theorem d_SL_newString_1 : decode prog_18_method_47_code 1 = .ok (.ifCond .ne 6, 3) := by decide +kernel
theorem d_SL_newString_4 : decode prog_18_method_47_code 4 = .ok (.ldc 151, 2) := by decide +kernel
theorem d_SL_newString_6 : decode prog_18_method_47_code 6 = .ok (.areturn, 1) := by decide +kernel
theorem d_SL_newString_7 : decode prog_18_method_47_code 7 = .ok (.new 1, 3) := by decide +kernel
theorem d_SL_newString_10 : decode prog_18_method_47_code 10 = .ok (.dup, 1) := by decide +kernel
theorem d_SL_newString_11 : decode prog_18_method_47_code 11 = .ok (.aload_n 0, 1) := by decide +kernel
theorem d_SL_newString_12 : decode prog_18_method_47_code 12 = .ok (.iload_n 1, 1) := by decide +kernel
theorem d_SL_newString_13 : decode prog_18_method_47_code 13 = .ok (.iload_n 1, 1) := by decide +kernel
theorem d_SL_newString_14 : decode prog_18_method_47_code 14 = .ok (.iload_n 2, 1) := by decide +kernel
theorem d_SL_newString_15 : decode prog_18_method_47_code 15 = .ok (.iadd, 1) := by decide +kernel
theorem d_SL_newString_16 : decode prog_18_method_47_code 16 = .ok (.invokestatic 232, 3) := by decide +kernel
theorem d_SL_newString_19 : decode prog_18_method_47_code 19 = .ok (.iconst 0, 1) := by decide +kernel
theorem d_SL_newString_20 : decode prog_18_method_47_code 20 = .ok (.invokespecial 112, 3) := by decide +kernel
theorem d_SL_newString_23 : decode prog_18_method_47_code 23 = .ok (.areturn, 1) := by decide +kernel
noncomputable def f_SL_newString (r0 : Option Nat) (x1 : Int32) (x2 : Int32) (σ : rb_St) : Option rb_Rs :=
  if x2 = 0 then (some (some (va_rf (some (rb_k σ 0))), σ)) else (rb_cR (f_Arr_copyOfRange (r0) (x1) ((x1 + x2)) (rb_nO σ 14)) fun r_1 σ_2 => rb_cV (f_Str_init3 ((rb_n σ)) (r_1) ((0 : Int32)) σ_2) fun σ_3 => some (some (va_rf (some (rb_n σ))), σ_3))
theorem s_SL_newString {E : rb_EV} {d : Nat} (hdd : 3 ≤ d) (r0 : Option Nat) (x1 : Int32) (x2 : Int32) (σ : rb_St) : rb_Does E k_SL_newString d [va_rf r0, .int x1, .int x2] σ (f_SL_newString r0 x1 x2 σ) := by
  refine rb_start (lv := [some (va_rf r0), some (.int x1), some (.int x2)]) (by decide) (by simp [lg_sl, rb_as, lv_args, rb_cat_r, rb_cat_i, rb_cat_l, rb_nL, k_SL_newString]) (fun res => ?_)
  unfold f_SL_newString
  refine rb_TC.mono (rk_iload_n 2 d_SL_newString_0 rfl rfl) ?_
  refine rt_if_ne 7 d_SL_newString_1 (by decide) (fun _ => ?_) (fun _ => ?_)
  · refine rb_TC.mono (rk_ldcs (no := 0) (by decide) d_SL_newString_4) ?_
    exact rt_aret (ty := .object "java/lang/String") rfl (Or.inl ⟨_, rfl⟩) (fun h => h) d_SL_newString_6
  · refine rb_TC.mono (rk_new ow_SL_1 d_SL_newString_7) ?_
    refine rb_TC.mono (rk_dupr d_SL_newString_10) ?_
    refine rb_TC.mono (rk_aload_n 0 d_SL_newString_11 rfl rfl) ?_
    refine rb_TC.mono (rk_iload_n 1 d_SL_newString_12 rfl rfl) ?_
    refine rb_TC.mono (rk_iload_n 1 d_SL_newString_13 rfl rfl) ?_
    refine rb_TC.mono (rk_iload_n 2 d_SL_newString_14 rfl rfl) ?_
    refine rb_TC.mono (rk_iadd d_SL_newString_15) ?_
    refine rt_sR (As := [va_rf r0, .int x1, .int (x1 + x2)]) (st := [va_rf (some (rb_n σ)), va_rf (some (rb_n σ))]) sw_SL_232 (s_Arr_copyOfRange (Nat.le_refl _) (r0) (x1) ((x1 + x2)) (rb_nO σ 14)) (Nat.le_trans (by decide) hdd) rfl (by simp [rb_cat_r, rb_cat_i, rb_cat_l]) d_SL_newString_16 (fun r_1 σ_2 => ?_)
    refine rb_TC.mono (rk_iconst (0 : Int32) d_SL_newString_19 (by decide)) ?_
    refine rt_i (As := [va_rf r_1, .int (0 : Int32)]) (st := [va_rf (some (rb_n σ))]) iw_SL_112 (s_Str_init3 (Nat.le_refl _) ((rb_n σ)) (r_1) ((0 : Int32)) σ_2) (Nat.le_trans (by decide) hdd) rfl (by simp [rb_cat_r, rb_cat_i, rb_cat_l]) d_SL_newString_20 (fun σ_3 => ?_)
    exact rt_aret (ty := .object "java/lang/String") rfl (Or.inl ⟨_, rfl⟩) (fun h => h) d_SL_newString_23
-- ===== java/lang/String.substring(II)Ljava/lang/String;
def k_Str_substring2 : rb_MK := (⟨"java/lang/String", "substring", "(II)Ljava/lang/String;"⟩, prog_17_method_92_code, 5, some (.object "java/lang/String"))
theorem mw_Str_substring2 : rb_Mw k_Str_substring2 2 := ⟨rb_inG 632 (by decide +kernel) rfl, rb_inG 96 (by decide +kernel) rfl, ⟨by decide, by decide, by decide +kernel⟩, by decide⟩
theorem sw_Str_521 : rb_Sw "java/lang/String" 521 k_Str_checkBoundsBeginEnd 3 := ⟨mw_Str_checkBoundsBeginEnd, rb_inG 633 (by decide +kernel) rfl, rb_inG 634 (by decide +kernel) rfl⟩
theorem sw_Str_685 : rb_Sw "java/lang/String" 685 k_SL_newString 3 := ⟨mw_SL_newString, rb_inG 639 (by decide +kernel) rfl, rb_inG 640 (by decide +kernel) rfl⟩
theorem vw_Str_505 : rb_Vw "java/lang/String" 505 k_Str_length 14 0 := ⟨mw_Str_length, rb_inG 628 (by decide +kernel) rfl, rb_inG 590 (by decide +kernel) rfl, rb_inG 591 (by decide +kernel) rfl, by decide, by decide, _, rfl, rfl⟩
theorem d_Str_substring2_0 : decode prog_17_method_92_code 0 = .ok (.aload_n 0, 1) := by decide +kernel
theorem d_Str_substring2_1 : decode prog_17_method_92_code 1 = .ok (.invokevirtual 505, 3) := by decide +kernel
theorem d_Str_substring2_4 : decode prog_17_method_92_code 4 = .ok (.istore_n 3, 1) := by decide +kernel
theorem d_Str_substring2_5 : decode prog_17_method_92_code 5 = .ok (.iload_n 1, 1) := by decide +kernel
theorem d_Str_substring2_6 : decode prog_17_method_92_code 6 = .ok (.iload_n 2, 1) := by decide +kernel
theorem d_Str_substring2_7 : decode prog_17_method_92_code 7 = .ok (.iload_n 3, 1) := by decide +kernel
theorem d_Str_substring2_8 : decode prog_17_method_92_code 8 = .ok (.invokestatic 521, 3) := by decide +kernel
theorem d_Str_substring2_11 : decode prog_17_method_92_code 11 = .ok (.iload_n 1, 1) := by decide +kernel
theorem d_Str_substring2_12 : decode prog_17_method_92_code 12 = .ok (.ifCond .ne 10, 3) := by decide +kernel
theorem d_Str_substring2_15 : decode prog_17_method_92_code 15 = .ok (.iload_n 2, 1) := by decide +kernel
theorem d_Str_substring2_16 : decode prog_17_method_92_code 16 = .ok (.iload_n 3, 1) := by decide +kernel
theorem d_Str_substring2_17 : decode prog_17_method_92_code 17 = .ok (.if_icmp .ne 5, 3) := by decide +kernel
theorem d_Str_substring2_20 : decode prog_17_method_92_code 20 = .ok (.aload_n 0, 1) := by decide +kernel
theorem d_Str_substring2_21 : decode prog_17_method_92_code 21 = .ok (.areturn, 1) := by decide +kernel
theorem d_Str_substring2_22 : decode prog_17_method_92_code 22 = .ok (.iload_n 2, 1) := by decide +kernel
theorem d_Str_substring2_23 : decode prog_17_method_92_code 23 = .ok (.iload_n 1, 1) := by decide +kernel
theorem d_Str_substring2_24 : decode prog_17_method_92_code 24 = .ok (.isub, 1) := by decide +kernel
theorem d_Str_substring2_25 : decode prog_17_method_92_code 25 = .ok (.istore 4, 2) := by decide +kernel
theorem d_Str_substring2_27 : decode prog_17_method_92_code 27 = .ok (.aload_n 0, 1) := by decide +kernel
theorem d_Str_substring2_28 : decode prog_17_method_92_code 28 = .ok (.invokevirtual 492, 3) := by decide +kernel
theorem d_Str_substring2_31 : decode prog_17_method_92_code 31 = .ok (.ifCond .eq 16, 3) := by decide +kernel
theorem d_Str_substring2_34 : decode prog_17_method_92_code 34 = .ok (.aload_n 0, 1) := by decide +kernel
theorem d_Str_substring2_35 : decode prog_17_method_92_code 35 = .ok (.getfield 9, 3) := by decide +kernel
theorem d_Str_substring2_38 : decode prog_17_method_92_code 38 = .ok (.iload_n 1, 1) := by decide +kernel
theorem d_Str_substring2_39 : decode prog_17_method_92_code 39 = .ok (.iload 4, 2) := by decide +kernel
theorem d_Str_substring2_41 : decode prog_17_method_92_code 41 = .ok (.invokestatic 685, 3) := by decide +kernel
theorem d_Str_substring2_44 : decode prog_17_method_92_code 44 = .ok (.goto 13, 3) := by decide +kernel
theorem d_Str_substring2_47 : decode prog_17_method_92_code 47 = .ok (.aload_n 0, 1) := by decide +kernel
theorem d_Str_substring2_48 : decode prog_17_method_92_code 48 = .ok (.getfield 9, 3) := by decide +kernel
theorem d_Str_substring2_51 : decode prog_17_method_92_code 51 = .ok (.iload_n 1, 1) := by decide +kernel
theorem d_Str_substring2_52 : decode prog_17_method_92_code 52 = .ok (.iload 4, 2) := by decide +kernel
theorem d_Str_substring2_54 : decode prog_17_method_92_code 54 = .ok (.invokestatic 689, 3) := by decide +kernel
theorem d_Str_substring2_57 : decode prog_17_method_92_code 57 = .ok (.areturn, 1) := by decide +kernel
noncomputable def f_Str_substring2_j22 (r0 : Option Nat) (x1 : Int32) (x2 : Int32) (σ : rb_St) : Option rb_Rs :=
  (rb_fc σ r0 14).bind fun _ => rb_cI (f_Str_isLatin1 (r0)  σ) fun x_4 σ_5 => if x_4 = 0 then ((rb_gR σ_5 r0 14 0).bind fun r_6 => none) else ((rb_gR σ_5 r0 14 0).bind fun r_7 => rb_cR (f_SL_newString (r_7) (x1) ((x2 - x1)) σ_5) fun r_8 σ_9 => some (some (va_rf r_8), σ_9))
theorem t_Str_substring2_j22 {E : rb_EV} {d : Nat} {σ0 : rb_St} {res : rb_Rs} (hdd : 4 ≤ d)  (r0 : Option Nat) (x1 : Int32) (x2 : Int32) (σ : rb_St) : rb_TC (f_Str_substring2_j22 r0 x1 x2 σ) (fun r => r = res) (rb_WK E k_Str_substring2 d σ0 res 22 [some (va_rf r0), some (.int x1), some (.int x2), none, none] [] σ) := by
  unfold f_Str_substring2_j22
  refine rb_TC.mono (rk_iload_n 2 d_Str_substring2_22 rfl rfl) ?_
  refine rb_TC.mono (rk_iload_n 1 d_Str_substring2_23 rfl rfl) ?_
  refine rb_TC.mono (rk_isub d_Str_substring2_24) ?_
  refine rb_TC.mono (rk_istore (lv2 := [some (va_rf r0), some (.int x1), some (.int x2), none, some (.int (x2 - x1))]) d_Str_substring2_25 (by decide) (fun _ => rb_one_n) rfl) ?_
  refine rb_TC.mono (rk_aload_n 0 d_Str_substring2_27 rfl rfl) ?_
  refine rt_vI (As := []) (st := []) (r0) vw_Str_492 (s_Str_isLatin1 (Nat.le_refl _) (r0)  σ) (Nat.le_trans (by decide) hdd) rfl (by simp [rb_cat_r, rb_cat_i, rb_cat_l]) d_Str_substring2_28 (fun x_4 σ_5 => ?_)
  refine rt_if_eq 47 d_Str_substring2_31 (by decide) (fun _ => ?_) (fun _ => ?_)
  · refine rb_TC.mono (rk_aload_n 0 d_Str_substring2_47 rfl rfl) ?_
    refine rt_gR r0 fw_Str_9 d_Str_substring2_48 (fun r_6 => ?_)
    refine rb_TC.mono (rk_iload_n 1 d_Str_substring2_51 rfl rfl) ?_
    refine rb_TC.mono (rk_iload d_Str_substring2_52 rfl) ?_
    exact rb_TC.none
  · refine rb_TC.mono (rk_aload_n 0 d_Str_substring2_34 rfl rfl) ?_
    refine rt_gR r0 fw_Str_9 d_Str_substring2_35 (fun r_7 => ?_)
    refine rb_TC.mono (rk_iload_n 1 d_Str_substring2_38 rfl rfl) ?_
    refine rb_TC.mono (rk_iload d_Str_substring2_39 rfl) ?_
    refine rt_sR (As := [va_rf r_7, .int x1, .int (x2 - x1)]) (st := []) sw_Str_685 (s_SL_newString (Nat.le_refl _) (r_7) (x1) ((x2 - x1)) σ_5) (Nat.le_trans (by decide) hdd) rfl (by simp [rb_cat_r, rb_cat_i, rb_cat_l]) d_Str_substring2_41 (fun r_8 σ_9 => ?_)
    refine rb_TC.mono (rk_goto 57 d_Str_substring2_44 (by decide)) ?_
    exact rt_aret (ty := .object "java/lang/String") rfl (Or.inl ⟨_, rfl⟩) (fun h => h) d_Str_substring2_57
noncomputable def f_Str_substring2 (r0 : Option Nat) (x1 : Int32) (x2 : Int32) (σ : rb_St) : Option rb_Rs :=
  (rb_fc σ r0 14).bind fun _ => rb_cI (f_Str_length (r0)  σ) fun x_1 σ_2 => rb_cV (f_Str_checkBoundsBeginEnd (x1) (x2) (x_1) σ_2) fun σ_3 => if x1 = 0 then (if x2 = x_1 then (some (some (va_rf r0), σ_3)) else (f_Str_substring2_j22 (r0) (x1) (x2) σ_3)) else (f_Str_substring2_j22 (r0) (x1) (x2) σ_3)
theorem s_Str_substring2 {E : rb_EV} {d : Nat} (hdd : 4 ≤ d) (r0 : Option Nat) (x1 : Int32) (x2 : Int32) (σ : rb_St) : rb_Does E k_Str_substring2 d [va_rf r0, .int x1, .int x2] σ (f_Str_substring2 r0 x1 x2 σ) := by
  refine rb_start (lv := [some (va_rf r0), some (.int x1), some (.int x2), none, none]) (by decide) (by simp [lg_sl, rb_as, lv_args, rb_cat_r, rb_cat_i, rb_cat_l, rb_nL, k_Str_substring2]) (fun res => ?_)
  unfold f_Str_substring2
  refine rb_TC.mono (rk_aload_n 0 d_Str_substring2_0 rfl rfl) ?_
  refine rt_vI (As := []) (st := []) (r0) vw_Str_505 (s_Str_length (Nat.le_refl _) (r0)  σ) (Nat.le_trans (by decide) hdd) rfl (by simp [rb_cat_r, rb_cat_i, rb_cat_l]) d_Str_substring2_1 (fun x_1 σ_2 => ?_)
  refine rb_TC.mono (rk_istore_n (lv2 := [some (va_rf r0), some (.int x1), some (.int x2), some (.int x_1), none]) 3 d_Str_substring2_4 rfl (by decide) (fun _ => rb_one_i) rfl) ?_
  refine rb_TC.mono (rk_iload_n 1 d_Str_substring2_5 rfl rfl) ?_
  refine rb_TC.mono (rk_iload_n 2 d_Str_substring2_6 rfl rfl) ?_
  refine rb_TC.mono (rk_iload_n 3 d_Str_substring2_7 rfl rfl) ?_
  refine rt_sV (As := [.int x1, .int x2, .int x_1]) (st := []) sw_Str_521 (s_Str_checkBoundsBeginEnd (Nat.le_refl _) (x1) (x2) (x_1) σ_2) (Nat.le_trans (by decide) hdd) rfl (by simp [rb_cat_r, rb_cat_i, rb_cat_l]) d_Str_substring2_8 (fun σ_3 => ?_)
  refine rb_TC.mono (rk_iload_n 1 d_Str_substring2_11 rfl rfl) ?_
  refine rt_if_ne 22 d_Str_substring2_12 (by decide) (fun _ => ?_) (fun _ => ?_)
  · refine rb_TC.mono (rk_iload_n 2 d_Str_substring2_15 rfl rfl) ?_
    refine rb_TC.mono (rk_iload_n 3 d_Str_substring2_16 rfl rfl) ?_
    refine rt_icmp_ne 22 d_Str_substring2_17 (by decide) (fun _ => ?_) (fun _ => ?_)
    · refine rb_TC.mono (rk_aload_n 0 d_Str_substring2_20 rfl rfl) ?_
      exact rt_aret (ty := .object "java/lang/String") rfl (Or.inl ⟨_, rfl⟩) (fun h => h) d_Str_substring2_21
    · refine rb_TC.mono (rk_less (lv2 := [some (va_rf r0), some (.int x1), some (.int x2), none, none]) (rb_le_ok (rb_leS (rb_leS (rb_leS (rb_leN (rb_leN rb_le0))))))) ?_
      exact t_Str_substring2_j22 hdd  (r0) (x1) (x2) σ_3
  · refine rb_TC.mono (rk_less (lv2 := [some (va_rf r0), some (.int x1), some (.int x2), none, none]) (rb_le_ok (rb_leS (rb_leS (rb_leS (rb_leN (rb_leN rb_le0))))))) ?_
    exact t_Str_substring2_j22 hdd  (r0) (x1) (x2) σ_3
-- ===== java/lang/String.substring(I)Ljava/lang/String;
def k_Str_substring : rb_MK := (⟨"java/lang/String", "substring", "(I)Ljava/lang/String;"⟩, prog_17_method_91_code, 2, some (.object "java/lang/String"))
theorem mw_Str_substring : rb_Mw k_Str_substring 1 := ⟨rb_inG 627 (by decide +kernel) rfl, rb_inG 96 (by decide +kernel) rfl, ⟨by decide, by decide, by decide +kernel⟩, by decide⟩
theorem vw_Str_681 : rb_Vw "java/lang/String" 681 k_Str_substring2 14 2 := ⟨mw_Str_substring2, rb_inG 629 (by decide +kernel) rfl, rb_inG 630 (by decide +kernel) rfl, rb_inG 631 (by decide +kernel) rfl, by decide, by decide, _, rfl, rfl⟩
theorem d_Str_substring_0 : decode prog_17_method_91_code 0 = .ok (.aload_n 0, 1) := by decide +kernel
theorem d_Str_substring_1 : decode prog_17_method_91_code 1 = .ok (.iload_n 1, 1) := by decide +kernel
theorem d_Str_substring_2 : decode prog_17_method_91_code 2 = .ok (.aload_n 0, 1) := by decide +kernel
theorem d_Str_substring_3 : decode prog_17_method_91_code 3 = .ok (.invokevirtual 505, 3) := by decide +kernel
theorem d_Str_substring_6 : decode prog_17_method_91_code 6 = .ok (.invokevirtual 681, 3) := by decide +kernel
theorem d_Str_substring_9 : decode prog_17_method_91_code 9 = .ok (.areturn, 1) := by decide +kernel
noncomputable def f_Str_substring (r0 : Option Nat) (x1 : Int32) (σ : rb_St) : Option rb_Rs :=
  (rb_fc σ r0 14).bind fun _ => rb_cI (f_Str_length (r0)  σ) fun x_1 σ_2 => (rb_fc σ_2 r0 14).bind fun _ => rb_cR (f_Str_substring2 (r0) (x1) (x_1) σ_2) fun r_3 σ_4 => some (some (va_rf r_3), σ_4)
theorem s_Str_substring {E : rb_EV} {d : Nat} (hdd : 5 ≤ d) (r0 : Option Nat) (x1 : Int32) (σ : rb_St) : rb_Does E k_Str_substring d [va_rf r0, .int x1] σ (f_Str_substring r0 x1 σ) := by
  refine rb_start (lv := [some (va_rf r0), some (.int x1)]) (by decide) (by simp [lg_sl, rb_as, lv_args, rb_cat_r, rb_cat_i, rb_cat_l, rb_nL, k_Str_substring]) (fun res => ?_)
  unfold f_Str_substring
  refine rb_TC.mono (rk_aload_n 0 d_Str_substring_0 rfl rfl) ?_
  refine rb_TC.mono (rk_iload_n 1 d_Str_substring_1 rfl rfl) ?_
  refine rb_TC.mono (rk_aload_n 0 d_Str_substring_2 rfl rfl) ?_
  refine rt_vI (As := []) (st := [.int x1, va_rf r0]) (r0) vw_Str_505 (s_Str_length (Nat.le_refl _) (r0)  σ) (Nat.le_trans (by decide) hdd) rfl (by simp [rb_cat_r, rb_cat_i, rb_cat_l]) d_Str_substring_3 (fun x_1 σ_2 => ?_)
  refine rt_vR (As := [.int x1, .int x_1]) (st := []) (r0) vw_Str_681 (s_Str_substring2 (Nat.le_refl _) (r0) (x1) (x_1) σ_2) (Nat.le_trans (by decide) hdd) rfl (by simp [rb_cat_r, rb_cat_i, rb_cat_l]) d_Str_substring_6 (fun r_3 σ_4 => ?_)
  exact rt_aret (ty := .object "java/lang/String") rfl (Or.inl ⟨_, rfl⟩) (fun h => h) d_Str_substring_9
-- ===== RuleBuilder$Command.<init>(Ljava/lang/String;I)V
def k_Cmd_init : rb_MK := (⟨"RuleBuilder$Command", "<init>", "(Ljava/lang/String;I)V"⟩, prog_3_method_1_code, 7, none)
theorem mw_Cmd_init : rb_Mw k_Cmd_init 2 := ⟨rb_inG 587 (by decide +kernel) rfl, rb_inG 100 (by decide +kernel) rfl, ⟨by decide, by decide, by decide +kernel⟩, by decide⟩
theorem fw_Cmd_27 : rb_Fw "RuleBuilder$Command" 27 11 0 := ⟨_, rfl, by decide, by decide, by decide, rfl, rb_inG 679 (by decide +kernel) rfl⟩
theorem fp_Cmd_init_27 : rb_Fp k_Cmd_init 27 11 0 (.object "java/lang/String") ∧ ((∃ n, (.object "java/lang/String" : FieldType) = .object n) ∨ ∃ t, (.object "java/lang/String" : FieldType) = .array t) := ⟨⟨fw_Cmd_27, rfl, fun q h => by cases h; exact Or.inr ⟨rfl, rfl, rfl⟩⟩, Or.inl ⟨_, rfl⟩⟩
theorem fw_Cmd_31 : rb_Fw "RuleBuilder$Command" 31 11 1 := ⟨_, rfl, by decide, by decide, by decide, rfl, rb_inG 681 (by decide +kernel) rfl⟩
theorem fp_Cmd_init_31 : rb_Fp k_Cmd_init 31 11 1 .int := ⟨fw_Cmd_31, rfl, fun q h => by cases h; exact Or.inr ⟨rfl, rfl, rfl⟩⟩
theorem fw_Cmd_35 : rb_Fw "RuleBuilder$Command" 35 11 2 := ⟨_, rfl, by decide, by decide, by decide, rfl, rb_inG 683 (by decide +kernel) rfl⟩
theorem fp_Cmd_init_35 : rb_Fp k_Cmd_init 35 11 2 .boolean := ⟨fw_Cmd_35, rfl, fun q h => by cases h; exact Or.inr ⟨rfl, rfl, rfl⟩⟩
theorem fw_Cmd_39 : rb_Fw "RuleBuilder$Command" 39 11 3 := ⟨_, rfl, by decide, by decide, by decide, rfl, rb_inG 685 (by decide +kernel) rfl⟩
theorem fp_Cmd_init_39 : rb_Fp k_Cmd_init 39 11 3 .boolean := ⟨fw_Cmd_39, rfl, fun q h => by cases h; exact Or.inr ⟨rfl, rfl, rfl⟩⟩
theorem fw_Cmd_42 : rb_Fw "RuleBuilder$Command" 42 11 4 := ⟨_, rfl, by decide, by decide, by decide, rfl, rb_inG 687 (by decide +kernel) rfl⟩
theorem fp_Cmd_init_42 : rb_Fp k_Cmd_init 42 11 4 .boolean := ⟨fw_Cmd_42, rfl, fun q h => by cases h; exact Or.inr ⟨rfl, rfl, rfl⟩⟩
theorem w_ml_Cmd_1 : Cond.methodLink "RuleBuilder$Command" 1 Lib.objectInit ∈ rb_G := rb_inG 588 (by decide +kernel) rfl
theorem sw_Cmd_17 : rb_Sw "RuleBuilder$Command" 17 k_Cmd_isMark 1 := ⟨mw_Cmd_isMark, rb_inG 621 (by decide +kernel) rfl, rb_inG 622 (by decide +kernel) rfl⟩
theorem vw_Cmd_13 : rb_Vw "RuleBuilder$Command" 13 k_Str_charAt 14 1 := ⟨mw_Str_charAt, rb_inG 597 (by decide +kernel) rfl, rb_inG 598 (by decide +kernel) rfl, rb_inG 599 (by decide +kernel) rfl, by decide, by decide, _, rfl, rfl⟩
theorem vw_Cmd_23 : rb_Vw "RuleBuilder$Command" 23 k_Str_substring 14 1 := ⟨mw_Str_substring, rb_inG 624 (by decide +kernel) rfl, rb_inG 625 (by decide +kernel) rfl, rb_inG 626 (by decide +kernel) rfl, by decide, by decide, _, rfl, rfl⟩
theorem vw_Cmd_7 : rb_Vw "RuleBuilder$Command" 7 k_Str_length 14 0 := ⟨mw_Str_length, rb_inG 589 (by decide +kernel) rfl, rb_inG 590 (by decide +kernel) rfl, rb_inG 591 (by decide +kernel) rfl, by decide, by decide, _, rfl, rfl⟩
theorem d_Cmd_init_0 : decode prog_3_method_1_code 0 = .ok (.aload_n 0, 1) := by decide +kernel
theorem d_Cmd_init_1 : decode prog_3_method_1_code 1 = .ok (.invokespecial 1, 3) := by decide +kernel
theorem d_Cmd_init_4 : decode prog_3_method_1_code 4 = .ok (.iconst 0, 1) := by decide +kernel
theorem d_Cmd_init_5 : decode prog_3_method_1_code 5 = .ok (.istore_n 3, 1) := by decide +kernel
theorem d_Cmd_init_6 : decode prog_3_method_1_code 6 = .ok (.iconst 0, 1) := by decide +kernel
theorem d_Cmd_init_7 : decode prog_3_method_1_code 7 = .ok (.istore 4, 2) := by decide +kernel
theorem d_Cmd_init_9 : decode prog_3_method_1_code 9 = .ok (.iconst 0, 1) := by decide +kernel
theorem d_Cmd_init_10 : decode prog_3_method_1_code 10 = .ok (.istore 5, 2) := by decide +kernel
theorem d_Cmd_init_12 : decode prog_3_method_1_code 12 = .ok (.iconst 0, 1) := by decide +kernel
theorem d_Cmd_init_13 : decode prog_3_method_1_code 13 = .ok (.istore 6, 2) := by decide +kernel
theorem d_Cmd_init_15 : decode prog_3_method_1_code 15 = .ok (.iload 6, 2) := by decide +kernel
theorem d_Cmd_init_17 : decode prog_3_method_1_code 17 = .ok (.aload_n 1, 1) := by decide +kernel
theorem d_Cmd_init_18 : decode prog_3_method_1_code 18 = .ok (.invokevirtual 7, 3) := by decide +kernel
theorem d_Cmd_init_21 : decode prog_3_method_1_code 21 = .ok (.if_icmp .ge 88, 3) := by decide +kernel
theorem d_Cmd_init_24 : decode prog_3_method_1_code 24 = .ok (.aload_n 1, 1) := by decide +kernel
theorem d_Cmd_init_25 : decode prog_3_method_1_code 25 = .ok (.iload 6, 2) := by decide +kernel
theorem d_Cmd_init_27 : decode prog_3_method_1_code 27 = .ok (.invokevirtual 13, 3) := by decide +kernel
theorem d_Cmd_init_30 : decode prog_3_method_1_code 30 = .ok (.invokestatic 17, 3) := by decide +kernel
theorem d_Cmd_init_33 : decode prog_3_method_1_code 33 = .ok (.ifCond .eq 76, 3) := by decide +kernel
theorem d_Cmd_init_36 : decode prog_3_method_1_code 36 = .ok (.iload_n 3, 1) := by decide +kernel
theorem d_Cmd_init_37 : decode prog_3_method_1_code 37 = .ok (.ifCond .ne 14, 3) := by decide +kernel
theorem d_Cmd_init_40 : decode prog_3_method_1_code 40 = .ok (.aload_n 1, 1) := by decide +kernel
theorem d_Cmd_init_41 : decode prog_3_method_1_code 41 = .ok (.iload 6, 2) := by decide +kernel
theorem d_Cmd_init_43 : decode prog_3_method_1_code 43 = .ok (.invokevirtual 13, 3) := by decide +kernel
theorem d_Cmd_init_46 : decode prog_3_method_1_code 46 = .ok (.bipush 45, 2) := by decide +kernel
theorem d_Cmd_init_48 : decode prog_3_method_1_code 48 = .ok (.if_icmp .ne 7, 3) := by decide +kernel
theorem d_Cmd_init_51 : decode prog_3_method_1_code 51 = .ok (.iconst 1, 1) := by decide +kernel
theorem d_Cmd_init_52 : decode prog_3_method_1_code 52 = .ok (.goto 4, 3) := by decide +kernel
theorem d_Cmd_init_55 : decode prog_3_method_1_code 55 = .ok (.iconst 0, 1) := by decide +kernel
theorem d_Cmd_init_56 : decode prog_3_method_1_code 56 = .ok (.istore_n 3, 1) := by decide +kernel
theorem d_Cmd_init_57 : decode prog_3_method_1_code 57 = .ok (.iload 4, 2) := by decide +kernel
theorem d_Cmd_init_59 : decode prog_3_method_1_code 59 = .ok (.ifCond .ne 14, 3) := by decide +kernel
theorem d_Cmd_init_62 : decode prog_3_method_1_code 62 = .ok (.aload_n 1, 1) := by decide +kernel
theorem d_Cmd_init_63 : decode prog_3_method_1_code 63 = .ok (.iload 6, 2) := by decide +kernel
theorem d_Cmd_init_65 : decode prog_3_method_1_code 65 = .ok (.invokevirtual 13, 3) := by decide +kernel
theorem d_Cmd_init_68 : decode prog_3_method_1_code 68 = .ok (.bipush 64, 2) := by decide +kernel
theorem d_Cmd_init_70 : decode prog_3_method_1_code 70 = .ok (.if_icmp .ne 7, 3) := by decide +kernel
theorem d_Cmd_init_73 : decode prog_3_method_1_code 73 = .ok (.iconst 1, 1) := by decide +kernel
theorem d_Cmd_init_74 : decode prog_3_method_1_code 74 = .ok (.goto 4, 3) := by decide +kernel
theorem d_Cmd_init_77 : decode prog_3_method_1_code 77 = .ok (.iconst 0, 1) := by decide +kernel
theorem d_Cmd_init_78 : decode prog_3_method_1_code 78 = .ok (.istore 4, 2) := by decide +kernel
theorem d_Cmd_init_80 : decode prog_3_method_1_code 80 = .ok (.iload 5, 2) := by decide +kernel
theorem d_Cmd_init_82 : decode prog_3_method_1_code 82 = .ok (.ifCond .ne 14, 3) := by decide +kernel
theorem d_Cmd_init_85 : decode prog_3_method_1_code 85 = .ok (.aload_n 1, 1) := by decide +kernel
theorem d_Cmd_init_86 : decode prog_3_method_1_code 86 = .ok (.iload 6, 2) := by decide +kernel
theorem d_Cmd_init_88 : decode prog_3_method_1_code 88 = .ok (.invokevirtual 13, 3) := by decide +kernel
theorem d_Cmd_init_91 : decode prog_3_method_1_code 91 = .ok (.bipush 43, 2) := by decide +kernel
theorem d_Cmd_init_93 : decode prog_3_method_1_code 93 = .ok (.if_icmp .ne 7, 3) := by decide +kernel
theorem d_Cmd_init_96 : decode prog_3_method_1_code 96 = .ok (.iconst 1, 1) := by decide +kernel
theorem d_Cmd_init_97 : decode prog_3_method_1_code 97 = .ok (.goto 4, 3) := by decide +kernel
theorem d_Cmd_init_100 : decode prog_3_method_1_code 100 = .ok (.iconst 0, 1) := by decide +kernel
theorem d_Cmd_init_101 : decode prog_3_method_1_code 101 = .ok (.istore 5, 2) := by decide +kernel
theorem d_Cmd_init_103 : decode prog_3_method_1_code 103 = .ok (.iinc 6 1, 3) := by decide +kernel
theorem d_Cmd_init_106 : decode prog_3_method_1_code 106 = .ok (.goto (-91), 3) := by decide +kernel
theorem d_Cmd_init_109 : decode prog_3_method_1_code 109 = .ok (.aload_n 0, 1) := by decide +kernel
theorem d_Cmd_init_110 : decode prog_3_method_1_code 110 = .ok (.aload_n 1, 1) := by decide +kernel
theorem d_Cmd_init_111 : decode prog_3_method_1_code 111 = .ok (.iload 6, 2) := by decide +kernel
theorem d_Cmd_init_113 : decode prog_3_method_1_code 113 = .ok (.invokevirtual 23, 3) := by decide +kernel
theorem d_Cmd_init_116 : decode prog_3_method_1_code 116 = .ok (.putfield 27, 3) := by decide +kernel
theorem d_Cmd_init_119 : decode prog_3_method_1_code 119 = .ok (.aload_n 0, 1) := by decide +kernel
theorem d_Cmd_init_120 : decode prog_3_method_1_code 120 = .ok (.iload_n 2, 1) := by decide +kernel
theorem d_Cmd_init_121 : decode prog_3_method_1_code 121 = .ok (.putfield 31, 3) := by decide +kernel
theorem d_Cmd_init_124 : decode prog_3_method_1_code 124 = .ok (.aload_n 0, 1) := by decide +kernel
theorem d_Cmd_init_125 : decode prog_3_method_1_code 125 = .ok (.iload_n 3, 1) := by decide +kernel
theorem d_Cmd_init_126 : decode prog_3_method_1_code 126 = .ok (.putfield 35, 3) := by decide +kernel
theorem d_Cmd_init_129 : decode prog_3_method_1_code 129 = .ok (.aload_n 0, 1) := by decide +kernel
theorem d_Cmd_init_130 : decode prog_3_method_1_code 130 = .ok (.iload 4, 2) := by decide +kernel
theorem d_Cmd_init_132 : decode prog_3_method_1_code 132 = .ok (.putfield 39, 3) := by decide +kernel
theorem d_Cmd_init_135 : decode prog_3_method_1_code 135 = .ok (.aload_n 0, 1) := by decide +kernel
theorem d_Cmd_init_136 : decode prog_3_method_1_code 136 = .ok (.iload 5, 2) := by decide +kernel
theorem d_Cmd_init_138 : decode prog_3_method_1_code 138 = .ok (.putfield 42, 3) := by decide +kernel
theorem d_Cmd_init_141 : decode prog_3_method_1_code 141 = .ok (.return_, 1) := by decide +kernel
noncomputable def f_Cmd_init_j109 (a0 : Nat) (r1 : Option Nat) (x2 : Int32) (x3 : Int32) (x4 : Int32) (x5 : Int32) (x6 : Int32) (σ : rb_St) : Option rb_Rs :=
  (rb_fc σ r1 14).bind fun _ => rb_cR (f_Str_substring (r1) (x6) σ) fun r_3 σ_4 => (rb_pR σ_4 (some a0) 11 0 r_3).bind fun σ_5 => (rb_pI σ_5 (some a0) 11 1 x2).bind fun σ_6 => (rb_pZ σ_6 (some a0) 11 2 x3).bind fun σ_7 => (rb_pZ σ_7 (some a0) 11 3 x4).bind fun σ_8 => (rb_pZ σ_8 (some a0) 11 4 x5).bind fun σ_9 => some (none, σ_9)
theorem t_Cmd_init_j109 {E : rb_EV} {d : Nat} {σ0 : rb_St} {res : rb_Rs} (hdd : 6 ≤ d)  (a0 : Nat) (r1 : Option Nat) (x2 : Int32) (x3 : Int32) (x4 : Int32) (x5 : Int32) (x6 : Int32) (σ : rb_St) : rb_TC (f_Cmd_init_j109 a0 r1 x2 x3 x4 x5 x6 σ) (fun r => r = res) (rb_WK E k_Cmd_init d σ0 res 109 [some (va_rf (some a0)), some (va_rf r1), some (.int x2), some (.int x3), some (.int x4), some (.int x5), some (.int x6)] [] σ) := by
  unfold f_Cmd_init_j109
  refine rb_TC.mono (rk_aload_n 0 d_Cmd_init_109 rfl rfl) ?_
  refine rb_TC.mono (rk_aload_n 1 d_Cmd_init_110 rfl rfl) ?_
  refine rb_TC.mono (rk_iload d_Cmd_init_111 rfl) ?_
  refine rt_vR (As := [.int x6]) (st := [va_rf (some a0)]) (r1) vw_Cmd_23 (s_Str_substring (Nat.le_refl _) (r1) (x6) σ) (Nat.le_trans (by decide) hdd) rfl (by simp [rb_cat_r, rb_cat_i, rb_cat_l]) d_Cmd_init_113 (fun r_3 σ_4 => ?_)
  refine rt_pR (some a0) fp_Cmd_init_27 d_Cmd_init_116 (fun σ_5 => ?_)
  refine rb_TC.mono (rk_aload_n 0 d_Cmd_init_119 rfl rfl) ?_
  refine rb_TC.mono (rk_iload_n 2 d_Cmd_init_120 rfl rfl) ?_
  refine rt_pI (some a0) fp_Cmd_init_31 d_Cmd_init_121 (fun σ_6 => ?_)
  refine rb_TC.mono (rk_aload_n 0 d_Cmd_init_124 rfl rfl) ?_
  refine rb_TC.mono (rk_iload_n 3 d_Cmd_init_125 rfl rfl) ?_
  refine rt_pZ (some a0) fp_Cmd_init_35 d_Cmd_init_126 (fun σ_7 => ?_)
  refine rb_TC.mono (rk_aload_n 0 d_Cmd_init_129 rfl rfl) ?_
  refine rb_TC.mono (rk_iload d_Cmd_init_130 rfl) ?_
  refine rt_pZ (some a0) fp_Cmd_init_39 d_Cmd_init_132 (fun σ_8 => ?_)
  refine rb_TC.mono (rk_aload_n 0 d_Cmd_init_135 rfl rfl) ?_
  refine rb_TC.mono (rk_iload d_Cmd_init_136 rfl) ?_
  refine rt_pZ (some a0) fp_Cmd_init_42 d_Cmd_init_138 (fun σ_9 => ?_)
  exact rt_vret rfl (fun h => h) d_Cmd_init_141
noncomputable def f_Cmd_init_j78 (a0 : Nat) (r1 : Option Nat) (x2 : Int32) (x3 : Int32) (x5 : Int32) (x6 : Int32) (sx0 : Int32) (σ : rb_St) : Option ((Int32 × Int32 × Int32 × Int32 × rb_St) ⊕ rb_Rs) :=
  if x5 = 0 then ((rb_fc σ r1 14).bind fun _ => rb_cI (f_Str_charAt (r1) (x6) σ) fun x_18 σ_19 => if x_18 = (43 : Int32) then (some (.inl (x3, sx0, (1 : Int32), (x6 + 1), σ_19))) else (some (.inl (x3, sx0, (0 : Int32), (x6 + 1), σ_19)))) else (some (.inl (x3, sx0, (1 : Int32), (x6 + 1), σ)))
theorem t_Cmd_init_j78 {E : rb_EV} {d : Nat} {σ0 : rb_St} {res : rb_Rs} (hdd : 6 ≤ d)  (a0 : Nat) (r1 : Option Nat) (x2 : Int32) (x3 : Int32) (x5 : Int32) (x6 : Int32) (sx0 : Int32) (σ : rb_St) : rb_TC (f_Cmd_init_j78 a0 r1 x2 x3 x5 x6 sx0 σ) (Sum.elim (fun z : (Int32 × Int32 × Int32 × Int32 × rb_St) => rb_WK E k_Cmd_init d σ0 res 15 [some (va_rf (some a0)), some (va_rf r1), some (.int x2), some (.int z.1), some (.int z.2.1), some (.int z.2.2.1), some (.int z.2.2.2.1)] [] z.2.2.2.2) (fun r => r = res)) (rb_WK E k_Cmd_init d σ0 res 78 [some (va_rf (some a0)), some (va_rf r1), some (.int x2), some (.int x3), none, some (.int x5), some (.int x6)] [.int sx0] σ) := by
  unfold f_Cmd_init_j78
  refine rb_TC.mono (rk_istore (lv2 := [some (va_rf (some a0)), some (va_rf r1), some (.int x2), some (.int x3), some (.int sx0), some (.int x5), some (.int x6)]) d_Cmd_init_78 (by decide) (fun _ => rb_one_i) rfl) ?_
  refine rb_TC.mono (rk_iload d_Cmd_init_80 rfl) ?_
  refine rt_if_ne 96 d_Cmd_init_82 (by decide) (fun _ => ?_) (fun _ => ?_)
  · refine rb_TC.mono (rk_aload_n 1 d_Cmd_init_85 rfl rfl) ?_
    refine rb_TC.mono (rk_iload d_Cmd_init_86 rfl) ?_
    refine rt_vI (As := [.int x6]) (st := []) (r1) vw_Cmd_13 (s_Str_charAt (Nat.le_refl _) (r1) (x6) σ) (Nat.le_trans (by decide) hdd) rfl (by simp [rb_cat_r, rb_cat_i, rb_cat_l]) d_Cmd_init_88 (fun x_18 σ_19 => ?_)
    refine rb_TC.mono (rk_bipush (43 : Int32) d_Cmd_init_91 (by decide)) ?_
    refine rt_icmp_ne 100 d_Cmd_init_93 (by decide) (fun _ => ?_) (fun _ => ?_)
    · refine rb_TC.mono (rk_iconst (1 : Int32) d_Cmd_init_96 (by decide)) ?_
      refine rb_TC.mono (rk_goto 101 d_Cmd_init_97 (by decide)) ?_
      refine rb_TC.mono (rk_istore (lv2 := [some (va_rf (some a0)), some (va_rf r1), some (.int x2), some (.int x3), some (.int sx0), some (.int (1 : Int32)), some (.int x6)]) d_Cmd_init_101 (by decide) (fun _ => rb_one_i) rfl) ?_
      refine rb_TC.mono (rk_iinc (lv2 := [some (va_rf (some a0)), some (va_rf r1), some (.int x2), some (.int x3), some (.int sx0), some (.int (1 : Int32)), some (.int (x6 + 1))]) (x6 + 1) d_Cmd_init_103 rfl rfl (by decide) (fun _ => rb_one_i) rfl) ?_
      refine rb_TC.mono (rk_goto 15 d_Cmd_init_106 (by decide)) ?_
      exact rb_back
    · refine rb_TC.mono (rk_iconst (0 : Int32) d_Cmd_init_100 (by decide)) ?_
      refine rb_TC.mono (rk_istore (lv2 := [some (va_rf (some a0)), some (va_rf r1), some (.int x2), some (.int x3), some (.int sx0), some (.int (0 : Int32)), some (.int x6)]) d_Cmd_init_101 (by decide) (fun _ => rb_one_i) rfl) ?_
      refine rb_TC.mono (rk_iinc (lv2 := [some (va_rf (some a0)), some (va_rf r1), some (.int x2), some (.int x3), some (.int sx0), some (.int (0 : Int32)), some (.int (x6 + 1))]) (x6 + 1) d_Cmd_init_103 rfl rfl (by decide) (fun _ => rb_one_i) rfl) ?_
      refine rb_TC.mono (rk_goto 15 d_Cmd_init_106 (by decide)) ?_
      exact rb_back
  · refine rb_TC.mono (rk_iconst (1 : Int32) d_Cmd_init_96 (by decide)) ?_
    refine rb_TC.mono (rk_goto 101 d_Cmd_init_97 (by decide)) ?_
    refine rb_TC.mono (rk_istore (lv2 := [some (va_rf (some a0)), some (va_rf r1), some (.int x2), some (.int x3), some (.int sx0), some (.int (1 : Int32)), some (.int x6)]) d_Cmd_init_101 (by decide) (fun _ => rb_one_i) rfl) ?_
    refine rb_TC.mono (rk_iinc (lv2 := [some (va_rf (some a0)), some (va_rf r1), some (.int x2), some (.int x3), some (.int sx0), some (.int (1 : Int32)), some (.int (x6 + 1))]) (x6 + 1) d_Cmd_init_103 rfl rfl (by decide) (fun _ => rb_one_i) rfl) ?_
    refine rb_TC.mono (rk_goto 15 d_Cmd_init_106 (by decide)) ?_
    exact rb_back
noncomputable def f_Cmd_init_j73 (a0 : Nat) (r1 : Option Nat) (x2 : Int32) (x3 : Int32) (x5 : Int32) (x6 : Int32) (σ : rb_St) : Option ((Int32 × Int32 × Int32 × Int32 × rb_St) ⊕ rb_Rs) :=
  f_Cmd_init_j78 (a0) (r1) (x2) (x3) (x5) (x6) ((1 : Int32)) σ
theorem t_Cmd_init_j73 {E : rb_EV} {d : Nat} {σ0 : rb_St} {res : rb_Rs} (hdd : 6 ≤ d)  (a0 : Nat) (r1 : Option Nat) (x2 : Int32) (x3 : Int32) (x5 : Int32) (x6 : Int32) (σ : rb_St) : rb_TC (f_Cmd_init_j73 a0 r1 x2 x3 x5 x6 σ) (Sum.elim (fun z : (Int32 × Int32 × Int32 × Int32 × rb_St) => rb_WK E k_Cmd_init d σ0 res 15 [some (va_rf (some a0)), some (va_rf r1), some (.int x2), some (.int z.1), some (.int z.2.1), some (.int z.2.2.1), some (.int z.2.2.2.1)] [] z.2.2.2.2) (fun r => r = res)) (rb_WK E k_Cmd_init d σ0 res 73 [some (va_rf (some a0)), some (va_rf r1), some (.int x2), some (.int x3), none, some (.int x5), some (.int x6)] [] σ) := by
  unfold f_Cmd_init_j73
  refine rb_TC.mono (rk_iconst (1 : Int32) d_Cmd_init_73 (by decide)) ?_
  refine rb_TC.mono (rk_goto 78 d_Cmd_init_74 (by decide)) ?_
  exact t_Cmd_init_j78 hdd  (a0) (r1) (x2) (x3) (x5) (x6) ((1 : Int32)) σ
noncomputable def f_Cmd_init_j56 (a0 : Nat) (r1 : Option Nat) (x2 : Int32) (x4 : Int32) (x5 : Int32) (x6 : Int32) (sx0 : Int32) (σ : rb_St) : Option ((Int32 × Int32 × Int32 × Int32 × rb_St) ⊕ rb_Rs) :=
  if x4 = 0 then ((rb_fc σ r1 14).bind fun _ => rb_cI (f_Str_charAt (r1) (x6) σ) fun x_16 σ_17 => if x_16 = (64 : Int32) then (f_Cmd_init_j73 (a0) (r1) (x2) (sx0) (x5) (x6) σ_17) else (f_Cmd_init_j78 (a0) (r1) (x2) (sx0) (x5) (x6) ((0 : Int32)) σ_17)) else (f_Cmd_init_j73 (a0) (r1) (x2) (sx0) (x5) (x6) σ)
theorem t_Cmd_init_j56 {E : rb_EV} {d : Nat} {σ0 : rb_St} {res : rb_Rs} (hdd : 6 ≤ d)  (a0 : Nat) (r1 : Option Nat) (x2 : Int32) (x4 : Int32) (x5 : Int32) (x6 : Int32) (sx0 : Int32) (σ : rb_St) : rb_TC (f_Cmd_init_j56 a0 r1 x2 x4 x5 x6 sx0 σ) (Sum.elim (fun z : (Int32 × Int32 × Int32 × Int32 × rb_St) => rb_WK E k_Cmd_init d σ0 res 15 [some (va_rf (some a0)), some (va_rf r1), some (.int x2), some (.int z.1), some (.int z.2.1), some (.int z.2.2.1), some (.int z.2.2.2.1)] [] z.2.2.2.2) (fun r => r = res)) (rb_WK E k_Cmd_init d σ0 res 56 [some (va_rf (some a0)), some (va_rf r1), some (.int x2), none, some (.int x4), some (.int x5), some (.int x6)] [.int sx0] σ) := by
  unfold f_Cmd_init_j56
  refine rb_TC.mono (rk_istore_n (lv2 := [some (va_rf (some a0)), some (va_rf r1), some (.int x2), some (.int sx0), some (.int x4), some (.int x5), some (.int x6)]) 3 d_Cmd_init_56 rfl (by decide) (fun _ => rb_one_i) rfl) ?_
  refine rb_TC.mono (rk_iload d_Cmd_init_57 rfl) ?_
  refine rt_if_ne 73 d_Cmd_init_59 (by decide) (fun _ => ?_) (fun _ => ?_)
  · refine rb_TC.mono (rk_aload_n 1 d_Cmd_init_62 rfl rfl) ?_
    refine rb_TC.mono (rk_iload d_Cmd_init_63 rfl) ?_
    refine rt_vI (As := [.int x6]) (st := []) (r1) vw_Cmd_13 (s_Str_charAt (Nat.le_refl _) (r1) (x6) σ) (Nat.le_trans (by decide) hdd) rfl (by simp [rb_cat_r, rb_cat_i, rb_cat_l]) d_Cmd_init_65 (fun x_16 σ_17 => ?_)
    refine rb_TC.mono (rk_bipush (64 : Int32) d_Cmd_init_68 (by decide)) ?_
    refine rt_icmp_ne 77 d_Cmd_init_70 (by decide) (fun _ => ?_) (fun _ => ?_)
    · refine rb_TC.mono (rk_less (lv2 := [some (va_rf (some a0)), some (va_rf r1), some (.int x2), some (.int sx0), none, some (.int x5), some (.int x6)]) (rb_le_ok (rb_leS (rb_leS (rb_leS (rb_leS (rb_leN (rb_leS (rb_leS rb_le0))))))))) ?_
      exact t_Cmd_init_j73 hdd  (a0) (r1) (x2) (sx0) (x5) (x6) σ_17
    · refine rb_TC.mono (rk_iconst (0 : Int32) d_Cmd_init_77 (by decide)) ?_
      refine rb_TC.mono (rk_less (lv2 := [some (va_rf (some a0)), some (va_rf r1), some (.int x2), some (.int sx0), none, some (.int x5), some (.int x6)]) (rb_le_ok (rb_leS (rb_leS (rb_leS (rb_leS (rb_leN (rb_leS (rb_leS rb_le0))))))))) ?_
      exact t_Cmd_init_j78 hdd  (a0) (r1) (x2) (sx0) (x5) (x6) ((0 : Int32)) σ_17
  · refine rb_TC.mono (rk_less (lv2 := [some (va_rf (some a0)), some (va_rf r1), some (.int x2), some (.int sx0), none, some (.int x5), some (.int x6)]) (rb_le_ok (rb_leS (rb_leS (rb_leS (rb_leS (rb_leN (rb_leS (rb_leS rb_le0))))))))) ?_
    exact t_Cmd_init_j73 hdd  (a0) (r1) (x2) (sx0) (x5) (x6) σ
noncomputable def f_Cmd_init_j51 (a0 : Nat) (r1 : Option Nat) (x2 : Int32) (x4 : Int32) (x5 : Int32) (x6 : Int32) (σ : rb_St) : Option ((Int32 × Int32 × Int32 × Int32 × rb_St) ⊕ rb_Rs) :=
  f_Cmd_init_j56 (a0) (r1) (x2) (x4) (x5) (x6) ((1 : Int32)) σ
theorem t_Cmd_init_j51 {E : rb_EV} {d : Nat} {σ0 : rb_St} {res : rb_Rs} (hdd : 6 ≤ d)  (a0 : Nat) (r1 : Option Nat) (x2 : Int32) (x4 : Int32) (x5 : Int32) (x6 : Int32) (σ : rb_St) : rb_TC (f_Cmd_init_j51 a0 r1 x2 x4 x5 x6 σ) (Sum.elim (fun z : (Int32 × Int32 × Int32 × Int32 × rb_St) => rb_WK E k_Cmd_init d σ0 res 15 [some (va_rf (some a0)), some (va_rf r1), some (.int x2), some (.int z.1), some (.int z.2.1), some (.int z.2.2.1), some (.int z.2.2.2.1)] [] z.2.2.2.2) (fun r => r = res)) (rb_WK E k_Cmd_init d σ0 res 51 [some (va_rf (some a0)), some (va_rf r1), some (.int x2), none, some (.int x4), some (.int x5), some (.int x6)] [] σ) := by
  unfold f_Cmd_init_j51
  refine rb_TC.mono (rk_iconst (1 : Int32) d_Cmd_init_51 (by decide)) ?_
  refine rb_TC.mono (rk_goto 56 d_Cmd_init_52 (by decide)) ?_
  exact t_Cmd_init_j56 hdd  (a0) (r1) (x2) (x4) (x5) (x6) ((1 : Int32)) σ
noncomputable def f_Cmd_init_b15 (a0 : Nat) (r1 : Option Nat) (x2 : Int32) (x3 : Int32) (x4 : Int32) (x5 : Int32) (x6 : Int32) (σ : rb_St) : Option ((Int32 × Int32 × Int32 × Int32 × rb_St) ⊕ rb_Rs) :=
  (rb_fc σ r1 14).bind fun _ => rb_cI (f_Str_length (r1)  σ) fun x_1 σ_2 => if x_1 ≤ x6 then ((f_Cmd_init_j109 (a0) (r1) (x2) (x3) (x4) (x5) (x6) σ_2).map Sum.inr) else ((rb_fc σ_2 r1 14).bind fun _ => rb_cI (f_Str_charAt (r1) (x6) σ_2) fun x_10 σ_11 => rb_cI (f_Cmd_isMark (x_10) σ_11) fun x_12 σ_13 => if x_12 = 0 then ((f_Cmd_init_j109 (a0) (r1) (x2) (x3) (x4) (x5) (x6) σ_13).map Sum.inr) else (if x3 = 0 then ((rb_fc σ_13 r1 14).bind fun _ => rb_cI (f_Str_charAt (r1) (x6) σ_13) fun x_14 σ_15 => if x_14 = (45 : Int32) then (f_Cmd_init_j51 (a0) (r1) (x2) (x4) (x5) (x6) σ_15) else (f_Cmd_init_j56 (a0) (r1) (x2) (x4) (x5) (x6) ((0 : Int32)) σ_15)) else (f_Cmd_init_j51 (a0) (r1) (x2) (x4) (x5) (x6) σ_13)))
theorem t_Cmd_init_b15 {E : rb_EV} {d : Nat} {σ0 : rb_St} {res : rb_Rs} (hdd : 6 ≤ d)  (a0 : Nat) (r1 : Option Nat) (x2 : Int32) (x3 : Int32) (x4 : Int32) (x5 : Int32) (x6 : Int32) (σ : rb_St) : rb_TC (f_Cmd_init_b15 a0 r1 x2 x3 x4 x5 x6 σ) (Sum.elim (fun z : (Int32 × Int32 × Int32 × Int32 × rb_St) => rb_WK E k_Cmd_init d σ0 res 15 [some (va_rf (some a0)), some (va_rf r1), some (.int x2), some (.int z.1), some (.int z.2.1), some (.int z.2.2.1), some (.int z.2.2.2.1)] [] z.2.2.2.2) (fun r => r = res)) (rb_WK E k_Cmd_init d σ0 res 15 [some (va_rf (some a0)), some (va_rf r1), some (.int x2), some (.int x3), some (.int x4), some (.int x5), some (.int x6)] [] σ) := by
  unfold f_Cmd_init_b15
  refine rb_TC.mono (rk_iload d_Cmd_init_15 rfl) ?_
  refine rb_TC.mono (rk_aload_n 1 d_Cmd_init_17 rfl rfl) ?_
  refine rt_vI (As := []) (st := [.int x6]) (r1) vw_Cmd_7 (s_Str_length (Nat.le_refl _) (r1)  σ) (Nat.le_trans (by decide) hdd) rfl (by simp [rb_cat_r, rb_cat_i, rb_cat_l]) d_Cmd_init_18 (fun x_1 σ_2 => ?_)
  refine rt_icmp_ge 109 d_Cmd_init_21 (by decide) (fun _ => ?_) (fun _ => ?_)
  · refine rb_TC.out ?_
    exact t_Cmd_init_j109 hdd  (a0) (r1) (x2) (x3) (x4) (x5) (x6) σ_2
  · refine rb_TC.mono (rk_aload_n 1 d_Cmd_init_24 rfl rfl) ?_
    refine rb_TC.mono (rk_iload d_Cmd_init_25 rfl) ?_
    refine rt_vI (As := [.int x6]) (st := []) (r1) vw_Cmd_13 (s_Str_charAt (Nat.le_refl _) (r1) (x6) σ_2) (Nat.le_trans (by decide) hdd) rfl (by simp [rb_cat_r, rb_cat_i, rb_cat_l]) d_Cmd_init_27 (fun x_10 σ_11 => ?_)
    refine rt_sI (As := [.int x_10]) (st := []) sw_Cmd_17 (s_Cmd_isMark (Nat.le_refl _) (x_10) σ_11) (Nat.le_trans (by decide) hdd) rfl (by simp [rb_cat_r, rb_cat_i, rb_cat_l]) d_Cmd_init_30 (fun x_12 σ_13 => ?_)
    refine rt_if_eq 109 d_Cmd_init_33 (by decide) (fun _ => ?_) (fun _ => ?_)
    · refine rb_TC.out ?_
      exact t_Cmd_init_j109 hdd  (a0) (r1) (x2) (x3) (x4) (x5) (x6) σ_13
    · refine rb_TC.mono (rk_iload_n 3 d_Cmd_init_36 rfl rfl) ?_
      refine rt_if_ne 51 d_Cmd_init_37 (by decide) (fun _ => ?_) (fun _ => ?_)
      · refine rb_TC.mono (rk_aload_n 1 d_Cmd_init_40 rfl rfl) ?_
        refine rb_TC.mono (rk_iload d_Cmd_init_41 rfl) ?_
        refine rt_vI (As := [.int x6]) (st := []) (r1) vw_Cmd_13 (s_Str_charAt (Nat.le_refl _) (r1) (x6) σ_13) (Nat.le_trans (by decide) hdd) rfl (by simp [rb_cat_r, rb_cat_i, rb_cat_l]) d_Cmd_init_43 (fun x_14 σ_15 => ?_)
        refine rb_TC.mono (rk_bipush (45 : Int32) d_Cmd_init_46 (by decide)) ?_
        refine rt_icmp_ne 55 d_Cmd_init_48 (by decide) (fun _ => ?_) (fun _ => ?_)
        · refine rb_TC.mono (rk_less (lv2 := [some (va_rf (some a0)), some (va_rf r1), some (.int x2), none, some (.int x4), some (.int x5), some (.int x6)]) (rb_le_ok (rb_leS (rb_leS (rb_leS (rb_leN (rb_leS (rb_leS (rb_leS rb_le0))))))))) ?_
          exact t_Cmd_init_j51 hdd  (a0) (r1) (x2) (x4) (x5) (x6) σ_15
        · refine rb_TC.mono (rk_iconst (0 : Int32) d_Cmd_init_55 (by decide)) ?_
          refine rb_TC.mono (rk_less (lv2 := [some (va_rf (some a0)), some (va_rf r1), some (.int x2), none, some (.int x4), some (.int x5), some (.int x6)]) (rb_le_ok (rb_leS (rb_leS (rb_leS (rb_leN (rb_leS (rb_leS (rb_leS rb_le0))))))))) ?_
          exact t_Cmd_init_j56 hdd  (a0) (r1) (x2) (x4) (x5) (x6) ((0 : Int32)) σ_15
      · refine rb_TC.mono (rk_less (lv2 := [some (va_rf (some a0)), some (va_rf r1), some (.int x2), none, some (.int x4), some (.int x5), some (.int x6)]) (rb_le_ok (rb_leS (rb_leS (rb_leS (rb_leN (rb_leS (rb_leS (rb_leS rb_le0))))))))) ?_
        exact t_Cmd_init_j51 hdd  (a0) (r1) (x2) (x4) (x5) (x6) σ_13
noncomputable def f_Cmd_init (a0 : Nat) (r1 : Option Nat) (x2 : Int32) (σ : rb_St) : Option rb_Rs :=
  rb_it (fun z : (Int32 × Int32 × Int32 × Int32 × rb_St) => f_Cmd_init_b15 (a0) (r1) (x2) (z.1) (z.2.1) (z.2.2.1) (z.2.2.2.1) z.2.2.2.2) ((0 : Int32), (0 : Int32), (0 : Int32), (0 : Int32), σ)
theorem s_Cmd_init {E : rb_EV} {d : Nat} (hdd : 6 ≤ d) (a0 : Nat) (r1 : Option Nat) (x2 : Int32) (σ : rb_St) : rb_Does E k_Cmd_init d [va_rf (some a0), va_rf r1, .int x2] σ (f_Cmd_init a0 r1 x2 σ) := by
  refine rb_start (lv := [some (va_rf (some a0)), some (va_rf r1), some (.int x2), none, none, none, none]) (by decide) (by simp [lg_sl, rb_as, lv_args, rb_cat_r, rb_cat_i, rb_cat_l, rb_nL, k_Cmd_init]) (fun res => ?_)
  unfold f_Cmd_init
  refine rb_TC.mono (rk_aload_n 0 d_Cmd_init_0 rfl rfl) ?_
  refine rb_TC.mono (rk_objInit w_ml_Cmd_1 w_oi w_oc (Nat.le_trans (by decide) hdd) (by simp [rb_cat_r, rb_cat_i, rb_cat_l]) d_Cmd_init_1 rfl) ?_
  refine rb_TC.mono (rk_iconst (0 : Int32) d_Cmd_init_4 (by decide)) ?_
  refine rb_TC.mono (rk_istore_n (lv2 := [some (va_rf (some a0)), some (va_rf r1), some (.int x2), some (.int (0 : Int32)), none, none, none]) 3 d_Cmd_init_5 rfl (by decide) (fun _ => rb_one_i) rfl) ?_
  refine rb_TC.mono (rk_iconst (0 : Int32) d_Cmd_init_6 (by decide)) ?_
  refine rb_TC.mono (rk_istore (lv2 := [some (va_rf (some a0)), some (va_rf r1), some (.int x2), some (.int (0 : Int32)), some (.int (0 : Int32)), none, none]) d_Cmd_init_7 (by decide) (fun _ => rb_one_i) rfl) ?_
  refine rb_TC.mono (rk_iconst (0 : Int32) d_Cmd_init_9 (by decide)) ?_
  refine rb_TC.mono (rk_istore (lv2 := [some (va_rf (some a0)), some (va_rf r1), some (.int x2), some (.int (0 : Int32)), some (.int (0 : Int32)), some (.int (0 : Int32)), none]) d_Cmd_init_10 (by decide) (fun _ => rb_one_i) rfl) ?_
  refine rb_TC.mono (rk_iconst (0 : Int32) d_Cmd_init_12 (by decide)) ?_
  refine rb_TC.mono (rk_istore (lv2 := [some (va_rf (some a0)), some (va_rf r1), some (.int x2), some (.int (0 : Int32)), some (.int (0 : Int32)), some (.int (0 : Int32)), some (.int (0 : Int32))]) d_Cmd_init_13 (by decide) (fun _ => rb_one_i) rfl) ?_
  exact rb_TC.loop2 (A := (fun z : (Int32 × Int32 × Int32 × Int32 × rb_St) => rb_WK E k_Cmd_init d σ res 15 [some (va_rf (some a0)), some (va_rf r1), some (.int x2), some (.int z.1), some (.int z.2.1), some (.int z.2.2.1), some (.int z.2.2.2.1)] [] z.2.2.2.2)) ((0 : Int32), (0 : Int32), (0 : Int32), (0 : Int32), σ) (fun z => t_Cmd_init_b15 hdd  (a0) (r1) (x2) (z.1) (z.2.1) (z.2.2.1) (z.2.2.2.1) z.2.2.2.2)
-- ===== RuleBuilder$Rules.<init>()V
def k_Rules_init : rb_MK := (⟨"RuleBuilder$Rules", "<init>", "()V"⟩, prog_8_method_1_code, 1, none)
theorem mw_Rules_init : rb_Mw k_Rules_init 0 := ⟨rb_inG 149 (by decide +kernel) rfl, rb_inG 88 (by decide +kernel) rfl, ⟨by decide, by decide, by decide +kernel⟩, by decide⟩
theorem w_cl_Rules_11 : Cond.classLink "RuleBuilder$Rules" 11 "RuleBuilder$Phrase" ∈ rb_G := rb_inG 151 (by decide +kernel) rfl
theorem w_cl_Rules_27 : Cond.classLink "RuleBuilder$Rules" 27 "RuleBuilder$Command" ∈ rb_G := rb_inG 153 (by decide +kernel) rfl
theorem w_cl_Rules_33 : Cond.classLink "RuleBuilder$Rules" 33 "RuleBuilder$Name" ∈ rb_G := rb_inG 155 (by decide +kernel) rfl
theorem fw_Rules_13 : rb_Fw "RuleBuilder$Rules" 13 4 0 := ⟨_, rfl, by decide, by decide, by decide, rfl, rb_inG 156 (by decide +kernel) rfl⟩
theorem fp_Rules_init_13 : rb_Fp k_Rules_init 13 4 0 (.array (.object "RuleBuilder$Phrase")) ∧ ((∃ n, (.array (.object "RuleBuilder$Phrase") : FieldType) = .object n) ∨ ∃ t, (.array (.object "RuleBuilder$Phrase") : FieldType) = .array t) := ⟨⟨fw_Rules_13, rfl, fun q h => by cases h; exact Or.inr ⟨rfl, rfl, rfl⟩⟩, Or.inr ⟨_, rfl⟩⟩
theorem fw_Rules_17 : rb_Fw "RuleBuilder$Rules" 17 4 2 := ⟨_, rfl, by decide, by decide, by decide, rfl, rb_inG 161 (by decide +kernel) rfl⟩
theorem fp_Rules_init_17 : rb_Fp k_Rules_init 17 4 2 (.array (.object "RuleBuilder$Phrase")) ∧ ((∃ n, (.array (.object "RuleBuilder$Phrase") : FieldType) = .object n) ∨ ∃ t, (.array (.object "RuleBuilder$Phrase") : FieldType) = .array t) := ⟨⟨fw_Rules_17, rfl, fun q h => by cases h; exact Or.inr ⟨rfl, rfl, rfl⟩⟩, Or.inr ⟨_, rfl⟩⟩
theorem fw_Rules_20 : rb_Fw "RuleBuilder$Rules" 20 4 3 := ⟨_, rfl, by decide, by decide, by decide, rfl, rb_inG 162 (by decide +kernel) rfl⟩
theorem fp_Rules_init_20 : rb_Fp k_Rules_init 20 4 3 (.array (.object "RuleBuilder$Phrase")) ∧ ((∃ n, (.array (.object "RuleBuilder$Phrase") : FieldType) = .object n) ∨ ∃ t, (.array (.object "RuleBuilder$Phrase") : FieldType) = .array t) := ⟨⟨fw_Rules_20, rfl, fun q h => by cases h; exact Or.inr ⟨rfl, rfl, rfl⟩⟩, Or.inr ⟨_, rfl⟩⟩
theorem fw_Rules_23 : rb_Fw "RuleBuilder$Rules" 23 4 4 := ⟨_, rfl, by decide, by decide, by decide, rfl, rb_inG 163 (by decide +kernel) rfl⟩
theorem fp_Rules_init_23 : rb_Fp k_Rules_init 23 4 4 (.array .int) ∧ ((∃ n, (.array .int : FieldType) = .object n) ∨ ∃ t, (.array .int : FieldType) = .array t) := ⟨⟨fw_Rules_23, rfl, fun q h => by cases h; exact Or.inr ⟨rfl, rfl, rfl⟩⟩, Or.inr ⟨_, rfl⟩⟩
theorem fw_Rules_29 : rb_Fw "RuleBuilder$Rules" 29 4 6 := ⟨_, rfl, by decide, by decide, by decide, rfl, rb_inG 165 (by decide +kernel) rfl⟩
theorem fp_Rules_init_29 : rb_Fp k_Rules_init 29 4 6 (.array (.object "RuleBuilder$Command")) ∧ ((∃ n, (.array (.object "RuleBuilder$Command") : FieldType) = .object n) ∨ ∃ t, (.array (.object "RuleBuilder$Command") : FieldType) = .array t) := ⟨⟨fw_Rules_29, rfl, fun q h => by cases h; exact Or.inr ⟨rfl, rfl, rfl⟩⟩, Or.inr ⟨_, rfl⟩⟩
theorem fw_Rules_35 : rb_Fw "RuleBuilder$Rules" 35 4 8 := ⟨_, rfl, by decide, by decide, by decide, rfl, rb_inG 167 (by decide +kernel) rfl⟩
theorem fp_Rules_init_35 : rb_Fp k_Rules_init 35 4 8 (.array (.object "RuleBuilder$Name")) ∧ ((∃ n, (.array (.object "RuleBuilder$Name") : FieldType) = .object n) ∨ ∃ t, (.array (.object "RuleBuilder$Name") : FieldType) = .array t) := ⟨⟨fw_Rules_35, rfl, fun q h => by cases h; exact Or.inr ⟨rfl, rfl, rfl⟩⟩, Or.inr ⟨_, rfl⟩⟩
theorem fw_Rules_39 : rb_Fw "RuleBuilder$Rules" 39 4 9 := ⟨_, rfl, by decide, by decide, by decide, rfl, rb_inG 169 (by decide +kernel) rfl⟩
theorem fp_Rules_init_39 : rb_Fp k_Rules_init 39 4 9 (.array (.object "RuleBuilder$Name")) ∧ ((∃ n, (.array (.object "RuleBuilder$Name") : FieldType) = .object n) ∨ ∃ t, (.array (.object "RuleBuilder$Name") : FieldType) = .array t) := ⟨⟨fw_Rules_39, rfl, fun q h => by cases h; exact Or.inr ⟨rfl, rfl, rfl⟩⟩, Or.inr ⟨_, rfl⟩⟩
theorem fw_Rules_42 : rb_Fw "RuleBuilder$Rules" 42 4 11 := ⟨_, rfl, by decide, by decide, by decide, rfl, rb_inG 173 (by decide +kernel) rfl⟩
theorem fp_Rules_init_42 : rb_Fp k_Rules_init 42 4 11 .int := ⟨fw_Rules_42, rfl, fun q h => by cases h; exact Or.inl rfl⟩
theorem w_ml_Rules_3 : Cond.methodLink "RuleBuilder$Rules" 3 Lib.objectInit ∈ rb_G := rb_inG 150 (by decide +kernel) rfl
theorem d_Rules_init_0 : decode prog_8_method_1_code 0 = .ok (.aload_n 0, 1) := by decide +kernel
theorem d_Rules_init_1 : decode prog_8_method_1_code 1 = .ok (.invokespecial 3, 3) := by decide +kernel
theorem d_Rules_init_4 : decode prog_8_method_1_code 4 = .ok (.aload_n 0, 1) := by decide +kernel
theorem d_Rules_init_5 : decode prog_8_method_1_code 5 = .ok (.bipush 6, 2) := by decide +kernel
theorem d_Rules_init_7 : decode prog_8_method_1_code 7 = .ok (.anewarray 11, 3) := by decide +kernel
theorem d_Rules_init_10 : decode prog_8_method_1_code 10 = .ok (.putfield 13, 3) := by decide +kernel
theorem d_Rules_init_13 : decode prog_8_method_1_code 13 = .ok (.aload_n 0, 1) := by decide +kernel
theorem d_Rules_init_14 : decode prog_8_method_1_code 14 = .ok (.bipush 8, 2) := by decide +kernel
theorem d_Rules_init_16 : decode prog_8_method_1_code 16 = .ok (.anewarray 11, 3) := by decide +kernel
theorem d_Rules_init_19 : decode prog_8_method_1_code 19 = .ok (.putfield 17, 3) := by decide +kernel
theorem d_Rules_init_22 : decode prog_8_method_1_code 22 = .ok (.aload_n 0, 1) := by decide +kernel
theorem d_Rules_init_23 : decode prog_8_method_1_code 23 = .ok (.bipush 8, 2) := by decide +kernel
theorem d_Rules_init_25 : decode prog_8_method_1_code 25 = .ok (.anewarray 11, 3) := by decide +kernel
theorem d_Rules_init_28 : decode prog_8_method_1_code 28 = .ok (.putfield 20, 3) := by decide +kernel
theorem d_Rules_init_31 : decode prog_8_method_1_code 31 = .ok (.aload_n 0, 1) := by decide +kernel
theorem d_Rules_init_32 : decode prog_8_method_1_code 32 = .ok (.bipush 8, 2) := by decide +kernel
theorem d_Rules_init_34 : decode prog_8_method_1_code 34 = .ok (.newarray .int, 2) := by decide +kernel
theorem d_Rules_init_36 : decode prog_8_method_1_code 36 = .ok (.putfield 23, 3) := by decide +kernel
theorem d_Rules_init_39 : decode prog_8_method_1_code 39 = .ok (.aload_n 0, 1) := by decide +kernel
theorem d_Rules_init_40 : decode prog_8_method_1_code 40 = .ok (.bipush 30, 2) := by decide +kernel
theorem d_Rules_init_42 : decode prog_8_method_1_code 42 = .ok (.anewarray 27, 3) := by decide +kernel
theorem d_Rules_init_45 : decode prog_8_method_1_code 45 = .ok (.putfield 29, 3) := by decide +kernel
theorem d_Rules_init_48 : decode prog_8_method_1_code 48 = .ok (.aload_n 0, 1) := by decide +kernel
theorem d_Rules_init_49 : decode prog_8_method_1_code 49 = .ok (.bipush 80, 2) := by decide +kernel
theorem d_Rules_init_51 : decode prog_8_method_1_code 51 = .ok (.anewarray 33, 3) := by decide +kernel
theorem d_Rules_init_54 : decode prog_8_method_1_code 54 = .ok (.putfield 35, 3) := by decide +kernel
theorem d_Rules_init_57 : decode prog_8_method_1_code 57 = .ok (.aload_n 0, 1) := by decide +kernel
theorem d_Rules_init_58 : decode prog_8_method_1_code 58 = .ok (.bipush 80, 2) := by decide +kernel
theorem d_Rules_init_60 : decode prog_8_method_1_code 60 = .ok (.anewarray 33, 3) := by decide +kernel
theorem d_Rules_init_63 : decode prog_8_method_1_code 63 = .ok (.putfield 39, 3) := by decide +kernel
theorem d_Rules_init_66 : decode prog_8_method_1_code 66 = .ok (.aload_n 0, 1) := by decide +kernel
theorem d_Rules_init_67 : decode prog_8_method_1_code 67 = .ok (.iconst (-1), 1) := by decide +kernel
theorem d_Rules_init_68 : decode prog_8_method_1_code 68 = .ok (.putfield 42, 3) := by decide +kernel
theorem d_Rules_init_71 : decode prog_8_method_1_code 71 = .ok (.return_, 1) := by decide +kernel
noncomputable def f_Rules_init (a0 : Nat) (σ : rb_St) : Option rb_Rs :=
  (rb_nA σ 111 (6 : Int32)).bind fun σ_1 => (rb_pR σ_1 (some a0) 4 0 (some (rb_n σ))).bind fun σ_2 => (rb_nA σ_2 111 (8 : Int32)).bind fun σ_3 => (rb_pR σ_3 (some a0) 4 2 (some (rb_n σ_2))).bind fun σ_4 => (rb_nA σ_4 111 (8 : Int32)).bind fun σ_5 => (rb_pR σ_5 (some a0) 4 3 (some (rb_n σ_4))).bind fun σ_6 => (rb_nA σ_6 102 (8 : Int32)).bind fun σ_7 => (rb_pR σ_7 (some a0) 4 4 (some (rb_n σ_6))).bind fun σ_8 => (rb_nA σ_8 113 (30 : Int32)).bind fun σ_9 => (rb_pR σ_9 (some a0) 4 6 (some (rb_n σ_8))).bind fun σ_10 => (rb_nA σ_10 112 (80 : Int32)).bind fun σ_11 => (rb_pR σ_11 (some a0) 4 8 (some (rb_n σ_10))).bind fun σ_12 => (rb_nA σ_12 112 (80 : Int32)).bind fun σ_13 => (rb_pR σ_13 (some a0) 4 9 (some (rb_n σ_12))).bind fun σ_14 => (rb_pI σ_14 (some a0) 4 11 (-1 : Int32)).bind fun σ_15 => some (none, σ_15)
theorem s_Rules_init {E : rb_EV} {d : Nat} (hdd : 1 ≤ d) (a0 : Nat) (σ : rb_St) : rb_Does E k_Rules_init d [va_rf (some a0)] σ (f_Rules_init a0 σ) := by
  refine rb_start (lv := [some (va_rf (some a0))]) (by decide) (by simp [lg_sl, rb_as, lv_args, rb_cat_r, rb_cat_i, rb_cat_l, rb_nL, k_Rules_init]) (fun res => ?_)
  unfold f_Rules_init
  refine rb_TC.mono (rk_aload_n 0 d_Rules_init_0 rfl rfl) ?_
  refine rb_TC.mono (rk_objInit w_ml_Rules_3 w_oi w_oc (Nat.le_trans (by decide) hdd) (by simp [rb_cat_r, rb_cat_i, rb_cat_l]) d_Rules_init_1 rfl) ?_
  refine rb_TC.mono (rk_aload_n 0 d_Rules_init_4 rfl rfl) ?_
  refine rb_TC.mono (rk_bipush (6 : Int32) d_Rules_init_5 (by decide)) ?_
  refine rt_anew (t := 111) ⟨by decide, rfl, by decide, w_cl_Rules_11⟩ d_Rules_init_7 (fun σ_1 => ?_)
  refine rt_pR (some a0) fp_Rules_init_13 d_Rules_init_10 (fun σ_2 => ?_)
  refine rb_TC.mono (rk_aload_n 0 d_Rules_init_13 rfl rfl) ?_
  refine rb_TC.mono (rk_bipush (8 : Int32) d_Rules_init_14 (by decide)) ?_
  refine rt_anew (t := 111) ⟨by decide, rfl, by decide, w_cl_Rules_11⟩ d_Rules_init_16 (fun σ_3 => ?_)
  refine rt_pR (some a0) fp_Rules_init_17 d_Rules_init_19 (fun σ_4 => ?_)
  refine rb_TC.mono (rk_aload_n 0 d_Rules_init_22 rfl rfl) ?_
  refine rb_TC.mono (rk_bipush (8 : Int32) d_Rules_init_23 (by decide)) ?_
  refine rt_anew (t := 111) ⟨by decide, rfl, by decide, w_cl_Rules_11⟩ d_Rules_init_25 (fun σ_5 => ?_)
  refine rt_pR (some a0) fp_Rules_init_20 d_Rules_init_28 (fun σ_6 => ?_)
  refine rb_TC.mono (rk_aload_n 0 d_Rules_init_31 rfl rfl) ?_
  refine rb_TC.mono (rk_bipush (8 : Int32) d_Rules_init_32 (by decide)) ?_
  refine rt_newa (t := 102) ⟨by decide, rfl, w_ac_int⟩ d_Rules_init_34 (fun σ_7 => ?_)
  refine rt_pR (some a0) fp_Rules_init_23 d_Rules_init_36 (fun σ_8 => ?_)
  refine rb_TC.mono (rk_aload_n 0 d_Rules_init_39 rfl rfl) ?_
  refine rb_TC.mono (rk_bipush (30 : Int32) d_Rules_init_40 (by decide)) ?_
  refine rt_anew (t := 113) ⟨by decide, rfl, by decide, w_cl_Rules_27⟩ d_Rules_init_42 (fun σ_9 => ?_)
  refine rt_pR (some a0) fp_Rules_init_29 d_Rules_init_45 (fun σ_10 => ?_)
  refine rb_TC.mono (rk_aload_n 0 d_Rules_init_48 rfl rfl) ?_
  refine rb_TC.mono (rk_bipush (80 : Int32) d_Rules_init_49 (by decide)) ?_
  refine rt_anew (t := 112) ⟨by decide, rfl, by decide, w_cl_Rules_33⟩ d_Rules_init_51 (fun σ_11 => ?_)
  refine rt_pR (some a0) fp_Rules_init_35 d_Rules_init_54 (fun σ_12 => ?_)
  refine rb_TC.mono (rk_aload_n 0 d_Rules_init_57 rfl rfl) ?_
  refine rb_TC.mono (rk_bipush (80 : Int32) d_Rules_init_58 (by decide)) ?_
  refine rt_anew (t := 112) ⟨by decide, rfl, by decide, w_cl_Rules_33⟩ d_Rules_init_60 (fun σ_13 => ?_)
  refine rt_pR (some a0) fp_Rules_init_39 d_Rules_init_63 (fun σ_14 => ?_)
  refine rb_TC.mono (rk_aload_n 0 d_Rules_init_66 rfl rfl) ?_
  refine rb_TC.mono (rk_iconst (-1 : Int32) d_Rules_init_67 (by decide)) ?_
  refine rt_pI (some a0) fp_Rules_init_42 d_Rules_init_68 (fun σ_15 => ?_)
  exact rt_vret rfl (fun h => h) d_Rules_init_71
-- ===== RuleBuilder$Rules.forget()V
def k_Rules_forget : rb_MK := (⟨"RuleBuilder$Rules", "forget", "()V"⟩, prog_8_method_2_code, 1, none)
theorem mw_Rules_forget : rb_Mw k_Rules_forget 0 := ⟨rb_inG 538 (by decide +kernel) rfl, rb_inG 88 (by decide +kernel) rfl, ⟨by decide, by decide, by decide +kernel⟩, by decide⟩
theorem fp_Rules_forget_42 : rb_Fp k_Rules_forget 42 4 11 .int := ⟨fw_Rules_42, rfl, fun q h => by cases h; exact Or.inl rfl⟩
theorem fw_Rules_46 : rb_Fw "RuleBuilder$Rules" 46 4 1 := ⟨_, rfl, by decide, by decide, by decide, rfl, rb_inG 158 (by decide +kernel) rfl⟩
theorem fp_Rules_forget_46 : rb_Fp k_Rules_forget 46 4 1 .int := ⟨fw_Rules_46, rfl, fun q h => by cases h; exact Or.inl rfl⟩
theorem fw_Rules_49 : rb_Fw "RuleBuilder$Rules" 49 4 5 := ⟨_, rfl, by decide, by decide, by decide, rfl, rb_inG 164 (by decide +kernel) rfl⟩
theorem fp_Rules_forget_49 : rb_Fp k_Rules_forget 49 4 5 .int := ⟨fw_Rules_49, rfl, fun q h => by cases h; exact Or.inl rfl⟩
theorem fw_Rules_52 : rb_Fw "RuleBuilder$Rules" 52 4 7 := ⟨_, rfl, by decide, by decide, by decide, rfl, rb_inG 166 (by decide +kernel) rfl⟩
theorem fp_Rules_forget_52 : rb_Fp k_Rules_forget 52 4 7 .int := ⟨fw_Rules_52, rfl, fun q h => by cases h; exact Or.inl rfl⟩
theorem fw_Rules_55 : rb_Fw "RuleBuilder$Rules" 55 4 10 := ⟨_, rfl, by decide, by decide, by decide, rfl, rb_inG 171 (by decide +kernel) rfl⟩
theorem fp_Rules_forget_55 : rb_Fp k_Rules_forget 55 4 10 .int := ⟨fw_Rules_55, rfl, fun q h => by cases h; exact Or.inl rfl⟩
theorem fw_Rules_58 : rb_Fw "RuleBuilder$Rules" 58 4 12 := ⟨_, rfl, by decide, by decide, by decide, rfl, rb_inG 176 (by decide +kernel) rfl⟩
theorem fp_Rules_forget_58 : rb_Fp k_Rules_forget 58 4 12 (.object "RuleBuilder$Name") ∧ ((∃ n, (.object "RuleBuilder$Name" : FieldType) = .object n) ∨ ∃ t, (.object "RuleBuilder$Name" : FieldType) = .array t) := ⟨⟨fw_Rules_58, rfl, fun q h => by cases h; exact Or.inl rfl⟩, Or.inl ⟨_, rfl⟩⟩
theorem fw_Rules_62 : rb_Fw "RuleBuilder$Rules" 62 4 13 := ⟨_, rfl, by decide, by decide, by decide, rfl, rb_inG 179 (by decide +kernel) rfl⟩
theorem fp_Rules_forget_62 : rb_Fp k_Rules_forget 62 4 13 .boolean := ⟨fw_Rules_62, rfl, fun q h => by cases h; exact Or.inl rfl⟩
theorem fw_Rules_66 : rb_Fw "RuleBuilder$Rules" 66 4 14 := ⟨_, rfl, by decide, by decide, by decide, rfl, rb_inG 182 (by decide +kernel) rfl⟩
theorem fp_Rules_forget_66 : rb_Fp k_Rules_forget 66 4 14 .boolean := ⟨fw_Rules_66, rfl, fun q h => by cases h; exact Or.inl rfl⟩
theorem d_Rules_forget_0 : decode prog_8_method_2_code 0 = .ok (.aload_n 0, 1) := by decide +kernel
theorem d_Rules_forget_1 : decode prog_8_method_2_code 1 = .ok (.iconst 0, 1) := by decide +kernel
theorem d_Rules_forget_2 : decode prog_8_method_2_code 2 = .ok (.putfield 46, 3) := by decide +kernel
theorem d_Rules_forget_5 : decode prog_8_method_2_code 5 = .ok (.aload_n 0, 1) := by decide +kernel
theorem d_Rules_forget_6 : decode prog_8_method_2_code 6 = .ok (.iconst 0, 1) := by decide +kernel
theorem d_Rules_forget_7 : decode prog_8_method_2_code 7 = .ok (.putfield 49, 3) := by decide +kernel
theorem d_Rules_forget_10 : decode prog_8_method_2_code 10 = .ok (.aload_n 0, 1) := by decide +kernel
theorem d_Rules_forget_11 : decode prog_8_method_2_code 11 = .ok (.iconst 0, 1) := by decide +kernel
theorem d_Rules_forget_12 : decode prog_8_method_2_code 12 = .ok (.putfield 52, 3) := by decide +kernel
theorem d_Rules_forget_15 : decode prog_8_method_2_code 15 = .ok (.aload_n 0, 1) := by decide +kernel
theorem d_Rules_forget_16 : decode prog_8_method_2_code 16 = .ok (.iconst 0, 1) := by decide +kernel
theorem d_Rules_forget_17 : decode prog_8_method_2_code 17 = .ok (.putfield 55, 3) := by decide +kernel
theorem d_Rules_forget_20 : decode prog_8_method_2_code 20 = .ok (.aload_n 0, 1) := by decide +kernel
theorem d_Rules_forget_21 : decode prog_8_method_2_code 21 = .ok (.iconst (-1), 1) := by decide +kernel
theorem d_Rules_forget_22 : decode prog_8_method_2_code 22 = .ok (.putfield 42, 3) := by decide +kernel
theorem d_Rules_forget_25 : decode prog_8_method_2_code 25 = .ok (.aload_n 0, 1) := by decide +kernel
theorem d_Rules_forget_26 : decode prog_8_method_2_code 26 = .ok (.aconst_null, 1) := by decide +kernel
theorem d_Rules_forget_27 : decode prog_8_method_2_code 27 = .ok (.putfield 58, 3) := by decide +kernel
theorem d_Rules_forget_30 : decode prog_8_method_2_code 30 = .ok (.aload_n 0, 1) := by decide +kernel
theorem d_Rules_forget_31 : decode prog_8_method_2_code 31 = .ok (.iconst 0, 1) := by decide +kernel
theorem d_Rules_forget_32 : decode prog_8_method_2_code 32 = .ok (.putfield 62, 3) := by decide +kernel
theorem d_Rules_forget_35 : decode prog_8_method_2_code 35 = .ok (.aload_n 0, 1) := by decide +kernel
theorem d_Rules_forget_36 : decode prog_8_method_2_code 36 = .ok (.iconst 0, 1) := by decide +kernel
theorem d_Rules_forget_37 : decode prog_8_method_2_code 37 = .ok (.putfield 66, 3) := by decide +kernel
theorem d_Rules_forget_40 : decode prog_8_method_2_code 40 = .ok (.return_, 1) := by decide +kernel
noncomputable def f_Rules_forget (r0 : Option Nat) (σ : rb_St) : Option rb_Rs :=
  (rb_pI σ r0 4 1 (0 : Int32)).bind fun σ_1 => (rb_pI σ_1 r0 4 5 (0 : Int32)).bind fun σ_2 => (rb_pI σ_2 r0 4 7 (0 : Int32)).bind fun σ_3 => (rb_pI σ_3 r0 4 10 (0 : Int32)).bind fun σ_4 => (rb_pI σ_4 r0 4 11 (-1 : Int32)).bind fun σ_5 => (rb_pR σ_5 r0 4 12 none).bind fun σ_6 => (rb_pZ σ_6 r0 4 13 (0 : Int32)).bind fun σ_7 => (rb_pZ σ_7 r0 4 14 (0 : Int32)).bind fun σ_8 => some (none, σ_8)
theorem s_Rules_forget {E : rb_EV} {d : Nat} (hdd : 0 ≤ d) (r0 : Option Nat) (σ : rb_St) : rb_Does E k_Rules_forget d [va_rf r0] σ (f_Rules_forget r0 σ) := by
  refine rb_start (lv := [some (va_rf r0)]) (by decide) (by simp [lg_sl, rb_as, lv_args, rb_cat_r, rb_cat_i, rb_cat_l, rb_nL, k_Rules_forget]) (fun res => ?_)
  unfold f_Rules_forget
  refine rb_TC.mono (rk_aload_n 0 d_Rules_forget_0 rfl rfl) ?_
  refine rb_TC.mono (rk_iconst (0 : Int32) d_Rules_forget_1 (by decide)) ?_
  refine rt_pI r0 fp_Rules_forget_46 d_Rules_forget_2 (fun σ_1 => ?_)
  refine rb_TC.mono (rk_aload_n 0 d_Rules_forget_5 rfl rfl) ?_
  refine rb_TC.mono (rk_iconst (0 : Int32) d_Rules_forget_6 (by decide)) ?_
  refine rt_pI r0 fp_Rules_forget_49 d_Rules_forget_7 (fun σ_2 => ?_)
  refine rb_TC.mono (rk_aload_n 0 d_Rules_forget_10 rfl rfl) ?_
  refine rb_TC.mono (rk_iconst (0 : Int32) d_Rules_forget_11 (by decide)) ?_
  refine rt_pI r0 fp_Rules_forget_52 d_Rules_forget_12 (fun σ_3 => ?_)
  refine rb_TC.mono (rk_aload_n 0 d_Rules_forget_15 rfl rfl) ?_
  refine rb_TC.mono (rk_iconst (0 : Int32) d_Rules_forget_16 (by decide)) ?_
  refine rt_pI r0 fp_Rules_forget_55 d_Rules_forget_17 (fun σ_4 => ?_)
  refine rb_TC.mono (rk_aload_n 0 d_Rules_forget_20 rfl rfl) ?_
  refine rb_TC.mono (rk_iconst (-1 : Int32) d_Rules_forget_21 (by decide)) ?_
  refine rt_pI r0 fp_Rules_forget_42 d_Rules_forget_22 (fun σ_5 => ?_)
  refine rb_TC.mono (rk_aload_n 0 d_Rules_forget_25 rfl rfl) ?_
  refine rb_TC.mono (rk_null d_Rules_forget_26) ?_
  refine rt_pR r0 fp_Rules_forget_58 d_Rules_forget_27 (fun σ_6 => ?_)
  refine rb_TC.mono (rk_aload_n 0 d_Rules_forget_30 rfl rfl) ?_
  refine rb_TC.mono (rk_iconst (0 : Int32) d_Rules_forget_31 (by decide)) ?_
  refine rt_pZ r0 fp_Rules_forget_62 d_Rules_forget_32 (fun σ_7 => ?_)
  refine rb_TC.mono (rk_aload_n 0 d_Rules_forget_35 rfl rfl) ?_
  refine rb_TC.mono (rk_iconst (0 : Int32) d_Rules_forget_36 (by decide)) ?_
  refine rt_pZ r0 fp_Rules_forget_66 d_Rules_forget_37 (fun σ_8 => ?_)
  exact rt_vret rfl (fun h => h) d_Rules_forget_40
-- ===== RuleBuilder$Rules.commandCount()I
def k_Rules_commandCount : rb_MK := (⟨"RuleBuilder$Rules", "commandCount", "()I"⟩, prog_8_method_11_code, 1, some (.int))
theorem mw_Rules_commandCount : rb_Mw k_Rules_commandCount 0 := ⟨rb_inG 566 (by decide +kernel) rfl, rb_inG 88 (by decide +kernel) rfl, ⟨by decide, by decide, by decide +kernel⟩, by decide⟩
theorem d_Rules_commandCount_0 : decode prog_8_method_11_code 0 = .ok (.aload_n 0, 1) := by decide +kernel
theorem d_Rules_commandCount_1 : decode prog_8_method_11_code 1 = .ok (.getfield 52, 3) := by decide +kernel
theorem d_Rules_commandCount_4 : decode prog_8_method_11_code 4 = .ok (.ireturn, 1) := by decide +kernel
noncomputable def f_Rules_commandCount (r0 : Option Nat) (σ : rb_St) : Option rb_Rs :=
  (rb_gI σ r0 4 7).bind fun x_1 => some (some (.int x_1), σ)
theorem s_Rules_commandCount {E : rb_EV} {d : Nat} (hdd : 0 ≤ d) (r0 : Option Nat) (σ : rb_St) : rb_Does E k_Rules_commandCount d [va_rf r0] σ (f_Rules_commandCount r0 σ) := by
  refine rb_start (lv := [some (va_rf r0)]) (by decide) (by simp [lg_sl, rb_as, lv_args, rb_cat_r, rb_cat_i, rb_cat_l, rb_nL, k_Rules_commandCount]) (fun res => ?_)
  unfold f_Rules_commandCount
  refine rb_TC.mono (rk_aload_n 0 d_Rules_commandCount_0 rfl rfl) ?_
  refine rt_gI r0 fw_Rules_52 d_Rules_commandCount_1 (fun x_1 => ?_)
  exact rt_iret (ty := .int) rfl rfl (fun h => h) d_Rules_commandCount_4
-- ===== RuleBuilder$Rules.giveEndingCommands(II)V
def k_Rules_giveEndingCommands : rb_MK := (⟨"RuleBuilder$Rules", "giveEndingCommands", "(II)V"⟩, prog_8_method_8_code, 3, none)
theorem mw_Rules_giveEndingCommands : rb_Mw k_Rules_giveEndingCommands 2 := ⟨rb_inG 574 (by decide +kernel) rfl, rb_inG 88 (by decide +kernel) rfl, ⟨by decide, by decide, by decide +kernel⟩, by decide⟩
theorem d_Rules_giveEndingCommands_0 : decode prog_8_method_8_code 0 = .ok (.iload_n 1, 1) := by decide +kernel
theorem d_Rules_giveEndingCommands_1 : decode prog_8_method_8_code 1 = .ok (.ifCond .lt 18, 3) := by decide +kernel
theorem d_Rules_giveEndingCommands_4 : decode prog_8_method_8_code 4 = .ok (.iload_n 1, 1) := by decide +kernel
theorem d_Rules_giveEndingCommands_5 : decode prog_8_method_8_code 5 = .ok (.aload_n 0, 1) := by decide +kernel
theorem d_Rules_giveEndingCommands_6 : decode prog_8_method_8_code 6 = .ok (.getfield 49, 3) := by decide +kernel
theorem d_Rules_giveEndingCommands_9 : decode prog_8_method_8_code 9 = .ok (.if_icmp .ge 10, 3) := by decide +kernel
theorem d_Rules_giveEndingCommands_12 : decode prog_8_method_8_code 12 = .ok (.aload_n 0, 1) := by decide +kernel
theorem d_Rules_giveEndingCommands_13 : decode prog_8_method_8_code 13 = .ok (.getfield 23, 3) := by decide +kernel
theorem d_Rules_giveEndingCommands_16 : decode prog_8_method_8_code 16 = .ok (.iload_n 1, 1) := by decide +kernel
theorem d_Rules_giveEndingCommands_17 : decode prog_8_method_8_code 17 = .ok (.iload_n 2, 1) := by decide +kernel
theorem d_Rules_giveEndingCommands_18 : decode prog_8_method_8_code 18 = .ok (.iastore, 1) := by decide +kernel
theorem d_Rules_giveEndingCommands_19 : decode prog_8_method_8_code 19 = .ok (.return_, 1) := by decide +kernel
noncomputable def f_Rules_giveEndingCommands (r0 : Option Nat) (x1 : Int32) (x2 : Int32) (σ : rb_St) : Option rb_Rs :=
  if x1 < 0 then (some (none, σ)) else ((rb_gI σ r0 4 5).bind fun x_1 => if x_1 ≤ x1 then (some (none, σ)) else ((rb_gR σ r0 4 4).bind fun r_2 => (rb_sI σ r_2 102 x1 x2).bind fun σ_3 => some (none, σ_3)))
theorem s_Rules_giveEndingCommands {E : rb_EV} {d : Nat} (hdd : 0 ≤ d) (r0 : Option Nat) (x1 : Int32) (x2 : Int32) (σ : rb_St) : rb_Does E k_Rules_giveEndingCommands d [va_rf r0, .int x1, .int x2] σ (f_Rules_giveEndingCommands r0 x1 x2 σ) := by
  refine rb_start (lv := [some (va_rf r0), some (.int x1), some (.int x2)]) (by decide) (by simp [lg_sl, rb_as, lv_args, rb_cat_r, rb_cat_i, rb_cat_l, rb_nL, k_Rules_giveEndingCommands]) (fun res => ?_)
  unfold f_Rules_giveEndingCommands
  refine rb_TC.mono (rk_iload_n 1 d_Rules_giveEndingCommands_0 rfl rfl) ?_
  refine rt_if_lt 19 d_Rules_giveEndingCommands_1 (by decide) (fun _ => ?_) (fun _ => ?_)
  · exact rt_vret rfl (fun h => h) d_Rules_giveEndingCommands_19
  · refine rb_TC.mono (rk_iload_n 1 d_Rules_giveEndingCommands_4 rfl rfl) ?_
    refine rb_TC.mono (rk_aload_n 0 d_Rules_giveEndingCommands_5 rfl rfl) ?_
    refine rt_gI r0 fw_Rules_49 d_Rules_giveEndingCommands_6 (fun x_1 => ?_)
    refine rt_icmp_ge 19 d_Rules_giveEndingCommands_9 (by decide) (fun _ => ?_) (fun _ => ?_)
    · exact rt_vret rfl (fun h => h) d_Rules_giveEndingCommands_19
    · refine rb_TC.mono (rk_aload_n 0 d_Rules_giveEndingCommands_12 rfl rfl) ?_
      refine rt_gR r0 fw_Rules_23 d_Rules_giveEndingCommands_13 (fun r_2 => ?_)
      refine rb_TC.mono (rk_iload_n 1 d_Rules_giveEndingCommands_16 rfl rfl) ?_
      refine rb_TC.mono (rk_iload_n 2 d_Rules_giveEndingCommands_17 rfl rfl) ?_
      refine rt_iast r_2 d_Rules_giveEndingCommands_18 (fun σ_3 => ?_)
      exact rt_vret rfl (fun h => h) d_Rules_giveEndingCommands_19
-- ===== RuleBuilder$Rules.addCommand(Ljava/lang/String;I)Z
def k_Rules_addCommand : rb_MK := (⟨"RuleBuilder$Rules", "addCommand", "(Ljava/lang/String;I)Z"⟩, prog_8_method_12_code, 3, some (.boolean))
theorem mw_Rules_addCommand : rb_Mw k_Rules_addCommand 2 := ⟨rb_inG 583 (by decide +kernel) rfl, rb_inG 88 (by decide +kernel) rfl, ⟨by decide, by decide, by decide +kernel⟩, by decide⟩
theorem fp_Rules_addCommand_52 : rb_Fp k_Rules_addCommand 52 4 7 .int := ⟨fw_Rules_52, rfl, fun q h => by cases h; exact Or.inl rfl⟩
theorem iw_Rules_105 : rb_Iw "RuleBuilder$Rules" 105 k_Cmd_init 2 := ⟨mw_Cmd_init, rfl, rfl, rb_inG 586 (by decide +kernel) rfl, Or.inl (rb_inG 585 (by decide +kernel) rfl)⟩
theorem ow_Rules_27 : rb_Ow "RuleBuilder$Rules" 27 11 := ⟨_, rfl, by decide, by decide, rb_inG 153 (by decide +kernel) rfl, rb_ins11, rb_ini11, rfl, by decide⟩
theorem d_Rules_addCommand_0 : decode prog_8_method_12_code 0 = .ok (.aload_n 0, 1) := by decide +kernel
theorem d_Rules_addCommand_1 : decode prog_8_method_12_code 1 = .ok (.getfield 52, 3) := by decide +kernel
theorem d_Rules_addCommand_4 : decode prog_8_method_12_code 4 = .ok (.bipush 30, 2) := by decide +kernel
theorem d_Rules_addCommand_6 : decode prog_8_method_12_code 6 = .ok (.if_icmp .ne 5, 3) := by decide +kernel
theorem d_Rules_addCommand_9 : decode prog_8_method_12_code 9 = .ok (.iconst 0, 1) := by decide +kernel
theorem d_Rules_addCommand_10 : decode prog_8_method_12_code 10 = .ok (.ireturn, 1) := by decide +kernel
theorem d_Rules_addCommand_11 : decode prog_8_method_12_code 11 = .ok (.aload_n 0, 1) := by decide +kernel
theorem d_Rules_addCommand_12 : decode prog_8_method_12_code 12 = .ok (.getfield 29, 3) := by decide +kernel
theorem d_Rules_addCommand_15 : decode prog_8_method_12_code 15 = .ok (.aload_n 0, 1) := by decide +kernel
theorem d_Rules_addCommand_16 : decode prog_8_method_12_code 16 = .ok (.getfield 52, 3) := by decide +kernel
theorem d_Rules_addCommand_19 : decode prog_8_method_12_code 19 = .ok (.new 27, 3) := by decide +kernel
theorem d_Rules_addCommand_22 : decode prog_8_method_12_code 22 = .ok (.dup, 1) := by decide +kernel
theorem d_Rules_addCommand_23 : decode prog_8_method_12_code 23 = .ok (.aload_n 1, 1) := by decide +kernel
theorem d_Rules_addCommand_24 : decode prog_8_method_12_code 24 = .ok (.iload_n 2, 1) := by decide +kernel
theorem d_Rules_addCommand_25 : decode prog_8_method_12_code 25 = .ok (.invokespecial 105, 3) := by decide +kernel
theorem d_Rules_addCommand_28 : decode prog_8_method_12_code 28 = .ok (.aastore, 1) := by decide +kernel
theorem d_Rules_addCommand_29 : decode prog_8_method_12_code 29 = .ok (.aload_n 0, 1) := by decide +kernel
theorem d_Rules_addCommand_30 : decode prog_8_method_12_code 30 = .ok (.dup, 1) := by decide +kernel
theorem d_Rules_addCommand_31 : decode prog_8_method_12_code 31 = .ok (.getfield 52, 3) := by decide +kernel
theorem d_Rules_addCommand_34 : decode prog_8_method_12_code 34 = .ok (.iconst 1, 1) := by decide +kernel
theorem d_Rules_addCommand_35 : decode prog_8_method_12_code 35 = .ok (.iadd, 1) := by decide +kernel
theorem d_Rules_addCommand_36 : decode prog_8_method_12_code 36 = .ok (.putfield 52, 3) := by decide +kernel
theorem d_Rules_addCommand_39 : decode prog_8_method_12_code 39 = .ok (.iconst 1, 1) := by decide +kernel
theorem d_Rules_addCommand_40 : decode prog_8_method_12_code 40 = .ok (.ireturn, 1) := by decide +kernel
noncomputable def f_Rules_addCommand (r0 : Option Nat) (r1 : Option Nat) (x2 : Int32) (σ : rb_St) : Option rb_Rs :=
  (rb_gI σ r0 4 7).bind fun x_1 => if x_1 = (30 : Int32) then (some (some (.int (0 : Int32)), σ)) else ((rb_gR σ r0 4 6).bind fun r_2 => (rb_gI σ r0 4 7).bind fun x_3 => rb_cV (f_Cmd_init ((rb_n σ)) (r1) (x2) (rb_nO σ 11)) fun σ_4 => (rb_sR σ_4 r_2 113 x_3 (some (rb_n σ))).bind fun σ_5 => (rb_gI σ_5 r0 4 7).bind fun x_6 => (rb_pI σ_5 r0 4 7 (x_6 + (1 : Int32))).bind fun σ_7 => some (some (.int (1 : Int32)), σ_7))
theorem s_Rules_addCommand {E : rb_EV} {d : Nat} (hdd : 7 ≤ d) (r0 : Option Nat) (r1 : Option Nat) (x2 : Int32) (σ : rb_St) : rb_Does E k_Rules_addCommand d [va_rf r0, va_rf r1, .int x2] σ (f_Rules_addCommand r0 r1 x2 σ) := by
  refine rb_start (lv := [some (va_rf r0), some (va_rf r1), some (.int x2)]) (by decide) (by simp [lg_sl, rb_as, lv_args, rb_cat_r, rb_cat_i, rb_cat_l, rb_nL, k_Rules_addCommand]) (fun res => ?_)
  unfold f_Rules_addCommand
  refine rb_TC.mono (rk_aload_n 0 d_Rules_addCommand_0 rfl rfl) ?_
  refine rt_gI r0 fw_Rules_52 d_Rules_addCommand_1 (fun x_1 => ?_)
  refine rb_TC.mono (rk_bipush (30 : Int32) d_Rules_addCommand_4 (by decide)) ?_
  refine rt_icmp_ne 11 d_Rules_addCommand_6 (by decide) (fun _ => ?_) (fun _ => ?_)
  · refine rb_TC.mono (rk_iconst (0 : Int32) d_Rules_addCommand_9 (by decide)) ?_
    exact rt_iret (ty := .boolean) rfl (by decide) (fun h => h) d_Rules_addCommand_10
  · refine rb_TC.mono (rk_aload_n 0 d_Rules_addCommand_11 rfl rfl) ?_
    refine rt_gR r0 fw_Rules_29 d_Rules_addCommand_12 (fun r_2 => ?_)
    refine rb_TC.mono (rk_aload_n 0 d_Rules_addCommand_15 rfl rfl) ?_
    refine rt_gI r0 fw_Rules_52 d_Rules_addCommand_16 (fun x_3 => ?_)
    refine rb_TC.mono (rk_new ow_Rules_27 d_Rules_addCommand_19) ?_
    refine rb_TC.mono (rk_dupr d_Rules_addCommand_22) ?_
    refine rb_TC.mono (rk_aload_n 1 d_Rules_addCommand_23 rfl rfl) ?_
    refine rb_TC.mono (rk_iload_n 2 d_Rules_addCommand_24 rfl rfl) ?_
    refine rt_i (As := [va_rf r1, .int x2]) (st := [va_rf (some (rb_n σ)), .int x_3, va_rf r_2]) iw_Rules_105 (s_Cmd_init (Nat.le_refl _) ((rb_n σ)) (r1) (x2) (rb_nO σ 11)) (Nat.le_trans (by decide) hdd) rfl (by simp [rb_cat_r, rb_cat_i, rb_cat_l]) d_Rules_addCommand_25 (fun σ_4 => ?_)
    refine rt_aast (t := 113) r_2 (some (rb_n σ)) (by decide) d_Rules_addCommand_28 (fun σ_5 => ?_)
    refine rb_TC.mono (rk_aload_n 0 d_Rules_addCommand_29 rfl rfl) ?_
    refine rb_TC.mono (rk_dupr d_Rules_addCommand_30) ?_
    refine rt_gI r0 fw_Rules_52 d_Rules_addCommand_31 (fun x_6 => ?_)
    refine rb_TC.mono (rk_iconst (1 : Int32) d_Rules_addCommand_34 (by decide)) ?_
    refine rb_TC.mono (rk_iadd d_Rules_addCommand_35) ?_
    refine rt_pI r0 fp_Rules_addCommand_52 d_Rules_addCommand_36 (fun σ_7 => ?_)
    refine rb_TC.mono (rk_iconst (1 : Int32) d_Rules_addCommand_39 (by decide)) ?_
    exact rt_iret (ty := .boolean) rfl (by decide) (fun h => h) d_Rules_addCommand_40
-- ===== java/lang/StringLatin1.equals([B[B)Z
def k_SL_equals : rb_MK := (⟨"java/lang/StringLatin1", "equals", "([B[B)Z"⟩, prog_18_method_13_code, 3, some (.boolean))
theorem mw_SL_equals : rb_Mw k_SL_equals 2 := ⟨rb_inG 820 (by decide +kernel) rfl, rb_inG 101 (by decide +kernel) rfl, ⟨by decide, by decide, by decide +kernel⟩, by decide⟩
theorem d_SL_equals_0 : decode prog_18_method_13_code 0 = .ok (.aload_n 0, 1) := by decide +kernel
theorem d_SL_equals_1 : decode prog_18_method_13_code 1 = .ok (.arraylength, 1) := by decide +kernel
theorem d_SL_equals_2 : decode prog_18_method_13_code 2 = .ok (.aload_n 1, 1) := by decide +kernel
theorem d_SL_equals_3 : decode prog_18_method_13_code 3 = .ok (.arraylength, 1) := by decide +kernel
theorem d_SL_equals_4 : decode prog_18_method_13_code 4 = .ok (.if_icmp .ne 30, 3) := by decide +kernel
theorem d_SL_equals_7 : decode prog_18_method_13_code 7 = .ok (.iconst 0, 1) := by decide +kernel
theorem d_SL_equals_8 : decode prog_18_method_13_code 8 = .ok (.istore_n 2, 1) := by decide +kernel
theorem d_SL_equals_9 : decode prog_18_method_13_code 9 = .ok (.iload_n 2, 1) := by decide +kernel
theorem d_SL_equals_10 : decode prog_18_method_13_code 10 = .ok (.aload_n 0, 1) := by decide +kernel
theorem d_SL_equals_11 : decode prog_18_method_13_code 11 = .ok (.arraylength, 1) := by decide +kernel
theorem d_SL_equals_12 : decode prog_18_method_13_code 12 = .ok (.if_icmp .ge 20, 3) := by decide +kernel
theorem d_SL_equals_15 : decode prog_18_method_13_code 15 = .ok (.aload_n 0, 1) := by decide +kernel
theorem d_SL_equals_16 : decode prog_18_method_13_code 16 = .ok (.iload_n 2, 1) := by decide +kernel
theorem d_SL_equals_17 : decode prog_18_method_13_code 17 = .ok (.baload, 1) := by decide +kernel
theorem d_SL_equals_18 : decode prog_18_method_13_code 18 = .ok (.aload_n 1, 1) := by decide +kernel
theorem d_SL_equals_19 : decode prog_18_method_13_code 19 = .ok (.iload_n 2, 1) := by decide +kernel
theorem d_SL_equals_20 : decode prog_18_method_13_code 20 = .ok (.baload, 1) := by decide +kernel
theorem d_SL_equals_21 : decode prog_18_method_13_code 21 = .ok (.if_icmp .eq 5, 3) := by decide +kernel
theorem d_SL_equals_24 : decode prog_18_method_13_code 24 = .ok (.iconst 0, 1) := by decide +kernel
theorem d_SL_equals_25 : decode prog_18_method_13_code 25 = .ok (.ireturn, 1) := by decide +kernel
theorem d_SL_equals_26 : decode prog_18_method_13_code 26 = .ok (.iinc 2 1, 3) := by decide +kernel
theorem d_SL_equals_29 : decode prog_18_method_13_code 29 = .ok (.goto (-20), 3) := by decide +kernel
theorem d_SL_equals_32 : decode prog_18_method_13_code 32 = .ok (.iconst 1, 1) := by decide +kernel
theorem d_SL_equals_33 : decode prog_18_method_13_code 33 = .ok (.ireturn, 1) := by decide +kernel
theorem d_SL_equals_34 : decode prog_18_method_13_code 34 = .ok (.iconst 0, 1) := by decide +kernel
theorem d_SL_equals_35 : decode prog_18_method_13_code 35 = .ok (.ireturn, 1) := by decide +kernel
noncomputable def f_SL_equals_b9 (r0 : Option Nat) (r1 : Option Nat) (x2 : Int32) (σ : rb_St) : Option ((Int32) ⊕ rb_Rs) :=
  (rb_len σ r0 105).bind fun x_3 => if x_3 ≤ x2 then ((some (some (.int (1 : Int32)), σ)).map Sum.inr) else ((rb_aI σ r0 105 x2).bind fun x_4 => (rb_aI σ r1 105 x2).bind fun x_5 => if x_4 = x_5 then (some (.inl (x2 + 1))) else ((some (some (.int (0 : Int32)), σ)).map Sum.inr))
theorem t_SL_equals_b9 {E : rb_EV} {d : Nat} {σ0 : rb_St} {res : rb_Rs} (hdd : 0 ≤ d)  (r0 : Option Nat) (r1 : Option Nat) (x2 : Int32) (σ : rb_St) : rb_TC (f_SL_equals_b9 r0 r1 x2 σ) (Sum.elim (fun z : (Int32) => rb_WK E k_SL_equals d σ0 res 9 [some (va_rf r0), some (va_rf r1), some (.int z)] [] σ) (fun r => r = res)) (rb_WK E k_SL_equals d σ0 res 9 [some (va_rf r0), some (va_rf r1), some (.int x2)] [] σ) := by
  unfold f_SL_equals_b9
  refine rb_TC.mono (rk_iload_n 2 d_SL_equals_9 rfl rfl) ?_
  refine rb_TC.mono (rk_aload_n 0 d_SL_equals_10 rfl rfl) ?_
  refine rt_len (t := 105) r0 (by decide) d_SL_equals_11 (fun x_3 => ?_)
  refine rt_icmp_ge 32 d_SL_equals_12 (by decide) (fun _ => ?_) (fun _ => ?_)
  · refine rb_TC.out ?_
    refine rb_TC.mono (rk_iconst (1 : Int32) d_SL_equals_32 (by decide)) ?_
    exact rt_iret (ty := .boolean) rfl (by decide) (fun h => h) d_SL_equals_33
  · refine rb_TC.mono (rk_aload_n 0 d_SL_equals_15 rfl rfl) ?_
    refine rb_TC.mono (rk_iload_n 2 d_SL_equals_16 rfl rfl) ?_
    refine rt_bald r0 d_SL_equals_17 (fun x_4 => ?_)
    refine rb_TC.mono (rk_aload_n 1 d_SL_equals_18 rfl rfl) ?_
    refine rb_TC.mono (rk_iload_n 2 d_SL_equals_19 rfl rfl) ?_
    refine rt_bald r1 d_SL_equals_20 (fun x_5 => ?_)
    refine rt_icmp_eq 26 d_SL_equals_21 (by decide) (fun _ => ?_) (fun _ => ?_)
    · refine rb_TC.mono (rk_iinc (lv2 := [some (va_rf r0), some (va_rf r1), some (.int (x2 + 1))]) (x2 + 1) d_SL_equals_26 rfl rfl (by decide) (fun _ => rb_one_r) rfl) ?_
      refine rb_TC.mono (rk_goto 9 d_SL_equals_29 (by decide)) ?_
      exact rb_back
    · refine rb_TC.out ?_
      refine rb_TC.mono (rk_iconst (0 : Int32) d_SL_equals_24 (by decide)) ?_
      exact rt_iret (ty := .boolean) rfl (by decide) (fun h => h) d_SL_equals_25
noncomputable def f_SL_equals (r0 : Option Nat) (r1 : Option Nat) (σ : rb_St) : Option rb_Rs :=
  (rb_len σ r0 105).bind fun x_1 => (rb_len σ r1 105).bind fun x_2 => if x_1 = x_2 then (rb_it (fun z : (Int32) => f_SL_equals_b9 (r0) (r1) (z) σ) (0 : Int32)) else (some (some (.int (0 : Int32)), σ))
theorem s_SL_equals {E : rb_EV} {d : Nat} (hdd : 0 ≤ d) (r0 : Option Nat) (r1 : Option Nat) (σ : rb_St) : rb_Does E k_SL_equals d [va_rf r0, va_rf r1] σ (f_SL_equals r0 r1 σ) := by
  refine rb_start (lv := [some (va_rf r0), some (va_rf r1), none]) (by decide) (by simp [lg_sl, rb_as, lv_args, rb_cat_r, rb_cat_i, rb_cat_l, rb_nL, k_SL_equals]) (fun res => ?_)
  unfold f_SL_equals
  refine rb_TC.mono (rk_aload_n 0 d_SL_equals_0 rfl rfl) ?_
  refine rt_len (t := 105) r0 (by decide) d_SL_equals_1 (fun x_1 => ?_)
  refine rb_TC.mono (rk_aload_n 1 d_SL_equals_2 rfl rfl) ?_
  refine rt_len (t := 105) r1 (by decide) d_SL_equals_3 (fun x_2 => ?_)
  refine rt_icmp_ne 34 d_SL_equals_4 (by decide) (fun _ => ?_) (fun _ => ?_)
  · refine rb_TC.mono (rk_iconst (0 : Int32) d_SL_equals_7 (by decide)) ?_
    refine rb_TC.mono (rk_istore_n (lv2 := [some (va_rf r0), some (va_rf r1), some (.int (0 : Int32))]) 2 d_SL_equals_8 rfl (by decide) (fun _ => rb_one_r) rfl) ?_
    exact rb_TC.loop2 (A := (fun z : (Int32) => rb_WK E k_SL_equals d σ res 9 [some (va_rf r0), some (va_rf r1), some (.int z)] [] σ)) (0 : Int32) (fun z => t_SL_equals_b9 hdd  (r0) (r1) (z) σ)
  · refine rb_TC.mono (rk_iconst (0 : Int32) d_SL_equals_34 (by decide)) ?_
    exact rt_iret (ty := .boolean) rfl (by decide) (fun h => h) d_SL_equals_35
-- ===== java/lang/String.equals(Ljava/lang/Object;)Z
def k_Str_equals : rb_MK := (⟨"java/lang/String", "equals", "(Ljava/lang/Object;)Z"⟩, prog_17_method_66_code, 3, some (.boolean))
theorem mw_Str_equals : rb_Mw k_Str_equals 1 := ⟨rb_inG 816 (by decide +kernel) rfl, rb_inG 96 (by decide +kernel) rfl, ⟨by decide, by decide, by decide +kernel⟩, by decide⟩
theorem w_cl_Str_10 : Cond.classLink "java/lang/String" 10 "java/lang/String" ∈ rb_G := rb_inG 817 (by decide +kernel) rfl
theorem sw_Str_541 : rb_Sw "java/lang/String" 541 k_SL_equals 2 := ⟨mw_SL_equals, rb_inG 818 (by decide +kernel) rfl, rb_inG 819 (by decide +kernel) rfl⟩
theorem d_Str_equals_0 : decode prog_17_method_66_code 0 = .ok (.aload_n 0, 1) := by decide +kernel
theorem d_Str_equals_1 : decode prog_17_method_66_code 1 = .ok (.aload_n 1, 1) := by decide +kernel
theorem d_Str_equals_2 : decode prog_17_method_66_code 2 = .ok (.if_acmp .ne 5, 3) := by decide +kernel
theorem d_Str_equals_5 : decode prog_17_method_66_code 5 = .ok (.iconst 1, 1) := by decide +kernel
theorem d_Str_equals_6 : decode prog_17_method_66_code 6 = .ok (.ireturn, 1) := by decide +kernel
theorem d_Str_equals_7 : decode prog_17_method_66_code 7 = .ok (.aload_n 1, 1) := by decide +kernel
theorem d_Str_equals_8 : decode prog_17_method_66_code 8 = .ok (.instanceof 10, 3) := by decide +kernel
theorem d_Str_equals_11 : decode prog_17_method_66_code 11 = .ok (.ifCond .eq 43, 3) := by decide +kernel
theorem d_Str_equals_14 : decode prog_17_method_66_code 14 = .ok (.aload_n 1, 1) := by decide +kernel
theorem d_Str_equals_15 : decode prog_17_method_66_code 15 = .ok (.checkcast 10, 3) := by decide +kernel
theorem d_Str_equals_18 : decode prog_17_method_66_code 18 = .ok (.astore_n 2, 1) := by decide +kernel
theorem d_Str_equals_19 : decode prog_17_method_66_code 19 = .ok (.getstatic 38, 3) := by decide +kernel
theorem d_Str_equals_22 : decode prog_17_method_66_code 22 = .ok (.ifCond .eq 14, 3) := by decide +kernel
theorem d_Str_equals_25 : decode prog_17_method_66_code 25 = .ok (.aload_n 0, 1) := by decide +kernel
theorem d_Str_equals_26 : decode prog_17_method_66_code 26 = .ok (.getfield 15, 3) := by decide +kernel
theorem d_Str_equals_29 : decode prog_17_method_66_code 29 = .ok (.aload_n 2, 1) := by decide +kernel
theorem d_Str_equals_30 : decode prog_17_method_66_code 30 = .ok (.getfield 15, 3) := by decide +kernel
theorem d_Str_equals_33 : decode prog_17_method_66_code 33 = .ok (.if_icmp .ne 21, 3) := by decide +kernel
theorem d_Str_equals_36 : decode prog_17_method_66_code 36 = .ok (.aload_n 0, 1) := by decide +kernel
theorem d_Str_equals_37 : decode prog_17_method_66_code 37 = .ok (.getfield 9, 3) := by decide +kernel
theorem d_Str_equals_40 : decode prog_17_method_66_code 40 = .ok (.aload_n 2, 1) := by decide +kernel
theorem d_Str_equals_41 : decode prog_17_method_66_code 41 = .ok (.getfield 9, 3) := by decide +kernel
theorem d_Str_equals_44 : decode prog_17_method_66_code 44 = .ok (.invokestatic 541, 3) := by decide +kernel
theorem d_Str_equals_47 : decode prog_17_method_66_code 47 = .ok (.ifCond .eq 7, 3) := by decide +kernel
theorem d_Str_equals_50 : decode prog_17_method_66_code 50 = .ok (.iconst 1, 1) := by decide +kernel
theorem d_Str_equals_51 : decode prog_17_method_66_code 51 = .ok (.goto 4, 3) := by decide +kernel
theorem d_Str_equals_54 : decode prog_17_method_66_code 54 = .ok (.iconst 0, 1) := by decide +kernel
theorem d_Str_equals_55 : decode prog_17_method_66_code 55 = .ok (.ireturn, 1) := by decide +kernel
noncomputable def f_Str_equals_j36 (r0 : Option Nat) (r2 : Option Nat) (σ : rb_St) : Option rb_Rs :=
  (rb_gR σ r0 14 0).bind fun r_3 => (rb_gR σ r2 14 0).bind fun r_4 => rb_cI (f_SL_equals (r_3) (r_4) σ) fun x_5 σ_6 => if x_5 = 0 then (some (some (.int (0 : Int32)), σ_6)) else (some (some (.int (1 : Int32)), σ_6))
theorem t_Str_equals_j36 {E : rb_EV} {d : Nat} {σ0 : rb_St} {res : rb_Rs} (hdd : 1 ≤ d)  (r0 : Option Nat) (r2 : Option Nat) (σ : rb_St) : rb_TC (f_Str_equals_j36 r0 r2 σ) (fun r => r = res) (rb_WK E k_Str_equals d σ0 res 36 [some (va_rf r0), none, some (va_rf r2)] [] σ) := by
  unfold f_Str_equals_j36
  refine rb_TC.mono (rk_aload_n 0 d_Str_equals_36 rfl rfl) ?_
  refine rt_gR r0 fw_Str_9 d_Str_equals_37 (fun r_3 => ?_)
  refine rb_TC.mono (rk_aload_n 2 d_Str_equals_40 rfl rfl) ?_
  refine rt_gR r2 fw_Str_9 d_Str_equals_41 (fun r_4 => ?_)
  refine rt_sI (As := [va_rf r_3, va_rf r_4]) (st := []) sw_Str_541 (s_SL_equals (Nat.le_refl _) (r_3) (r_4) σ) (Nat.le_trans (by decide) hdd) rfl (by simp [rb_cat_r, rb_cat_i, rb_cat_l]) d_Str_equals_44 (fun x_5 σ_6 => ?_)
  refine rt_if_eq 54 d_Str_equals_47 (by decide) (fun _ => ?_) (fun _ => ?_)
  · refine rb_TC.mono (rk_iconst (0 : Int32) d_Str_equals_54 (by decide)) ?_
    exact rt_iret (ty := .boolean) rfl (by decide) (fun h => h) d_Str_equals_55
  · refine rb_TC.mono (rk_iconst (1 : Int32) d_Str_equals_50 (by decide)) ?_
    refine rb_TC.mono (rk_goto 55 d_Str_equals_51 (by decide)) ?_
    exact rt_iret (ty := .boolean) rfl (by decide) (fun h => h) d_Str_equals_55
noncomputable def f_Str_equals (r0 : Option Nat) (r1 : Option Nat) (σ : rb_St) : Option rb_Rs :=
  if r0 = r1 then (some (some (.int (1 : Int32)), σ)) else ((rb_fc σ r1 14).bind fun _ => if (1 : Int32) = 0 then (none) else ((rb_fc σ r1 14).bind fun _ => if (1 : Int32) = 0 then (none) else ((rb_gI σ r0 14 1).bind fun x_1 => (rb_gI σ r1 14 1).bind fun x_2 => if x_1 = x_2 then (f_Str_equals_j36 (r0) (r1) σ) else (some (some (.int (0 : Int32)), σ)))))
theorem s_Str_equals {E : rb_EV} {d : Nat} (hdd : 1 ≤ d) (r0 : Option Nat) (r1 : Option Nat) (σ : rb_St) : rb_Does E k_Str_equals d [va_rf r0, va_rf r1] σ (f_Str_equals r0 r1 σ) := by
  refine rb_start (lv := [some (va_rf r0), some (va_rf r1), none]) (by decide) (by simp [lg_sl, rb_as, lv_args, rb_cat_r, rb_cat_i, rb_cat_l, rb_nL, k_Str_equals]) (fun res => ?_)
  unfold f_Str_equals
  refine rb_TC.mono (rk_aload_n 0 d_Str_equals_0 rfl rfl) ?_
  refine rb_TC.mono (rk_aload_n 1 d_Str_equals_1 rfl rfl) ?_
  refine rt_acmp_ne 7 d_Str_equals_2 (by decide) (fun _ => ?_) (fun _ => ?_)
  · refine rb_TC.mono (rk_iconst (1 : Int32) d_Str_equals_5 (by decide)) ?_
    exact rt_iret (ty := .boolean) rfl (by decide) (fun h => h) d_Str_equals_6
  · refine rb_TC.mono (rk_aload_n 1 d_Str_equals_7 rfl rfl) ?_
    refine rt_instS r1 w_cl_Str_10 d_Str_equals_8 ?_
    refine rt_if_eq 54 d_Str_equals_11 (by decide) (fun _ => ?_) (fun _ => ?_)
    · exact rb_TC.none
    · refine rb_TC.mono (rk_aload_n 1 d_Str_equals_14 rfl rfl) ?_
      refine rt_castS r1 w_cl_Str_10 d_Str_equals_15 ?_
      refine rb_TC.mono (rk_astore_n (lv2 := [some (va_rf r0), some (va_rf r1), some (va_rf r1)]) 2 d_Str_equals_18 rfl (by decide) (fun _ => rb_one_r) rfl) ?_
      refine rb_TC.mono (rk_compact w_fl_Str_38 d_Str_equals_19) ?_
      refine rt_if_eq 36 d_Str_equals_22 (by decide) (fun _ => ?_) (fun _ => ?_)
      · exact rb_TC.none
      · refine rb_TC.mono (rk_aload_n 0 d_Str_equals_25 rfl rfl) ?_
        refine rt_gI r0 fw_Str_15 d_Str_equals_26 (fun x_1 => ?_)
        refine rb_TC.mono (rk_aload_n 2 d_Str_equals_29 rfl rfl) ?_
        refine rt_gI r1 fw_Str_15 d_Str_equals_30 (fun x_2 => ?_)
        refine rt_icmp_ne 54 d_Str_equals_33 (by decide) (fun _ => ?_) (fun _ => ?_)
        · refine rb_TC.mono (rk_less (lv2 := [some (va_rf r0), none, some (va_rf r1)]) (rb_le_ok (rb_leS (rb_leN (rb_leS rb_le0))))) ?_
          exact t_Str_equals_j36 hdd  (r0) (r1) σ
        · refine rb_TC.mono (rk_iconst (0 : Int32) d_Str_equals_54 (by decide)) ?_
          exact rt_iret (ty := .boolean) rfl (by decide) (fun h => h) d_Str_equals_55
-- ===== RuleBuilder$Rules.hasSuffix(Ljava/lang/String;)Z
def k_Rules_hasSuffix : rb_MK := (⟨"RuleBuilder$Rules", "hasSuffix", "(Ljava/lang/String;)Z"⟩, prog_8_method_3_code, 3, some (.boolean))
theorem mw_Rules_hasSuffix : rb_Mw k_Rules_hasSuffix 1 := ⟨rb_inG 832 (by decide +kernel) rfl, rb_inG 88 (by decide +kernel) rfl, ⟨by decide, by decide, by decide +kernel⟩, by decide⟩
theorem fw_Rules_69 : rb_Fw "RuleBuilder$Rules" 69 10 0 := ⟨_, rfl, by decide, by decide, by decide, rfl, rb_inG 517 (by decide +kernel) rfl⟩
theorem vw_Rules_73 : rb_Vw "RuleBuilder$Rules" 73 k_Str_equals 14 1 := ⟨mw_Str_equals, rb_inG 833 (by decide +kernel) rfl, rb_inG 814 (by decide +kernel) rfl, rb_inG 815 (by decide +kernel) rfl, by decide, by decide, _, rfl, rfl⟩
theorem d_Rules_hasSuffix_0 : decode prog_8_method_3_code 0 = .ok (.iconst 0, 1) := by decide +kernel
theorem d_Rules_hasSuffix_1 : decode prog_8_method_3_code 1 = .ok (.istore_n 2, 1) := by decide +kernel
theorem d_Rules_hasSuffix_2 : decode prog_8_method_3_code 2 = .ok (.iload_n 2, 1) := by decide +kernel
theorem d_Rules_hasSuffix_3 : decode prog_8_method_3_code 3 = .ok (.aload_n 0, 1) := by decide +kernel
theorem d_Rules_hasSuffix_4 : decode prog_8_method_3_code 4 = .ok (.getfield 46, 3) := by decide +kernel
theorem d_Rules_hasSuffix_7 : decode prog_8_method_3_code 7 = .ok (.if_icmp .ge 27, 3) := by decide +kernel
theorem d_Rules_hasSuffix_10 : decode prog_8_method_3_code 10 = .ok (.aload_n 0, 1) := by decide +kernel
theorem d_Rules_hasSuffix_11 : decode prog_8_method_3_code 11 = .ok (.getfield 13, 3) := by decide +kernel
theorem d_Rules_hasSuffix_14 : decode prog_8_method_3_code 14 = .ok (.iload_n 2, 1) := by decide +kernel
theorem d_Rules_hasSuffix_15 : decode prog_8_method_3_code 15 = .ok (.aaload, 1) := by decide +kernel
theorem d_Rules_hasSuffix_16 : decode prog_8_method_3_code 16 = .ok (.getfield 69, 3) := by decide +kernel
theorem d_Rules_hasSuffix_19 : decode prog_8_method_3_code 19 = .ok (.aload_n 1, 1) := by decide +kernel
theorem d_Rules_hasSuffix_20 : decode prog_8_method_3_code 20 = .ok (.invokevirtual 73, 3) := by decide +kernel
theorem d_Rules_hasSuffix_23 : decode prog_8_method_3_code 23 = .ok (.ifCond .eq 5, 3) := by decide +kernel
theorem d_Rules_hasSuffix_26 : decode prog_8_method_3_code 26 = .ok (.iconst 1, 1) := by decide +kernel
theorem d_Rules_hasSuffix_27 : decode prog_8_method_3_code 27 = .ok (.ireturn, 1) := by decide +kernel
theorem d_Rules_hasSuffix_28 : decode prog_8_method_3_code 28 = .ok (.iinc 2 1, 3) := by decide +kernel
theorem d_Rules_hasSuffix_31 : decode prog_8_method_3_code 31 = .ok (.goto (-29), 3) := by decide +kernel
theorem d_Rules_hasSuffix_34 : decode prog_8_method_3_code 34 = .ok (.iconst 0, 1) := by decide +kernel
theorem d_Rules_hasSuffix_35 : decode prog_8_method_3_code 35 = .ok (.ireturn, 1) := by decide +kernel
noncomputable def f_Rules_hasSuffix_b2 (r0 : Option Nat) (r1 : Option Nat) (x2 : Int32) (σ : rb_St) : Option ((Int32 × rb_St) ⊕ rb_Rs) :=
  (rb_gI σ r0 4 1).bind fun x_1 => if x_1 ≤ x2 then ((some (some (.int (0 : Int32)), σ)).map Sum.inr) else ((rb_gR σ r0 4 0).bind fun r_2 => (rb_aR σ r_2 111 x2).bind fun r_3 => (rb_gR σ r_3 10 0).bind fun r_4 => (rb_fc σ r_4 14).bind fun _ => rb_cI (f_Str_equals (r_4) (r1) σ) fun x_5 σ_6 => if x_5 = 0 then (some (.inl ((x2 + 1), σ_6))) else ((some (some (.int (1 : Int32)), σ_6)).map Sum.inr))
theorem t_Rules_hasSuffix_b2 {E : rb_EV} {d : Nat} {σ0 : rb_St} {res : rb_Rs} (hdd : 2 ≤ d)  (r0 : Option Nat) (r1 : Option Nat) (x2 : Int32) (σ : rb_St) : rb_TC (f_Rules_hasSuffix_b2 r0 r1 x2 σ) (Sum.elim (fun z : (Int32 × rb_St) => rb_WK E k_Rules_hasSuffix d σ0 res 2 [some (va_rf r0), some (va_rf r1), some (.int z.1)] [] z.2) (fun r => r = res)) (rb_WK E k_Rules_hasSuffix d σ0 res 2 [some (va_rf r0), some (va_rf r1), some (.int x2)] [] σ) := by
  unfold f_Rules_hasSuffix_b2
  refine rb_TC.mono (rk_iload_n 2 d_Rules_hasSuffix_2 rfl rfl) ?_
  refine rb_TC.mono (rk_aload_n 0 d_Rules_hasSuffix_3 rfl rfl) ?_
  refine rt_gI r0 fw_Rules_46 d_Rules_hasSuffix_4 (fun x_1 => ?_)
  refine rt_icmp_ge 34 d_Rules_hasSuffix_7 (by decide) (fun _ => ?_) (fun _ => ?_)
  · refine rb_TC.out ?_
    refine rb_TC.mono (rk_iconst (0 : Int32) d_Rules_hasSuffix_34 (by decide)) ?_
    exact rt_iret (ty := .boolean) rfl (by decide) (fun h => h) d_Rules_hasSuffix_35
  · refine rb_TC.mono (rk_aload_n 0 d_Rules_hasSuffix_10 rfl rfl) ?_
    refine rt_gR r0 fw_Rules_13 d_Rules_hasSuffix_11 (fun r_2 => ?_)
    refine rb_TC.mono (rk_iload_n 2 d_Rules_hasSuffix_14 rfl rfl) ?_
    refine rt_aald (t := 111) r_2 (by decide) d_Rules_hasSuffix_15 (fun r_3 => ?_)
    refine rt_gR r_3 fw_Rules_69 d_Rules_hasSuffix_16 (fun r_4 => ?_)
    refine rb_TC.mono (rk_aload_n 1 d_Rules_hasSuffix_19 rfl rfl) ?_
    refine rt_vI (As := [va_rf r1]) (st := []) (r_4) vw_Rules_73 (s_Str_equals (Nat.le_refl _) (r_4) (r1) σ) (Nat.le_trans (by decide) hdd) rfl (by simp [rb_cat_r, rb_cat_i, rb_cat_l]) d_Rules_hasSuffix_20 (fun x_5 σ_6 => ?_)
    refine rt_if_eq 28 d_Rules_hasSuffix_23 (by decide) (fun _ => ?_) (fun _ => ?_)
    · refine rb_TC.mono (rk_iinc (lv2 := [some (va_rf r0), some (va_rf r1), some (.int (x2 + 1))]) (x2 + 1) d_Rules_hasSuffix_28 rfl rfl (by decide) (fun _ => rb_one_r) rfl) ?_
      refine rb_TC.mono (rk_goto 2 d_Rules_hasSuffix_31 (by decide)) ?_
      exact rb_back
    · refine rb_TC.out ?_
      refine rb_TC.mono (rk_iconst (1 : Int32) d_Rules_hasSuffix_26 (by decide)) ?_
      exact rt_iret (ty := .boolean) rfl (by decide) (fun h => h) d_Rules_hasSuffix_27
noncomputable def f_Rules_hasSuffix (r0 : Option Nat) (r1 : Option Nat) (σ : rb_St) : Option rb_Rs :=
  rb_it (fun z : (Int32 × rb_St) => f_Rules_hasSuffix_b2 (r0) (r1) (z.1) z.2) ((0 : Int32), σ)
theorem s_Rules_hasSuffix {E : rb_EV} {d : Nat} (hdd : 2 ≤ d) (r0 : Option Nat) (r1 : Option Nat) (σ : rb_St) : rb_Does E k_Rules_hasSuffix d [va_rf r0, va_rf r1] σ (f_Rules_hasSuffix r0 r1 σ) := by
  refine rb_start (lv := [some (va_rf r0), some (va_rf r1), none]) (by decide) (by simp [lg_sl, rb_as, lv_args, rb_cat_r, rb_cat_i, rb_cat_l, rb_nL, k_Rules_hasSuffix]) (fun res => ?_)
  unfold f_Rules_hasSuffix
  refine rb_TC.mono (rk_iconst (0 : Int32) d_Rules_hasSuffix_0 (by decide)) ?_
  refine rb_TC.mono (rk_istore_n (lv2 := [some (va_rf r0), some (va_rf r1), some (.int (0 : Int32))]) 2 d_Rules_hasSuffix_1 rfl (by decide) (fun _ => rb_one_r) rfl) ?_
  exact rb_TC.loop2 (A := (fun z : (Int32 × rb_St) => rb_WK E k_Rules_hasSuffix d σ res 2 [some (va_rf r0), some (va_rf r1), some (.int z.1)] [] z.2)) ((0 : Int32), σ) (fun z => t_Rules_hasSuffix_b2 hdd  (r0) (r1) (z.1) z.2)
-- ===== RuleBuilder$Rules.fromLength(Ljava/lang/String;)I
def k_Rules_fromLength : rb_MK := (⟨"RuleBuilder$Rules", "fromLength", "(Ljava/lang/String;)I"⟩, prog_8_method_5_code, 5, some (.int))
theorem mw_Rules_fromLength : rb_Mw k_Rules_fromLength 1 := ⟨rb_inG 828 (by decide +kernel) rfl, rb_inG 88 (by decide +kernel) rfl, ⟨by decide, by decide, by decide +kernel⟩, by decide⟩
theorem vw_Rules_79 : rb_Vw "RuleBuilder$Rules" 79 k_Rules_hasSuffix 4 1 := ⟨mw_Rules_hasSuffix, rb_inG 829 (by decide +kernel) rfl, rb_inG 830 (by decide +kernel) rfl, rb_inG 831 (by decide +kernel) rfl, by decide, by decide, _, rfl, rfl⟩
theorem vw_Rules_86 : rb_Vw "RuleBuilder$Rules" 86 k_Str_length 14 0 := ⟨mw_Str_length, rb_inG 834 (by decide +kernel) rfl, rb_inG 590 (by decide +kernel) rfl, rb_inG 591 (by decide +kernel) rfl, by decide, by decide, _, rfl, rfl⟩
theorem vw_Rules_90 : rb_Vw "RuleBuilder$Rules" 90 k_Str_substring2 14 2 := ⟨mw_Str_substring2, rb_inG 835 (by decide +kernel) rfl, rb_inG 630 (by decide +kernel) rfl, rb_inG 631 (by decide +kernel) rfl, by decide, by decide, _, rfl, rfl⟩
theorem vw_Rules_94 : rb_Vw "RuleBuilder$Rules" 94 k_Str_substring 14 1 := ⟨mw_Str_substring, rb_inG 836 (by decide +kernel) rfl, rb_inG 625 (by decide +kernel) rfl, rb_inG 626 (by decide +kernel) rfl, by decide, by decide, _, rfl, rfl⟩
theorem d_Rules_fromLength_0 : decode prog_8_method_5_code 0 = .ok (.aload_n 0, 1) := by decide +kernel
theorem d_Rules_fromLength_1 : decode prog_8_method_5_code 1 = .ok (.aload_n 1, 1) := by decide +kernel
theorem d_Rules_fromLength_2 : decode prog_8_method_5_code 2 = .ok (.invokevirtual 79, 3) := by decide +kernel
theorem d_Rules_fromLength_5 : decode prog_8_method_5_code 5 = .ok (.ifCond .eq 8, 3) := by decide +kernel
theorem d_Rules_fromLength_8 : decode prog_8_method_5_code 8 = .ok (.aload_n 1, 1) := by decide +kernel
theorem d_Rules_fromLength_9 : decode prog_8_method_5_code 9 = .ok (.invokevirtual 86, 3) := by decide +kernel
theorem d_Rules_fromLength_12 : decode prog_8_method_5_code 12 = .ok (.ireturn, 1) := by decide +kernel
theorem d_Rules_fromLength_13 : decode prog_8_method_5_code 13 = .ok (.iconst 0, 1) := by decide +kernel
theorem d_Rules_fromLength_14 : decode prog_8_method_5_code 14 = .ok (.istore_n 2, 1) := by decide +kernel
theorem d_Rules_fromLength_15 : decode prog_8_method_5_code 15 = .ok (.iload_n 2, 1) := by decide +kernel
theorem d_Rules_fromLength_16 : decode prog_8_method_5_code 16 = .ok (.aload_n 0, 1) := by decide +kernel
theorem d_Rules_fromLength_17 : decode prog_8_method_5_code 17 = .ok (.getfield 46, 3) := by decide +kernel
theorem d_Rules_fromLength_20 : decode prog_8_method_5_code 20 = .ok (.if_icmp .ge 64, 3) := by decide +kernel
theorem d_Rules_fromLength_23 : decode prog_8_method_5_code 23 = .ok (.aload_n 0, 1) := by decide +kernel
theorem d_Rules_fromLength_24 : decode prog_8_method_5_code 24 = .ok (.getfield 13, 3) := by decide +kernel
theorem d_Rules_fromLength_27 : decode prog_8_method_5_code 27 = .ok (.iload_n 2, 1) := by decide +kernel
theorem d_Rules_fromLength_28 : decode prog_8_method_5_code 28 = .ok (.aaload, 1) := by decide +kernel
theorem d_Rules_fromLength_29 : decode prog_8_method_5_code 29 = .ok (.getfield 69, 3) := by decide +kernel
theorem d_Rules_fromLength_32 : decode prog_8_method_5_code 32 = .ok (.astore_n 3, 1) := by decide +kernel
theorem d_Rules_fromLength_33 : decode prog_8_method_5_code 33 = .ok (.aload_n 3, 1) := by decide +kernel
theorem d_Rules_fromLength_34 : decode prog_8_method_5_code 34 = .ok (.invokevirtual 86, 3) := by decide +kernel
theorem d_Rules_fromLength_37 : decode prog_8_method_5_code 37 = .ok (.istore 4, 2) := by decide +kernel
theorem d_Rules_fromLength_39 : decode prog_8_method_5_code 39 = .ok (.aload_n 1, 1) := by decide +kernel
theorem d_Rules_fromLength_40 : decode prog_8_method_5_code 40 = .ok (.invokevirtual 86, 3) := by decide +kernel
theorem d_Rules_fromLength_43 : decode prog_8_method_5_code 43 = .ok (.iload 4, 2) := by decide +kernel
theorem d_Rules_fromLength_45 : decode prog_8_method_5_code 45 = .ok (.if_icmp .le 33, 3) := by decide +kernel
theorem d_Rules_fromLength_48 : decode prog_8_method_5_code 48 = .ok (.aload_n 1, 1) := by decide +kernel
theorem d_Rules_fromLength_49 : decode prog_8_method_5_code 49 = .ok (.iconst 0, 1) := by decide +kernel
theorem d_Rules_fromLength_50 : decode prog_8_method_5_code 50 = .ok (.iload 4, 2) := by decide +kernel
theorem d_Rules_fromLength_52 : decode prog_8_method_5_code 52 = .ok (.invokevirtual 90, 3) := by decide +kernel
theorem d_Rules_fromLength_55 : decode prog_8_method_5_code 55 = .ok (.aload_n 3, 1) := by decide +kernel
theorem d_Rules_fromLength_56 : decode prog_8_method_5_code 56 = .ok (.invokevirtual 73, 3) := by decide +kernel
theorem d_Rules_fromLength_59 : decode prog_8_method_5_code 59 = .ok (.ifCond .eq 19, 3) := by decide +kernel
theorem d_Rules_fromLength_62 : decode prog_8_method_5_code 62 = .ok (.aload_n 0, 1) := by decide +kernel
theorem d_Rules_fromLength_63 : decode prog_8_method_5_code 63 = .ok (.aload_n 1, 1) := by decide +kernel
theorem d_Rules_fromLength_64 : decode prog_8_method_5_code 64 = .ok (.iload 4, 2) := by decide +kernel
theorem d_Rules_fromLength_66 : decode prog_8_method_5_code 66 = .ok (.invokevirtual 94, 3) := by decide +kernel
theorem d_Rules_fromLength_69 : decode prog_8_method_5_code 69 = .ok (.invokevirtual 79, 3) := by decide +kernel
theorem d_Rules_fromLength_72 : decode prog_8_method_5_code 72 = .ok (.ifCond .eq 6, 3) := by decide +kernel
theorem d_Rules_fromLength_75 : decode prog_8_method_5_code 75 = .ok (.iload 4, 2) := by decide +kernel
theorem d_Rules_fromLength_77 : decode prog_8_method_5_code 77 = .ok (.ireturn, 1) := by decide +kernel
theorem d_Rules_fromLength_78 : decode prog_8_method_5_code 78 = .ok (.iinc 2 1, 3) := by decide +kernel
theorem d_Rules_fromLength_81 : decode prog_8_method_5_code 81 = .ok (.goto (-66), 3) := by decide +kernel
theorem d_Rules_fromLength_84 : decode prog_8_method_5_code 84 = .ok (.iconst 0, 1) := by decide +kernel
theorem d_Rules_fromLength_85 : decode prog_8_method_5_code 85 = .ok (.ireturn, 1) := by decide +kernel
noncomputable def f_Rules_fromLength_b15 (r0 : Option Nat) (r1 : Option Nat) (x2 : Int32) (σ : rb_St) : Option ((Int32 × rb_St) ⊕ rb_Rs) :=
  (rb_gI σ r0 4 1).bind fun x_3 => if x_3 ≤ x2 then ((some (some (.int (0 : Int32)), σ)).map Sum.inr) else ((rb_gR σ r0 4 0).bind fun r_4 => (rb_aR σ r_4 111 x2).bind fun r_5 => (rb_gR σ r_5 10 0).bind fun r_6 => (rb_fc σ r_6 14).bind fun _ => rb_cI (f_Str_length (r_6)  σ) fun x_7 σ_8 => (rb_fc σ_8 r1 14).bind fun _ => rb_cI (f_Str_length (r1)  σ_8) fun x_9 σ_10 => if x_9 ≤ x_7 then (some (.inl ((x2 + 1), σ_10))) else ((rb_fc σ_10 r1 14).bind fun _ => rb_cR (f_Str_substring2 (r1) ((0 : Int32)) (x_7) σ_10) fun r_11 σ_12 => (rb_fc σ_12 r_11 14).bind fun _ => rb_cI (f_Str_equals (r_11) (r_6) σ_12) fun x_13 σ_14 => if x_13 = 0 then (some (.inl ((x2 + 1), σ_14))) else ((rb_fc σ_14 r1 14).bind fun _ => rb_cR (f_Str_substring (r1) (x_7) σ_14) fun r_15 σ_16 => (rb_fc σ_16 r0 4).bind fun _ => rb_cI (f_Rules_hasSuffix (r0) (r_15) σ_16) fun x_17 σ_18 => if x_17 = 0 then (some (.inl ((x2 + 1), σ_18))) else ((some (some (.int x_7), σ_18)).map Sum.inr))))
theorem t_Rules_fromLength_b15 {E : rb_EV} {d : Nat} {σ0 : rb_St} {res : rb_Rs} (hdd : 6 ≤ d)  (r0 : Option Nat) (r1 : Option Nat) (x2 : Int32) (σ : rb_St) : rb_TC (f_Rules_fromLength_b15 r0 r1 x2 σ) (Sum.elim (fun z : (Int32 × rb_St) => rb_WK E k_Rules_fromLength d σ0 res 15 [some (va_rf r0), some (va_rf r1), some (.int z.1), none, none] [] z.2) (fun r => r = res)) (rb_WK E k_Rules_fromLength d σ0 res 15 [some (va_rf r0), some (va_rf r1), some (.int x2), none, none] [] σ) := by
  unfold f_Rules_fromLength_b15
  refine rb_TC.mono (rk_iload_n 2 d_Rules_fromLength_15 rfl rfl) ?_
  refine rb_TC.mono (rk_aload_n 0 d_Rules_fromLength_16 rfl rfl) ?_
  refine rt_gI r0 fw_Rules_46 d_Rules_fromLength_17 (fun x_3 => ?_)
  refine rt_icmp_ge 84 d_Rules_fromLength_20 (by decide) (fun _ => ?_) (fun _ => ?_)
  · refine rb_TC.out ?_
    refine rb_TC.mono (rk_iconst (0 : Int32) d_Rules_fromLength_84 (by decide)) ?_
    exact rt_iret (ty := .int) rfl rfl (fun h => h) d_Rules_fromLength_85
  · refine rb_TC.mono (rk_aload_n 0 d_Rules_fromLength_23 rfl rfl) ?_
    refine rt_gR r0 fw_Rules_13 d_Rules_fromLength_24 (fun r_4 => ?_)
    refine rb_TC.mono (rk_iload_n 2 d_Rules_fromLength_27 rfl rfl) ?_
    refine rt_aald (t := 111) r_4 (by decide) d_Rules_fromLength_28 (fun r_5 => ?_)
    refine rt_gR r_5 fw_Rules_69 d_Rules_fromLength_29 (fun r_6 => ?_)
    refine rb_TC.mono (rk_astore_n (lv2 := [some (va_rf r0), some (va_rf r1), some (.int x2), some (va_rf r_6), none]) 3 d_Rules_fromLength_32 rfl (by decide) (fun _ => rb_one_i) rfl) ?_
    refine rb_TC.mono (rk_aload_n 3 d_Rules_fromLength_33 rfl rfl) ?_
    refine rt_vI (As := []) (st := []) (r_6) vw_Rules_86 (s_Str_length (Nat.le_refl _) (r_6)  σ) (Nat.le_trans (by decide) hdd) rfl (by simp [rb_cat_r, rb_cat_i, rb_cat_l]) d_Rules_fromLength_34 (fun x_7 σ_8 => ?_)
    refine rb_TC.mono (rk_istore (lv2 := [some (va_rf r0), some (va_rf r1), some (.int x2), some (va_rf r_6), some (.int x_7)]) d_Rules_fromLength_37 (by decide) (fun _ => rb_one_r) rfl) ?_
    refine rb_TC.mono (rk_aload_n 1 d_Rules_fromLength_39 rfl rfl) ?_
    refine rt_vI (As := []) (st := []) (r1) vw_Rules_86 (s_Str_length (Nat.le_refl _) (r1)  σ_8) (Nat.le_trans (by decide) hdd) rfl (by simp [rb_cat_r, rb_cat_i, rb_cat_l]) d_Rules_fromLength_40 (fun x_9 σ_10 => ?_)
    refine rb_TC.mono (rk_iload d_Rules_fromLength_43 rfl) ?_
    refine rt_icmp_le 78 d_Rules_fromLength_45 (by decide) (fun _ => ?_) (fun _ => ?_)
    · refine rb_TC.mono (rk_iinc (lv2 := [some (va_rf r0), some (va_rf r1), some (.int (x2 + 1)), some (va_rf r_6), some (.int x_7)]) (x2 + 1) d_Rules_fromLength_78 rfl rfl (by decide) (fun _ => rb_one_r) rfl) ?_
      refine rb_TC.mono (rk_goto 15 d_Rules_fromLength_81 (by decide)) ?_
      refine rb_TC.mono (rk_less (lv2 := [some (va_rf r0), some (va_rf r1), some (.int (x2 + 1)), none, none]) (rb_le_ok (rb_leS (rb_leS (rb_leS (rb_leN (rb_leN rb_le0))))))) ?_
      exact rb_back
    · refine rb_TC.mono (rk_aload_n 1 d_Rules_fromLength_48 rfl rfl) ?_
      refine rb_TC.mono (rk_iconst (0 : Int32) d_Rules_fromLength_49 (by decide)) ?_
      refine rb_TC.mono (rk_iload d_Rules_fromLength_50 rfl) ?_
      refine rt_vR (As := [.int (0 : Int32), .int x_7]) (st := []) (r1) vw_Rules_90 (s_Str_substring2 (Nat.le_refl _) (r1) ((0 : Int32)) (x_7) σ_10) (Nat.le_trans (by decide) hdd) rfl (by simp [rb_cat_r, rb_cat_i, rb_cat_l]) d_Rules_fromLength_52 (fun r_11 σ_12 => ?_)
      refine rb_TC.mono (rk_aload_n 3 d_Rules_fromLength_55 rfl rfl) ?_
      refine rt_vI (As := [va_rf r_6]) (st := []) (r_11) vw_Rules_73 (s_Str_equals (Nat.le_refl _) (r_11) (r_6) σ_12) (Nat.le_trans (by decide) hdd) rfl (by simp [rb_cat_r, rb_cat_i, rb_cat_l]) d_Rules_fromLength_56 (fun x_13 σ_14 => ?_)
      refine rt_if_eq 78 d_Rules_fromLength_59 (by decide) (fun _ => ?_) (fun _ => ?_)
      · refine rb_TC.mono (rk_iinc (lv2 := [some (va_rf r0), some (va_rf r1), some (.int (x2 + 1)), some (va_rf r_6), some (.int x_7)]) (x2 + 1) d_Rules_fromLength_78 rfl rfl (by decide) (fun _ => rb_one_r) rfl) ?_
        refine rb_TC.mono (rk_goto 15 d_Rules_fromLength_81 (by decide)) ?_
        refine rb_TC.mono (rk_less (lv2 := [some (va_rf r0), some (va_rf r1), some (.int (x2 + 1)), none, none]) (rb_le_ok (rb_leS (rb_leS (rb_leS (rb_leN (rb_leN rb_le0))))))) ?_
        exact rb_back
      · refine rb_TC.mono (rk_aload_n 0 d_Rules_fromLength_62 rfl rfl) ?_
        refine rb_TC.mono (rk_aload_n 1 d_Rules_fromLength_63 rfl rfl) ?_
        refine rb_TC.mono (rk_iload d_Rules_fromLength_64 rfl) ?_
        refine rt_vR (As := [.int x_7]) (st := [va_rf r0]) (r1) vw_Rules_94 (s_Str_substring (Nat.le_refl _) (r1) (x_7) σ_14) (Nat.le_trans (by decide) hdd) rfl (by simp [rb_cat_r, rb_cat_i, rb_cat_l]) d_Rules_fromLength_66 (fun r_15 σ_16 => ?_)
        refine rt_vI (As := [va_rf r_15]) (st := []) (r0) vw_Rules_79 (s_Rules_hasSuffix (Nat.le_refl _) (r0) (r_15) σ_16) (Nat.le_trans (by decide) hdd) rfl (by simp [rb_cat_r, rb_cat_i, rb_cat_l]) d_Rules_fromLength_69 (fun x_17 σ_18 => ?_)
        refine rt_if_eq 78 d_Rules_fromLength_72 (by decide) (fun _ => ?_) (fun _ => ?_)
        · refine rb_TC.mono (rk_iinc (lv2 := [some (va_rf r0), some (va_rf r1), some (.int (x2 + 1)), some (va_rf r_6), some (.int x_7)]) (x2 + 1) d_Rules_fromLength_78 rfl rfl (by decide) (fun _ => rb_one_r) rfl) ?_
          refine rb_TC.mono (rk_goto 15 d_Rules_fromLength_81 (by decide)) ?_
          refine rb_TC.mono (rk_less (lv2 := [some (va_rf r0), some (va_rf r1), some (.int (x2 + 1)), none, none]) (rb_le_ok (rb_leS (rb_leS (rb_leS (rb_leN (rb_leN rb_le0))))))) ?_
          exact rb_back
        · refine rb_TC.out ?_
          refine rb_TC.mono (rk_iload d_Rules_fromLength_75 rfl) ?_
          exact rt_iret (ty := .int) rfl rfl (fun h => h) d_Rules_fromLength_77
noncomputable def f_Rules_fromLength (r0 : Option Nat) (r1 : Option Nat) (σ : rb_St) : Option rb_Rs :=
  (rb_fc σ r0 4).bind fun _ => rb_cI (f_Rules_hasSuffix (r0) (r1) σ) fun x_1 σ_2 => if x_1 = 0 then (rb_it (fun z : (Int32 × rb_St) => f_Rules_fromLength_b15 (r0) (r1) (z.1) z.2) ((0 : Int32), σ_2)) else ((rb_fc σ_2 r1 14).bind fun _ => rb_cI (f_Str_length (r1)  σ_2) fun x_19 σ_20 => some (some (.int x_19), σ_20))
theorem s_Rules_fromLength {E : rb_EV} {d : Nat} (hdd : 6 ≤ d) (r0 : Option Nat) (r1 : Option Nat) (σ : rb_St) : rb_Does E k_Rules_fromLength d [va_rf r0, va_rf r1] σ (f_Rules_fromLength r0 r1 σ) := by
  refine rb_start (lv := [some (va_rf r0), some (va_rf r1), none, none, none]) (by decide) (by simp [lg_sl, rb_as, lv_args, rb_cat_r, rb_cat_i, rb_cat_l, rb_nL, k_Rules_fromLength]) (fun res => ?_)
  unfold f_Rules_fromLength
  refine rb_TC.mono (rk_aload_n 0 d_Rules_fromLength_0 rfl rfl) ?_
  refine rb_TC.mono (rk_aload_n 1 d_Rules_fromLength_1 rfl rfl) ?_
  refine rt_vI (As := [va_rf r1]) (st := []) (r0) vw_Rules_79 (s_Rules_hasSuffix (Nat.le_refl _) (r0) (r1) σ) (Nat.le_trans (by decide) hdd) rfl (by simp [rb_cat_r, rb_cat_i, rb_cat_l]) d_Rules_fromLength_2 (fun x_1 σ_2 => ?_)
  refine rt_if_eq 13 d_Rules_fromLength_5 (by decide) (fun _ => ?_) (fun _ => ?_)
  · refine rb_TC.mono (rk_iconst (0 : Int32) d_Rules_fromLength_13 (by decide)) ?_
    refine rb_TC.mono (rk_istore_n (lv2 := [some (va_rf r0), some (va_rf r1), some (.int (0 : Int32)), none, none]) 2 d_Rules_fromLength_14 rfl (by decide) (fun _ => rb_one_r) rfl) ?_
    exact rb_TC.loop2 (A := (fun z : (Int32 × rb_St) => rb_WK E k_Rules_fromLength d σ res 15 [some (va_rf r0), some (va_rf r1), some (.int z.1), none, none] [] z.2)) ((0 : Int32), σ_2) (fun z => t_Rules_fromLength_b15 hdd  (r0) (r1) (z.1) z.2)
  · refine rb_TC.mono (rk_aload_n 1 d_Rules_fromLength_8 rfl rfl) ?_
    refine rt_vI (As := []) (st := []) (r1) vw_Rules_86 (s_Str_length (Nat.le_refl _) (r1)  σ_2) (Nat.le_trans (by decide) hdd) rfl (by simp [rb_cat_r, rb_cat_i, rb_cat_l]) d_Rules_fromLength_9 (fun x_19 σ_20 => ?_)
    exact rt_iret (ty := .int) rfl rfl (fun h => h) d_Rules_fromLength_12
-- ===== RuleBuilder$Rules.addSuffix(Ljava/lang/String;)Z
def k_Rules_addSuffix : rb_MK := (⟨"RuleBuilder$Rules", "addSuffix", "(Ljava/lang/String;)Z"⟩, prog_8_method_4_code, 2, some (.boolean))
theorem mw_Rules_addSuffix : rb_Mw k_Rules_addSuffix 1 := ⟨rb_inG 854 (by decide +kernel) rfl, rb_inG 88 (by decide +kernel) rfl, ⟨by decide, by decide, by decide +kernel⟩, by decide⟩
theorem fp_Rules_addSuffix_46 : rb_Fp k_Rules_addSuffix 46 4 1 .int := ⟨fw_Rules_46, rfl, fun q h => by cases h; exact Or.inl rfl⟩
theorem iw_Rules_83 : rb_Iw "RuleBuilder$Rules" 83 k_Phrase_init 1 := ⟨mw_Phrase_init, rfl, rfl, rb_inG 513 (by decide +kernel) rfl, Or.inl (rb_inG 855 (by decide +kernel) rfl)⟩
theorem ow_Rules_11 : rb_Ow "RuleBuilder$Rules" 11 10 := ⟨_, rfl, by decide, by decide, rb_inG 151 (by decide +kernel) rfl, rb_ins10, rb_ini10, rfl, by decide⟩
theorem d_Rules_addSuffix_0 : decode prog_8_method_4_code 0 = .ok (.aload_n 0, 1) := by decide +kernel
theorem d_Rules_addSuffix_1 : decode prog_8_method_4_code 1 = .ok (.aload_n 1, 1) := by decide +kernel
theorem d_Rules_addSuffix_2 : decode prog_8_method_4_code 2 = .ok (.invokevirtual 79, 3) := by decide +kernel
theorem d_Rules_addSuffix_5 : decode prog_8_method_4_code 5 = .ok (.ifCond .eq 5, 3) := by decide +kernel
theorem d_Rules_addSuffix_8 : decode prog_8_method_4_code 8 = .ok (.iconst 1, 1) := by decide +kernel
theorem d_Rules_addSuffix_9 : decode prog_8_method_4_code 9 = .ok (.ireturn, 1) := by decide +kernel
theorem d_Rules_addSuffix_10 : decode prog_8_method_4_code 10 = .ok (.aload_n 0, 1) := by decide +kernel
theorem d_Rules_addSuffix_11 : decode prog_8_method_4_code 11 = .ok (.getfield 46, 3) := by decide +kernel
theorem d_Rules_addSuffix_14 : decode prog_8_method_4_code 14 = .ok (.bipush 6, 2) := by decide +kernel
theorem d_Rules_addSuffix_16 : decode prog_8_method_4_code 16 = .ok (.if_icmp .ne 5, 3) := by decide +kernel
theorem d_Rules_addSuffix_19 : decode prog_8_method_4_code 19 = .ok (.iconst 0, 1) := by decide +kernel
theorem d_Rules_addSuffix_20 : decode prog_8_method_4_code 20 = .ok (.ireturn, 1) := by decide +kernel
theorem d_Rules_addSuffix_21 : decode prog_8_method_4_code 21 = .ok (.aload_n 0, 1) := by decide +kernel
theorem d_Rules_addSuffix_22 : decode prog_8_method_4_code 22 = .ok (.getfield 13, 3) := by decide +kernel
theorem d_Rules_addSuffix_25 : decode prog_8_method_4_code 25 = .ok (.aload_n 0, 1) := by decide +kernel
theorem d_Rules_addSuffix_26 : decode prog_8_method_4_code 26 = .ok (.getfield 46, 3) := by decide +kernel
theorem d_Rules_addSuffix_29 : decode prog_8_method_4_code 29 = .ok (.new 11, 3) := by decide +kernel
theorem d_Rules_addSuffix_32 : decode prog_8_method_4_code 32 = .ok (.dup, 1) := by decide +kernel
theorem d_Rules_addSuffix_33 : decode prog_8_method_4_code 33 = .ok (.aload_n 1, 1) := by decide +kernel
theorem d_Rules_addSuffix_34 : decode prog_8_method_4_code 34 = .ok (.invokespecial 83, 3) := by decide +kernel
theorem d_Rules_addSuffix_37 : decode prog_8_method_4_code 37 = .ok (.aastore, 1) := by decide +kernel
theorem d_Rules_addSuffix_38 : decode prog_8_method_4_code 38 = .ok (.aload_n 0, 1) := by decide +kernel
theorem d_Rules_addSuffix_39 : decode prog_8_method_4_code 39 = .ok (.dup, 1) := by decide +kernel
theorem d_Rules_addSuffix_40 : decode prog_8_method_4_code 40 = .ok (.getfield 46, 3) := by decide +kernel
theorem d_Rules_addSuffix_43 : decode prog_8_method_4_code 43 = .ok (.iconst 1, 1) := by decide +kernel
theorem d_Rules_addSuffix_44 : decode prog_8_method_4_code 44 = .ok (.iadd, 1) := by decide +kernel
theorem d_Rules_addSuffix_45 : decode prog_8_method_4_code 45 = .ok (.putfield 46, 3) := by decide +kernel
theorem d_Rules_addSuffix_48 : decode prog_8_method_4_code 48 = .ok (.iconst 1, 1) := by decide +kernel
theorem d_Rules_addSuffix_49 : decode prog_8_method_4_code 49 = .ok (.ireturn, 1) := by decide +kernel
noncomputable def f_Rules_addSuffix (r0 : Option Nat) (r1 : Option Nat) (σ : rb_St) : Option rb_Rs :=
  (rb_fc σ r0 4).bind fun _ => rb_cI (f_Rules_hasSuffix (r0) (r1) σ) fun x_1 σ_2 => if x_1 = 0 then ((rb_gI σ_2 r0 4 1).bind fun x_3 => if x_3 = (6 : Int32) then (some (some (.int (0 : Int32)), σ_2)) else ((rb_gR σ_2 r0 4 0).bind fun r_4 => (rb_gI σ_2 r0 4 1).bind fun x_5 => rb_cV (f_Phrase_init ((rb_n σ_2)) (r1) (rb_nO σ_2 10)) fun σ_6 => (rb_sR σ_6 r_4 111 x_5 (some (rb_n σ_2))).bind fun σ_7 => (rb_gI σ_7 r0 4 1).bind fun x_8 => (rb_pI σ_7 r0 4 1 (x_8 + (1 : Int32))).bind fun σ_9 => some (some (.int (1 : Int32)), σ_9))) else (some (some (.int (1 : Int32)), σ_2))
theorem s_Rules_addSuffix {E : rb_EV} {d : Nat} (hdd : 3 ≤ d) (r0 : Option Nat) (r1 : Option Nat) (σ : rb_St) : rb_Does E k_Rules_addSuffix d [va_rf r0, va_rf r1] σ (f_Rules_addSuffix r0 r1 σ) := by
  refine rb_start (lv := [some (va_rf r0), some (va_rf r1)]) (by decide) (by simp [lg_sl, rb_as, lv_args, rb_cat_r, rb_cat_i, rb_cat_l, rb_nL, k_Rules_addSuffix]) (fun res => ?_)
  unfold f_Rules_addSuffix
  refine rb_TC.mono (rk_aload_n 0 d_Rules_addSuffix_0 rfl rfl) ?_
  refine rb_TC.mono (rk_aload_n 1 d_Rules_addSuffix_1 rfl rfl) ?_
  refine rt_vI (As := [va_rf r1]) (st := []) (r0) vw_Rules_79 (s_Rules_hasSuffix (Nat.le_refl _) (r0) (r1) σ) (Nat.le_trans (by decide) hdd) rfl (by simp [rb_cat_r, rb_cat_i, rb_cat_l]) d_Rules_addSuffix_2 (fun x_1 σ_2 => ?_)
  refine rt_if_eq 10 d_Rules_addSuffix_5 (by decide) (fun _ => ?_) (fun _ => ?_)
  · refine rb_TC.mono (rk_aload_n 0 d_Rules_addSuffix_10 rfl rfl) ?_
    refine rt_gI r0 fw_Rules_46 d_Rules_addSuffix_11 (fun x_3 => ?_)
    refine rb_TC.mono (rk_bipush (6 : Int32) d_Rules_addSuffix_14 (by decide)) ?_
    refine rt_icmp_ne 21 d_Rules_addSuffix_16 (by decide) (fun _ => ?_) (fun _ => ?_)
    · refine rb_TC.mono (rk_iconst (0 : Int32) d_Rules_addSuffix_19 (by decide)) ?_
      exact rt_iret (ty := .boolean) rfl (by decide) (fun h => h) d_Rules_addSuffix_20
    · refine rb_TC.mono (rk_aload_n 0 d_Rules_addSuffix_21 rfl rfl) ?_
      refine rt_gR r0 fw_Rules_13 d_Rules_addSuffix_22 (fun r_4 => ?_)
      refine rb_TC.mono (rk_aload_n 0 d_Rules_addSuffix_25 rfl rfl) ?_
      refine rt_gI r0 fw_Rules_46 d_Rules_addSuffix_26 (fun x_5 => ?_)
      refine rb_TC.mono (rk_new ow_Rules_11 d_Rules_addSuffix_29) ?_
      refine rb_TC.mono (rk_dupr d_Rules_addSuffix_32) ?_
      refine rb_TC.mono (rk_aload_n 1 d_Rules_addSuffix_33 rfl rfl) ?_
      refine rt_i (As := [va_rf r1]) (st := [va_rf (some (rb_n σ_2)), .int x_5, va_rf r_4]) iw_Rules_83 (s_Phrase_init (Nat.le_refl _) ((rb_n σ_2)) (r1) (rb_nO σ_2 10)) (Nat.le_trans (by decide) hdd) rfl (by simp [rb_cat_r, rb_cat_i, rb_cat_l]) d_Rules_addSuffix_34 (fun σ_6 => ?_)
      refine rt_aast (t := 111) r_4 (some (rb_n σ_2)) (by decide) d_Rules_addSuffix_37 (fun σ_7 => ?_)
      refine rb_TC.mono (rk_aload_n 0 d_Rules_addSuffix_38 rfl rfl) ?_
      refine rb_TC.mono (rk_dupr d_Rules_addSuffix_39) ?_
      refine rt_gI r0 fw_Rules_46 d_Rules_addSuffix_40 (fun x_8 => ?_)
      refine rb_TC.mono (rk_iconst (1 : Int32) d_Rules_addSuffix_43 (by decide)) ?_
      refine rb_TC.mono (rk_iadd d_Rules_addSuffix_44) ?_
      refine rt_pI r0 fp_Rules_addSuffix_46 d_Rules_addSuffix_45 (fun σ_9 => ?_)
      refine rb_TC.mono (rk_iconst (1 : Int32) d_Rules_addSuffix_48 (by decide)) ?_
      exact rt_iret (ty := .boolean) rfl (by decide) (fun h => h) d_Rules_addSuffix_49
  · refine rb_TC.mono (rk_iconst (1 : Int32) d_Rules_addSuffix_8 (by decide)) ?_
    exact rt_iret (ty := .boolean) rfl (by decide) (fun h => h) d_Rules_addSuffix_9
-- ===== RuleBuilder$Rules.findEnding(Ljava/lang/String;Ljava/lang/String;)I
def k_Rules_findEnding : rb_MK := (⟨"RuleBuilder$Rules", "findEnding", "(Ljava/lang/String;Ljava/lang/String;)I"⟩, prog_8_method_6_code, 4, some (.int))
theorem mw_Rules_findEnding : rb_Mw k_Rules_findEnding 2 := ⟨rb_inG 978 (by decide +kernel) rfl, rb_inG 88 (by decide +kernel) rfl, ⟨by decide, by decide, by decide +kernel⟩, by decide⟩
theorem d_Rules_findEnding_0 : decode prog_8_method_6_code 0 = .ok (.iconst 0, 1) := by decide +kernel
theorem d_Rules_findEnding_1 : decode prog_8_method_6_code 1 = .ok (.istore_n 3, 1) := by decide +kernel
theorem d_Rules_findEnding_2 : decode prog_8_method_6_code 2 = .ok (.iload_n 3, 1) := by decide +kernel
theorem d_Rules_findEnding_3 : decode prog_8_method_6_code 3 = .ok (.aload_n 0, 1) := by decide +kernel
theorem d_Rules_findEnding_4 : decode prog_8_method_6_code 4 = .ok (.getfield 49, 3) := by decide +kernel
theorem d_Rules_findEnding_7 : decode prog_8_method_6_code 7 = .ok (.if_icmp .ge 43, 3) := by decide +kernel
theorem d_Rules_findEnding_10 : decode prog_8_method_6_code 10 = .ok (.aload_n 0, 1) := by decide +kernel
theorem d_Rules_findEnding_11 : decode prog_8_method_6_code 11 = .ok (.getfield 17, 3) := by decide +kernel
theorem d_Rules_findEnding_14 : decode prog_8_method_6_code 14 = .ok (.iload_n 3, 1) := by decide +kernel
theorem d_Rules_findEnding_15 : decode prog_8_method_6_code 15 = .ok (.aaload, 1) := by decide +kernel
theorem d_Rules_findEnding_16 : decode prog_8_method_6_code 16 = .ok (.getfield 69, 3) := by decide +kernel
theorem d_Rules_findEnding_19 : decode prog_8_method_6_code 19 = .ok (.aload_n 1, 1) := by decide +kernel
theorem d_Rules_findEnding_20 : decode prog_8_method_6_code 20 = .ok (.invokevirtual 73, 3) := by decide +kernel
theorem d_Rules_findEnding_23 : decode prog_8_method_6_code 23 = .ok (.ifCond .eq 21, 3) := by decide +kernel
theorem d_Rules_findEnding_26 : decode prog_8_method_6_code 26 = .ok (.aload_n 0, 1) := by decide +kernel
theorem d_Rules_findEnding_27 : decode prog_8_method_6_code 27 = .ok (.getfield 20, 3) := by decide +kernel
theorem d_Rules_findEnding_30 : decode prog_8_method_6_code 30 = .ok (.iload_n 3, 1) := by decide +kernel
theorem d_Rules_findEnding_31 : decode prog_8_method_6_code 31 = .ok (.aaload, 1) := by decide +kernel
theorem d_Rules_findEnding_32 : decode prog_8_method_6_code 32 = .ok (.getfield 69, 3) := by decide +kernel
theorem d_Rules_findEnding_35 : decode prog_8_method_6_code 35 = .ok (.aload_n 2, 1) := by decide +kernel
theorem d_Rules_findEnding_36 : decode prog_8_method_6_code 36 = .ok (.invokevirtual 73, 3) := by decide +kernel
theorem d_Rules_findEnding_39 : decode prog_8_method_6_code 39 = .ok (.ifCond .eq 5, 3) := by decide +kernel
theorem d_Rules_findEnding_42 : decode prog_8_method_6_code 42 = .ok (.iload_n 3, 1) := by decide +kernel
theorem d_Rules_findEnding_43 : decode prog_8_method_6_code 43 = .ok (.ireturn, 1) := by decide +kernel
theorem d_Rules_findEnding_44 : decode prog_8_method_6_code 44 = .ok (.iinc 3 1, 3) := by decide +kernel
theorem d_Rules_findEnding_47 : decode prog_8_method_6_code 47 = .ok (.goto (-45), 3) := by decide +kernel
theorem d_Rules_findEnding_50 : decode prog_8_method_6_code 50 = .ok (.iconst (-1), 1) := by decide +kernel
theorem d_Rules_findEnding_51 : decode prog_8_method_6_code 51 = .ok (.ireturn, 1) := by decide +kernel
noncomputable def f_Rules_findEnding_b2 (r0 : Option Nat) (r1 : Option Nat) (r2 : Option Nat) (x3 : Int32) (σ : rb_St) : Option ((Int32 × rb_St) ⊕ rb_Rs) :=
  (rb_gI σ r0 4 5).bind fun x_1 => if x_1 ≤ x3 then ((some (some (.int (-1 : Int32)), σ)).map Sum.inr) else ((rb_gR σ r0 4 2).bind fun r_2 => (rb_aR σ r_2 111 x3).bind fun r_3 => (rb_gR σ r_3 10 0).bind fun r_4 => (rb_fc σ r_4 14).bind fun _ => rb_cI (f_Str_equals (r_4) (r1) σ) fun x_5 σ_6 => if x_5 = 0 then (some (.inl ((x3 + 1), σ_6))) else ((rb_gR σ_6 r0 4 3).bind fun r_7 => (rb_aR σ_6 r_7 111 x3).bind fun r_8 => (rb_gR σ_6 r_8 10 0).bind fun r_9 => (rb_fc σ_6 r_9 14).bind fun _ => rb_cI (f_Str_equals (r_9) (r2) σ_6) fun x_10 σ_11 => if x_10 = 0 then (some (.inl ((x3 + 1), σ_11))) else ((some (some (.int x3), σ_11)).map Sum.inr)))
theorem t_Rules_findEnding_b2 {E : rb_EV} {d : Nat} {σ0 : rb_St} {res : rb_Rs} (hdd : 2 ≤ d)  (r0 : Option Nat) (r1 : Option Nat) (r2 : Option Nat) (x3 : Int32) (σ : rb_St) : rb_TC (f_Rules_findEnding_b2 r0 r1 r2 x3 σ) (Sum.elim (fun z : (Int32 × rb_St) => rb_WK E k_Rules_findEnding d σ0 res 2 [some (va_rf r0), some (va_rf r1), some (va_rf r2), some (.int z.1)] [] z.2) (fun r => r = res)) (rb_WK E k_Rules_findEnding d σ0 res 2 [some (va_rf r0), some (va_rf r1), some (va_rf r2), some (.int x3)] [] σ) := by
  unfold f_Rules_findEnding_b2
  refine rb_TC.mono (rk_iload_n 3 d_Rules_findEnding_2 rfl rfl) ?_
  refine rb_TC.mono (rk_aload_n 0 d_Rules_findEnding_3 rfl rfl) ?_
  refine rt_gI r0 fw_Rules_49 d_Rules_findEnding_4 (fun x_1 => ?_)
  refine rt_icmp_ge 50 d_Rules_findEnding_7 (by decide) (fun _ => ?_) (fun _ => ?_)
  · refine rb_TC.out ?_
    refine rb_TC.mono (rk_iconst (-1 : Int32) d_Rules_findEnding_50 (by decide)) ?_
    exact rt_iret (ty := .int) rfl rfl (fun h => h) d_Rules_findEnding_51
  · refine rb_TC.mono (rk_aload_n 0 d_Rules_findEnding_10 rfl rfl) ?_
    refine rt_gR r0 fw_Rules_17 d_Rules_findEnding_11 (fun r_2 => ?_)
    refine rb_TC.mono (rk_iload_n 3 d_Rules_findEnding_14 rfl rfl) ?_
    refine rt_aald (t := 111) r_2 (by decide) d_Rules_findEnding_15 (fun r_3 => ?_)
    refine rt_gR r_3 fw_Rules_69 d_Rules_findEnding_16 (fun r_4 => ?_)
    refine rb_TC.mono (rk_aload_n 1 d_Rules_findEnding_19 rfl rfl) ?_
    refine rt_vI (As := [va_rf r1]) (st := []) (r_4) vw_Rules_73 (s_Str_equals (Nat.le_refl _) (r_4) (r1) σ) (Nat.le_trans (by decide) hdd) rfl (by simp [rb_cat_r, rb_cat_i, rb_cat_l]) d_Rules_findEnding_20 (fun x_5 σ_6 => ?_)
    refine rt_if_eq 44 d_Rules_findEnding_23 (by decide) (fun _ => ?_) (fun _ => ?_)
    · refine rb_TC.mono (rk_iinc (lv2 := [some (va_rf r0), some (va_rf r1), some (va_rf r2), some (.int (x3 + 1))]) (x3 + 1) d_Rules_findEnding_44 rfl rfl (by decide) (fun _ => rb_one_r) rfl) ?_
      refine rb_TC.mono (rk_goto 2 d_Rules_findEnding_47 (by decide)) ?_
      exact rb_back
    · refine rb_TC.mono (rk_aload_n 0 d_Rules_findEnding_26 rfl rfl) ?_
      refine rt_gR r0 fw_Rules_20 d_Rules_findEnding_27 (fun r_7 => ?_)
      refine rb_TC.mono (rk_iload_n 3 d_Rules_findEnding_30 rfl rfl) ?_
      refine rt_aald (t := 111) r_7 (by decide) d_Rules_findEnding_31 (fun r_8 => ?_)
      refine rt_gR r_8 fw_Rules_69 d_Rules_findEnding_32 (fun r_9 => ?_)
      refine rb_TC.mono (rk_aload_n 2 d_Rules_findEnding_35 rfl rfl) ?_
      refine rt_vI (As := [va_rf r2]) (st := []) (r_9) vw_Rules_73 (s_Str_equals (Nat.le_refl _) (r_9) (r2) σ_6) (Nat.le_trans (by decide) hdd) rfl (by simp [rb_cat_r, rb_cat_i, rb_cat_l]) d_Rules_findEnding_36 (fun x_10 σ_11 => ?_)
      refine rt_if_eq 44 d_Rules_findEnding_39 (by decide) (fun _ => ?_) (fun _ => ?_)
      · refine rb_TC.mono (rk_iinc (lv2 := [some (va_rf r0), some (va_rf r1), some (va_rf r2), some (.int (x3 + 1))]) (x3 + 1) d_Rules_findEnding_44 rfl rfl (by decide) (fun _ => rb_one_r) rfl) ?_
        refine rb_TC.mono (rk_goto 2 d_Rules_findEnding_47 (by decide)) ?_
        exact rb_back
      · refine rb_TC.out ?_
        refine rb_TC.mono (rk_iload_n 3 d_Rules_findEnding_42 rfl rfl) ?_
        exact rt_iret (ty := .int) rfl rfl (fun h => h) d_Rules_findEnding_43
noncomputable def f_Rules_findEnding (r0 : Option Nat) (r1 : Option Nat) (r2 : Option Nat) (σ : rb_St) : Option rb_Rs :=
  rb_it (fun z : (Int32 × rb_St) => f_Rules_findEnding_b2 (r0) (r1) (r2) (z.1) z.2) ((0 : Int32), σ)
theorem s_Rules_findEnding {E : rb_EV} {d : Nat} (hdd : 2 ≤ d) (r0 : Option Nat) (r1 : Option Nat) (r2 : Option Nat) (σ : rb_St) : rb_Does E k_Rules_findEnding d [va_rf r0, va_rf r1, va_rf r2] σ (f_Rules_findEnding r0 r1 r2 σ) := by
  refine rb_start (lv := [some (va_rf r0), some (va_rf r1), some (va_rf r2), none]) (by decide) (by simp [lg_sl, rb_as, lv_args, rb_cat_r, rb_cat_i, rb_cat_l, rb_nL, k_Rules_findEnding]) (fun res => ?_)
  unfold f_Rules_findEnding
  refine rb_TC.mono (rk_iconst (0 : Int32) d_Rules_findEnding_0 (by decide)) ?_
  refine rb_TC.mono (rk_istore_n (lv2 := [some (va_rf r0), some (va_rf r1), some (va_rf r2), some (.int (0 : Int32))]) 3 d_Rules_findEnding_1 rfl (by decide) (fun _ => rb_one_r) rfl) ?_
  exact rb_TC.loop2 (A := (fun z : (Int32 × rb_St) => rb_WK E k_Rules_findEnding d σ res 2 [some (va_rf r0), some (va_rf r1), some (va_rf r2), some (.int z.1)] [] z.2)) ((0 : Int32), σ) (fun z => t_Rules_findEnding_b2 hdd  (r0) (r1) (r2) (z.1) z.2)
-- ===== RuleBuilder$Rules.renewEnding(Ljava/lang/String;Ljava/lang/String;)I
def k_Rules_renewEnding : rb_MK := (⟨"RuleBuilder$Rules", "renewEnding", "(Ljava/lang/String;Ljava/lang/String;)I"⟩, prog_8_method_7_code, 4, some (.int))
theorem mw_Rules_renewEnding : rb_Mw k_Rules_renewEnding 2 := ⟨rb_inG 974 (by decide +kernel) rfl, rb_inG 88 (by decide +kernel) rfl, ⟨by decide, by decide, by decide +kernel⟩, by decide⟩
theorem fp_Rules_renewEnding_49 : rb_Fp k_Rules_renewEnding 49 4 5 .int := ⟨fw_Rules_49, rfl, fun q h => by cases h; exact Or.inl rfl⟩
theorem vw_Rules_101 : rb_Vw "RuleBuilder$Rules" 101 k_Rules_giveEndingCommands 4 2 := ⟨mw_Rules_giveEndingCommands, rb_inG 979 (by decide +kernel) rfl, rb_inG 572 (by decide +kernel) rfl, rb_inG 573 (by decide +kernel) rfl, by decide, by decide, _, rfl, rfl⟩
theorem vw_Rules_97 : rb_Vw "RuleBuilder$Rules" 97 k_Rules_findEnding 4 2 := ⟨mw_Rules_findEnding, rb_inG 975 (by decide +kernel) rfl, rb_inG 977 (by decide +kernel) rfl, rb_inG 16 (by decide +kernel) rfl, by decide, by decide, _, rfl, rfl⟩
theorem d_Rules_renewEnding_0 : decode prog_8_method_7_code 0 = .ok (.aload_n 0, 1) := by decide +kernel
theorem d_Rules_renewEnding_1 : decode prog_8_method_7_code 1 = .ok (.aload_n 1, 1) := by decide +kernel
theorem d_Rules_renewEnding_2 : decode prog_8_method_7_code 2 = .ok (.aload_n 2, 1) := by decide +kernel
theorem d_Rules_renewEnding_3 : decode prog_8_method_7_code 3 = .ok (.invokevirtual 97, 3) := by decide +kernel
theorem d_Rules_renewEnding_6 : decode prog_8_method_7_code 6 = .ok (.istore_n 3, 1) := by decide +kernel
theorem d_Rules_renewEnding_7 : decode prog_8_method_7_code 7 = .ok (.iload_n 3, 1) := by decide +kernel
theorem d_Rules_renewEnding_8 : decode prog_8_method_7_code 8 = .ok (.iconst (-1), 1) := by decide +kernel
theorem d_Rules_renewEnding_9 : decode prog_8_method_7_code 9 = .ok (.if_icmp .ne 55, 3) := by decide +kernel
theorem d_Rules_renewEnding_12 : decode prog_8_method_7_code 12 = .ok (.aload_n 0, 1) := by decide +kernel
theorem d_Rules_renewEnding_13 : decode prog_8_method_7_code 13 = .ok (.getfield 49, 3) := by decide +kernel
theorem d_Rules_renewEnding_16 : decode prog_8_method_7_code 16 = .ok (.bipush 8, 2) := by decide +kernel
theorem d_Rules_renewEnding_18 : decode prog_8_method_7_code 18 = .ok (.if_icmp .ge 46, 3) := by decide +kernel
theorem d_Rules_renewEnding_21 : decode prog_8_method_7_code 21 = .ok (.aload_n 0, 1) := by decide +kernel
theorem d_Rules_renewEnding_22 : decode prog_8_method_7_code 22 = .ok (.getfield 49, 3) := by decide +kernel
theorem d_Rules_renewEnding_25 : decode prog_8_method_7_code 25 = .ok (.istore_n 3, 1) := by decide +kernel
theorem d_Rules_renewEnding_26 : decode prog_8_method_7_code 26 = .ok (.aload_n 0, 1) := by decide +kernel
theorem d_Rules_renewEnding_27 : decode prog_8_method_7_code 27 = .ok (.getfield 17, 3) := by decide +kernel
theorem d_Rules_renewEnding_30 : decode prog_8_method_7_code 30 = .ok (.iload_n 3, 1) := by decide +kernel
theorem d_Rules_renewEnding_31 : decode prog_8_method_7_code 31 = .ok (.new 11, 3) := by decide +kernel
theorem d_Rules_renewEnding_34 : decode prog_8_method_7_code 34 = .ok (.dup, 1) := by decide +kernel
theorem d_Rules_renewEnding_35 : decode prog_8_method_7_code 35 = .ok (.aload_n 1, 1) := by decide +kernel
theorem d_Rules_renewEnding_36 : decode prog_8_method_7_code 36 = .ok (.invokespecial 83, 3) := by decide +kernel
theorem d_Rules_renewEnding_39 : decode prog_8_method_7_code 39 = .ok (.aastore, 1) := by decide +kernel
theorem d_Rules_renewEnding_40 : decode prog_8_method_7_code 40 = .ok (.aload_n 0, 1) := by decide +kernel
theorem d_Rules_renewEnding_41 : decode prog_8_method_7_code 41 = .ok (.getfield 20, 3) := by decide +kernel
theorem d_Rules_renewEnding_44 : decode prog_8_method_7_code 44 = .ok (.iload_n 3, 1) := by decide +kernel
theorem d_Rules_renewEnding_45 : decode prog_8_method_7_code 45 = .ok (.new 11, 3) := by decide +kernel
theorem d_Rules_renewEnding_48 : decode prog_8_method_7_code 48 = .ok (.dup, 1) := by decide +kernel
theorem d_Rules_renewEnding_49 : decode prog_8_method_7_code 49 = .ok (.aload_n 2, 1) := by decide +kernel
theorem d_Rules_renewEnding_50 : decode prog_8_method_7_code 50 = .ok (.invokespecial 83, 3) := by decide +kernel
theorem d_Rules_renewEnding_53 : decode prog_8_method_7_code 53 = .ok (.aastore, 1) := by decide +kernel
theorem d_Rules_renewEnding_54 : decode prog_8_method_7_code 54 = .ok (.aload_n 0, 1) := by decide +kernel
theorem d_Rules_renewEnding_55 : decode prog_8_method_7_code 55 = .ok (.dup, 1) := by decide +kernel
theorem d_Rules_renewEnding_56 : decode prog_8_method_7_code 56 = .ok (.getfield 49, 3) := by decide +kernel
theorem d_Rules_renewEnding_59 : decode prog_8_method_7_code 59 = .ok (.iconst 1, 1) := by decide +kernel
theorem d_Rules_renewEnding_60 : decode prog_8_method_7_code 60 = .ok (.iadd, 1) := by decide +kernel
theorem d_Rules_renewEnding_61 : decode prog_8_method_7_code 61 = .ok (.putfield 49, 3) := by decide +kernel
theorem d_Rules_renewEnding_64 : decode prog_8_method_7_code 64 = .ok (.aload_n 0, 1) := by decide +kernel
theorem d_Rules_renewEnding_65 : decode prog_8_method_7_code 65 = .ok (.iload_n 3, 1) := by decide +kernel
theorem d_Rules_renewEnding_66 : decode prog_8_method_7_code 66 = .ok (.iconst (-1), 1) := by decide +kernel
theorem d_Rules_renewEnding_67 : decode prog_8_method_7_code 67 = .ok (.invokevirtual 101, 3) := by decide +kernel
theorem d_Rules_renewEnding_70 : decode prog_8_method_7_code 70 = .ok (.iload_n 3, 1) := by decide +kernel
theorem d_Rules_renewEnding_71 : decode prog_8_method_7_code 71 = .ok (.ireturn, 1) := by decide +kernel
noncomputable def f_Rules_renewEnding_j64 (r0 : Option Nat) (x3 : Int32) (σ : rb_St) : Option rb_Rs :=
  (rb_fc σ r0 4).bind fun _ => rb_cV (f_Rules_giveEndingCommands (r0) (x3) ((-1 : Int32)) σ) fun σ_4 => some (some (.int x3), σ_4)
theorem t_Rules_renewEnding_j64 {E : rb_EV} {d : Nat} {σ0 : rb_St} {res : rb_Rs} (hdd : 3 ≤ d)  (r0 : Option Nat) (x3 : Int32) (σ : rb_St) : rb_TC (f_Rules_renewEnding_j64 r0 x3 σ) (fun r => r = res) (rb_WK E k_Rules_renewEnding d σ0 res 64 [some (va_rf r0), none, none, some (.int x3)] [] σ) := by
  unfold f_Rules_renewEnding_j64
  refine rb_TC.mono (rk_aload_n 0 d_Rules_renewEnding_64 rfl rfl) ?_
  refine rb_TC.mono (rk_iload_n 3 d_Rules_renewEnding_65 rfl rfl) ?_
  refine rb_TC.mono (rk_iconst (-1 : Int32) d_Rules_renewEnding_66 (by decide)) ?_
  refine rt_vV (As := [.int x3, .int (-1 : Int32)]) (st := []) (r0) vw_Rules_101 (s_Rules_giveEndingCommands (Nat.le_refl _) (r0) (x3) ((-1 : Int32)) σ) (Nat.le_trans (by decide) hdd) rfl (by simp [rb_cat_r, rb_cat_i, rb_cat_l]) d_Rules_renewEnding_67 (fun σ_4 => ?_)
  refine rb_TC.mono (rk_iload_n 3 d_Rules_renewEnding_70 rfl rfl) ?_
  exact rt_iret (ty := .int) rfl rfl (fun h => h) d_Rules_renewEnding_71
noncomputable def f_Rules_renewEnding (r0 : Option Nat) (r1 : Option Nat) (r2 : Option Nat) (σ : rb_St) : Option rb_Rs :=
  (rb_fc σ r0 4).bind fun _ => rb_cI (f_Rules_findEnding (r0) (r1) (r2) σ) fun x_1 σ_2 => if x_1 = (-1 : Int32) then ((rb_gI σ_2 r0 4 5).bind fun x_3 => if (8 : Int32) ≤ x_3 then (f_Rules_renewEnding_j64 (r0) (x_1) σ_2) else ((rb_gI σ_2 r0 4 5).bind fun x_5 => (rb_gR σ_2 r0 4 2).bind fun r_6 => rb_cV (f_Phrase_init ((rb_n σ_2)) (r1) (rb_nO σ_2 10)) fun σ_7 => (rb_sR σ_7 r_6 111 x_5 (some (rb_n σ_2))).bind fun σ_8 => (rb_gR σ_8 r0 4 3).bind fun r_9 => rb_cV (f_Phrase_init ((rb_n σ_8)) (r2) (rb_nO σ_8 10)) fun σ_10 => (rb_sR σ_10 r_9 111 x_5 (some (rb_n σ_8))).bind fun σ_11 => (rb_gI σ_11 r0 4 5).bind fun x_12 => (rb_pI σ_11 r0 4 5 (x_12 + (1 : Int32))).bind fun σ_13 => f_Rules_renewEnding_j64 (r0) (x_5) σ_13)) else (f_Rules_renewEnding_j64 (r0) (x_1) σ_2)
theorem s_Rules_renewEnding {E : rb_EV} {d : Nat} (hdd : 3 ≤ d) (r0 : Option Nat) (r1 : Option Nat) (r2 : Option Nat) (σ : rb_St) : rb_Does E k_Rules_renewEnding d [va_rf r0, va_rf r1, va_rf r2] σ (f_Rules_renewEnding r0 r1 r2 σ) := by
  refine rb_start (lv := [some (va_rf r0), some (va_rf r1), some (va_rf r2), none]) (by decide) (by simp [lg_sl, rb_as, lv_args, rb_cat_r, rb_cat_i, rb_cat_l, rb_nL, k_Rules_renewEnding]) (fun res => ?_)
  unfold f_Rules_renewEnding
  refine rb_TC.mono (rk_aload_n 0 d_Rules_renewEnding_0 rfl rfl) ?_
  refine rb_TC.mono (rk_aload_n 1 d_Rules_renewEnding_1 rfl rfl) ?_
  refine rb_TC.mono (rk_aload_n 2 d_Rules_renewEnding_2 rfl rfl) ?_
  refine rt_vI (As := [va_rf r1, va_rf r2]) (st := []) (r0) vw_Rules_97 (s_Rules_findEnding (Nat.le_refl _) (r0) (r1) (r2) σ) (Nat.le_trans (by decide) hdd) rfl (by simp [rb_cat_r, rb_cat_i, rb_cat_l]) d_Rules_renewEnding_3 (fun x_1 σ_2 => ?_)
  refine rb_TC.mono (rk_istore_n (lv2 := [some (va_rf r0), some (va_rf r1), some (va_rf r2), some (.int x_1)]) 3 d_Rules_renewEnding_6 rfl (by decide) (fun _ => rb_one_r) rfl) ?_
  refine rb_TC.mono (rk_iload_n 3 d_Rules_renewEnding_7 rfl rfl) ?_
  refine rb_TC.mono (rk_iconst (-1 : Int32) d_Rules_renewEnding_8 (by decide)) ?_
  refine rt_icmp_ne 64 d_Rules_renewEnding_9 (by decide) (fun _ => ?_) (fun _ => ?_)
  · refine rb_TC.mono (rk_aload_n 0 d_Rules_renewEnding_12 rfl rfl) ?_
    refine rt_gI r0 fw_Rules_49 d_Rules_renewEnding_13 (fun x_3 => ?_)
    refine rb_TC.mono (rk_bipush (8 : Int32) d_Rules_renewEnding_16 (by decide)) ?_
    refine rt_icmp_ge 64 d_Rules_renewEnding_18 (by decide) (fun _ => ?_) (fun _ => ?_)
    · refine rb_TC.mono (rk_less (lv2 := [some (va_rf r0), none, none, some (.int x_1)]) (rb_le_ok (rb_leS (rb_leN (rb_leN (rb_leS rb_le0)))))) ?_
      exact t_Rules_renewEnding_j64 hdd  (r0) (x_1) σ_2
    · refine rb_TC.mono (rk_aload_n 0 d_Rules_renewEnding_21 rfl rfl) ?_
      refine rt_gI r0 fw_Rules_49 d_Rules_renewEnding_22 (fun x_5 => ?_)
      refine rb_TC.mono (rk_istore_n (lv2 := [some (va_rf r0), some (va_rf r1), some (va_rf r2), some (.int x_5)]) 3 d_Rules_renewEnding_25 rfl (by decide) (fun _ => rb_one_r) rfl) ?_
      refine rb_TC.mono (rk_aload_n 0 d_Rules_renewEnding_26 rfl rfl) ?_
      refine rt_gR r0 fw_Rules_17 d_Rules_renewEnding_27 (fun r_6 => ?_)
      refine rb_TC.mono (rk_iload_n 3 d_Rules_renewEnding_30 rfl rfl) ?_
      refine rb_TC.mono (rk_new ow_Rules_11 d_Rules_renewEnding_31) ?_
      refine rb_TC.mono (rk_dupr d_Rules_renewEnding_34) ?_
      refine rb_TC.mono (rk_aload_n 1 d_Rules_renewEnding_35 rfl rfl) ?_
      refine rt_i (As := [va_rf r1]) (st := [va_rf (some (rb_n σ_2)), .int x_5, va_rf r_6]) iw_Rules_83 (s_Phrase_init (Nat.le_refl _) ((rb_n σ_2)) (r1) (rb_nO σ_2 10)) (Nat.le_trans (by decide) hdd) rfl (by simp [rb_cat_r, rb_cat_i, rb_cat_l]) d_Rules_renewEnding_36 (fun σ_7 => ?_)
      refine rt_aast (t := 111) r_6 (some (rb_n σ_2)) (by decide) d_Rules_renewEnding_39 (fun σ_8 => ?_)
      refine rb_TC.mono (rk_aload_n 0 d_Rules_renewEnding_40 rfl rfl) ?_
      refine rt_gR r0 fw_Rules_20 d_Rules_renewEnding_41 (fun r_9 => ?_)
      refine rb_TC.mono (rk_iload_n 3 d_Rules_renewEnding_44 rfl rfl) ?_
      refine rb_TC.mono (rk_new ow_Rules_11 d_Rules_renewEnding_45) ?_
      refine rb_TC.mono (rk_dupr d_Rules_renewEnding_48) ?_
      refine rb_TC.mono (rk_aload_n 2 d_Rules_renewEnding_49 rfl rfl) ?_
      refine rt_i (As := [va_rf r2]) (st := [va_rf (some (rb_n σ_8)), .int x_5, va_rf r_9]) iw_Rules_83 (s_Phrase_init (Nat.le_refl _) ((rb_n σ_8)) (r2) (rb_nO σ_8 10)) (Nat.le_trans (by decide) hdd) rfl (by simp [rb_cat_r, rb_cat_i, rb_cat_l]) d_Rules_renewEnding_50 (fun σ_10 => ?_)
      refine rt_aast (t := 111) r_9 (some (rb_n σ_8)) (by decide) d_Rules_renewEnding_53 (fun σ_11 => ?_)
      refine rb_TC.mono (rk_aload_n 0 d_Rules_renewEnding_54 rfl rfl) ?_
      refine rb_TC.mono (rk_dupr d_Rules_renewEnding_55) ?_
      refine rt_gI r0 fw_Rules_49 d_Rules_renewEnding_56 (fun x_12 => ?_)
      refine rb_TC.mono (rk_iconst (1 : Int32) d_Rules_renewEnding_59 (by decide)) ?_
      refine rb_TC.mono (rk_iadd d_Rules_renewEnding_60) ?_
      refine rt_pI r0 fp_Rules_renewEnding_49 d_Rules_renewEnding_61 (fun σ_13 => ?_)
      refine rb_TC.mono (rk_less (lv2 := [some (va_rf r0), none, none, some (.int x_5)]) (rb_le_ok (rb_leS (rb_leN (rb_leN (rb_leS rb_le0)))))) ?_
      exact t_Rules_renewEnding_j64 hdd  (r0) (x_5) σ_13
  · refine rb_TC.mono (rk_less (lv2 := [some (va_rf r0), none, none, some (.int x_1)]) (rb_le_ok (rb_leS (rb_leN (rb_leN (rb_leS rb_le0)))))) ?_
    exact t_Rules_renewEnding_j64 hdd  (r0) (x_1) σ_2
-- ===== RuleBuilder$Rules.addPrerequisite(LRuleBuilder$Name;LRuleBuilder$Name;)Z
def k_Rules_addPrerequisite : rb_MK := (⟨"RuleBuilder$Rules", "addPrerequisite", "(LRuleBuilder$Name;LRuleBuilder$Name;)Z"⟩, prog_8_method_10_code, 3, some (.boolean))
theorem mw_Rules_addPrerequisite : rb_Mw k_Rules_addPrerequisite 2 := ⟨rb_inG 991 (by decide +kernel) rfl, rb_inG 88 (by decide +kernel) rfl, ⟨by decide, by decide, by decide +kernel⟩, by decide⟩
theorem fp_Rules_addPrerequisite_55 : rb_Fp k_Rules_addPrerequisite 55 4 10 .int := ⟨fw_Rules_55, rfl, fun q h => by cases h; exact Or.inl rfl⟩
theorem d_Rules_addPrerequisite_0 : decode prog_8_method_10_code 0 = .ok (.aload_n 2, 1) := by decide +kernel
theorem d_Rules_addPrerequisite_1 : decode prog_8_method_10_code 1 = .ok (.ifnull 12, 3) := by decide +kernel
theorem d_Rules_addPrerequisite_4 : decode prog_8_method_10_code 4 = .ok (.aload_n 0, 1) := by decide +kernel
theorem d_Rules_addPrerequisite_5 : decode prog_8_method_10_code 5 = .ok (.getfield 55, 3) := by decide +kernel
theorem d_Rules_addPrerequisite_8 : decode prog_8_method_10_code 8 = .ok (.bipush 80, 2) := by decide +kernel
theorem d_Rules_addPrerequisite_10 : decode prog_8_method_10_code 10 = .ok (.if_icmp .ne 5, 3) := by decide +kernel
theorem d_Rules_addPrerequisite_13 : decode prog_8_method_10_code 13 = .ok (.iconst 0, 1) := by decide +kernel
theorem d_Rules_addPrerequisite_14 : decode prog_8_method_10_code 14 = .ok (.ireturn, 1) := by decide +kernel
theorem d_Rules_addPrerequisite_15 : decode prog_8_method_10_code 15 = .ok (.aload_n 0, 1) := by decide +kernel
theorem d_Rules_addPrerequisite_16 : decode prog_8_method_10_code 16 = .ok (.getfield 35, 3) := by decide +kernel
theorem d_Rules_addPrerequisite_19 : decode prog_8_method_10_code 19 = .ok (.aload_n 0, 1) := by decide +kernel
theorem d_Rules_addPrerequisite_20 : decode prog_8_method_10_code 20 = .ok (.getfield 55, 3) := by decide +kernel
theorem d_Rules_addPrerequisite_23 : decode prog_8_method_10_code 23 = .ok (.aload_n 1, 1) := by decide +kernel
theorem d_Rules_addPrerequisite_24 : decode prog_8_method_10_code 24 = .ok (.aastore, 1) := by decide +kernel
theorem d_Rules_addPrerequisite_25 : decode prog_8_method_10_code 25 = .ok (.aload_n 0, 1) := by decide +kernel
theorem d_Rules_addPrerequisite_26 : decode prog_8_method_10_code 26 = .ok (.getfield 39, 3) := by decide +kernel
theorem d_Rules_addPrerequisite_29 : decode prog_8_method_10_code 29 = .ok (.aload_n 0, 1) := by decide +kernel
theorem d_Rules_addPrerequisite_30 : decode prog_8_method_10_code 30 = .ok (.getfield 55, 3) := by decide +kernel
theorem d_Rules_addPrerequisite_33 : decode prog_8_method_10_code 33 = .ok (.aload_n 2, 1) := by decide +kernel
theorem d_Rules_addPrerequisite_34 : decode prog_8_method_10_code 34 = .ok (.aastore, 1) := by decide +kernel
theorem d_Rules_addPrerequisite_35 : decode prog_8_method_10_code 35 = .ok (.aload_n 0, 1) := by decide +kernel
theorem d_Rules_addPrerequisite_36 : decode prog_8_method_10_code 36 = .ok (.dup, 1) := by decide +kernel
theorem d_Rules_addPrerequisite_37 : decode prog_8_method_10_code 37 = .ok (.getfield 55, 3) := by decide +kernel
theorem d_Rules_addPrerequisite_40 : decode prog_8_method_10_code 40 = .ok (.iconst 1, 1) := by decide +kernel
theorem d_Rules_addPrerequisite_41 : decode prog_8_method_10_code 41 = .ok (.iadd, 1) := by decide +kernel
theorem d_Rules_addPrerequisite_42 : decode prog_8_method_10_code 42 = .ok (.putfield 55, 3) := by decide +kernel
theorem d_Rules_addPrerequisite_45 : decode prog_8_method_10_code 45 = .ok (.iconst 1, 1) := by decide +kernel
theorem d_Rules_addPrerequisite_46 : decode prog_8_method_10_code 46 = .ok (.ireturn, 1) := by decide +kernel
noncomputable def f_Rules_addPrerequisite (r0 : Option Nat) (r1 : Option Nat) (r2 : Option Nat) (σ : rb_St) : Option rb_Rs :=
  if r2 = none then (some (some (.int (0 : Int32)), σ)) else ((rb_gI σ r0 4 10).bind fun x_1 => if x_1 = (80 : Int32) then (some (some (.int (0 : Int32)), σ)) else ((rb_gR σ r0 4 8).bind fun r_2 => (rb_gI σ r0 4 10).bind fun x_3 => (rb_sR σ r_2 112 x_3 r1).bind fun σ_4 => (rb_gR σ_4 r0 4 9).bind fun r_5 => (rb_gI σ_4 r0 4 10).bind fun x_6 => (rb_sR σ_4 r_5 112 x_6 r2).bind fun σ_7 => (rb_gI σ_7 r0 4 10).bind fun x_8 => (rb_pI σ_7 r0 4 10 (x_8 + (1 : Int32))).bind fun σ_9 => some (some (.int (1 : Int32)), σ_9)))
theorem s_Rules_addPrerequisite {E : rb_EV} {d : Nat} (hdd : 0 ≤ d) (r0 : Option Nat) (r1 : Option Nat) (r2 : Option Nat) (σ : rb_St) : rb_Does E k_Rules_addPrerequisite d [va_rf r0, va_rf r1, va_rf r2] σ (f_Rules_addPrerequisite r0 r1 r2 σ) := by
  refine rb_start (lv := [some (va_rf r0), some (va_rf r1), some (va_rf r2)]) (by decide) (by simp [lg_sl, rb_as, lv_args, rb_cat_r, rb_cat_i, rb_cat_l, rb_nL, k_Rules_addPrerequisite]) (fun res => ?_)
  unfold f_Rules_addPrerequisite
  refine rb_TC.mono (rk_aload_n 2 d_Rules_addPrerequisite_0 rfl rfl) ?_
  refine rt_ifnull 13 d_Rules_addPrerequisite_1 (by decide) (fun _ => ?_) (fun _ => ?_)
  · refine rb_TC.mono (rk_iconst (0 : Int32) d_Rules_addPrerequisite_13 (by decide)) ?_
    exact rt_iret (ty := .boolean) rfl (by decide) (fun h => h) d_Rules_addPrerequisite_14
  · refine rb_TC.mono (rk_aload_n 0 d_Rules_addPrerequisite_4 rfl rfl) ?_
    refine rt_gI r0 fw_Rules_55 d_Rules_addPrerequisite_5 (fun x_1 => ?_)
    refine rb_TC.mono (rk_bipush (80 : Int32) d_Rules_addPrerequisite_8 (by decide)) ?_
    refine rt_icmp_ne 15 d_Rules_addPrerequisite_10 (by decide) (fun _ => ?_) (fun _ => ?_)
    · refine rb_TC.mono (rk_iconst (0 : Int32) d_Rules_addPrerequisite_13 (by decide)) ?_
      exact rt_iret (ty := .boolean) rfl (by decide) (fun h => h) d_Rules_addPrerequisite_14
    · refine rb_TC.mono (rk_aload_n 0 d_Rules_addPrerequisite_15 rfl rfl) ?_
      refine rt_gR r0 fw_Rules_35 d_Rules_addPrerequisite_16 (fun r_2 => ?_)
      refine rb_TC.mono (rk_aload_n 0 d_Rules_addPrerequisite_19 rfl rfl) ?_
      refine rt_gI r0 fw_Rules_55 d_Rules_addPrerequisite_20 (fun x_3 => ?_)
      refine rb_TC.mono (rk_aload_n 1 d_Rules_addPrerequisite_23 rfl rfl) ?_
      refine rt_aast (t := 112) r_2 r1 (by decide) d_Rules_addPrerequisite_24 (fun σ_4 => ?_)
      refine rb_TC.mono (rk_aload_n 0 d_Rules_addPrerequisite_25 rfl rfl) ?_
      refine rt_gR r0 fw_Rules_39 d_Rules_addPrerequisite_26 (fun r_5 => ?_)
      refine rb_TC.mono (rk_aload_n 0 d_Rules_addPrerequisite_29 rfl rfl) ?_
      refine rt_gI r0 fw_Rules_55 d_Rules_addPrerequisite_30 (fun x_6 => ?_)
      refine rb_TC.mono (rk_aload_n 2 d_Rules_addPrerequisite_33 rfl rfl) ?_
      refine rt_aast (t := 112) r_5 r2 (by decide) d_Rules_addPrerequisite_34 (fun σ_7 => ?_)
      refine rb_TC.mono (rk_aload_n 0 d_Rules_addPrerequisite_35 rfl rfl) ?_
      refine rb_TC.mono (rk_dupr d_Rules_addPrerequisite_36) ?_
      refine rt_gI r0 fw_Rules_55 d_Rules_addPrerequisite_37 (fun x_8 => ?_)
      refine rb_TC.mono (rk_iconst (1 : Int32) d_Rules_addPrerequisite_40 (by decide)) ?_
      refine rb_TC.mono (rk_iadd d_Rules_addPrerequisite_41) ?_
      refine rt_pI r0 fp_Rules_addPrerequisite_55 d_Rules_addPrerequisite_42 (fun σ_9 => ?_)
      refine rb_TC.mono (rk_iconst (1 : Int32) d_Rules_addPrerequisite_45 (by decide)) ?_
      exact rt_iret (ty := .boolean) rfl (by decide) (fun h => h) d_Rules_addPrerequisite_46
-- ===== RuleBuilder$Rules.commandsOfEnding(Ljava/lang/String;Ljava/lang/String;)I
def k_Rules_commandsOfEnding : rb_MK := (⟨"RuleBuilder$Rules", "commandsOfEnding", "(Ljava/lang/String;Ljava/lang/String;)I"⟩, prog_8_method_9_code, 4, some (.int))
theorem mw_Rules_commandsOfEnding : rb_Mw k_Rules_commandsOfEnding 2 := ⟨rb_inG 1057 (by decide +kernel) rfl, rb_inG 88 (by decide +kernel) rfl, ⟨by decide, by decide, by decide +kernel⟩, by decide⟩
theorem d_Rules_commandsOfEnding_0 : decode prog_8_method_9_code 0 = .ok (.aload_n 0, 1) := by decide +kernel
theorem d_Rules_commandsOfEnding_1 : decode prog_8_method_9_code 1 = .ok (.aload_n 1, 1) := by decide +kernel
theorem d_Rules_commandsOfEnding_2 : decode prog_8_method_9_code 2 = .ok (.aload_n 2, 1) := by decide +kernel
theorem d_Rules_commandsOfEnding_3 : decode prog_8_method_9_code 3 = .ok (.invokevirtual 97, 3) := by decide +kernel
theorem d_Rules_commandsOfEnding_6 : decode prog_8_method_9_code 6 = .ok (.istore_n 3, 1) := by decide +kernel
theorem d_Rules_commandsOfEnding_7 : decode prog_8_method_9_code 7 = .ok (.iload_n 3, 1) := by decide +kernel
theorem d_Rules_commandsOfEnding_8 : decode prog_8_method_9_code 8 = .ok (.iconst (-1), 1) := by decide +kernel
theorem d_Rules_commandsOfEnding_9 : decode prog_8_method_9_code 9 = .ok (.if_icmp .ne 7, 3) := by decide +kernel
theorem d_Rules_commandsOfEnding_12 : decode prog_8_method_9_code 12 = .ok (.iconst (-1), 1) := by decide +kernel
theorem d_Rules_commandsOfEnding_13 : decode prog_8_method_9_code 13 = .ok (.goto 9, 3) := by decide +kernel
theorem d_Rules_commandsOfEnding_16 : decode prog_8_method_9_code 16 = .ok (.aload_n 0, 1) := by decide +kernel
theorem d_Rules_commandsOfEnding_17 : decode prog_8_method_9_code 17 = .ok (.getfield 23, 3) := by decide +kernel
theorem d_Rules_commandsOfEnding_20 : decode prog_8_method_9_code 20 = .ok (.iload_n 3, 1) := by decide +kernel
theorem d_Rules_commandsOfEnding_21 : decode prog_8_method_9_code 21 = .ok (.iaload, 1) := by decide +kernel
theorem d_Rules_commandsOfEnding_22 : decode prog_8_method_9_code 22 = .ok (.ireturn, 1) := by decide +kernel
noncomputable def f_Rules_commandsOfEnding (r0 : Option Nat) (r1 : Option Nat) (r2 : Option Nat) (σ : rb_St) : Option rb_Rs :=
  (rb_fc σ r0 4).bind fun _ => rb_cI (f_Rules_findEnding (r0) (r1) (r2) σ) fun x_1 σ_2 => if x_1 = (-1 : Int32) then (some (some (.int (-1 : Int32)), σ_2)) else ((rb_gR σ_2 r0 4 4).bind fun r_3 => (rb_aI σ_2 r_3 102 x_1).bind fun x_4 => some (some (.int x_4), σ_2))
theorem s_Rules_commandsOfEnding {E : rb_EV} {d : Nat} (hdd : 3 ≤ d) (r0 : Option Nat) (r1 : Option Nat) (r2 : Option Nat) (σ : rb_St) : rb_Does E k_Rules_commandsOfEnding d [va_rf r0, va_rf r1, va_rf r2] σ (f_Rules_commandsOfEnding r0 r1 r2 σ) := by
  refine rb_start (lv := [some (va_rf r0), some (va_rf r1), some (va_rf r2), none]) (by decide) (by simp [lg_sl, rb_as, lv_args, rb_cat_r, rb_cat_i, rb_cat_l, rb_nL, k_Rules_commandsOfEnding]) (fun res => ?_)
  unfold f_Rules_commandsOfEnding
  refine rb_TC.mono (rk_aload_n 0 d_Rules_commandsOfEnding_0 rfl rfl) ?_
  refine rb_TC.mono (rk_aload_n 1 d_Rules_commandsOfEnding_1 rfl rfl) ?_
  refine rb_TC.mono (rk_aload_n 2 d_Rules_commandsOfEnding_2 rfl rfl) ?_
  refine rt_vI (As := [va_rf r1, va_rf r2]) (st := []) (r0) vw_Rules_97 (s_Rules_findEnding (Nat.le_refl _) (r0) (r1) (r2) σ) (Nat.le_trans (by decide) hdd) rfl (by simp [rb_cat_r, rb_cat_i, rb_cat_l]) d_Rules_commandsOfEnding_3 (fun x_1 σ_2 => ?_)
  refine rb_TC.mono (rk_istore_n (lv2 := [some (va_rf r0), some (va_rf r1), some (va_rf r2), some (.int x_1)]) 3 d_Rules_commandsOfEnding_6 rfl (by decide) (fun _ => rb_one_r) rfl) ?_
  refine rb_TC.mono (rk_iload_n 3 d_Rules_commandsOfEnding_7 rfl rfl) ?_
  refine rb_TC.mono (rk_iconst (-1 : Int32) d_Rules_commandsOfEnding_8 (by decide)) ?_
  refine rt_icmp_ne 16 d_Rules_commandsOfEnding_9 (by decide) (fun _ => ?_) (fun _ => ?_)
  · refine rb_TC.mono (rk_iconst (-1 : Int32) d_Rules_commandsOfEnding_12 (by decide)) ?_
    refine rb_TC.mono (rk_goto 22 d_Rules_commandsOfEnding_13 (by decide)) ?_
    exact rt_iret (ty := .int) rfl rfl (fun h => h) d_Rules_commandsOfEnding_22
  · refine rb_TC.mono (rk_aload_n 0 d_Rules_commandsOfEnding_16 rfl rfl) ?_
    refine rt_gR r0 fw_Rules_23 d_Rules_commandsOfEnding_17 (fun r_3 => ?_)
    refine rb_TC.mono (rk_iload_n 3 d_Rules_commandsOfEnding_20 rfl rfl) ?_
    refine rt_iald r_3 d_Rules_commandsOfEnding_21 (fun x_4 => ?_)
    exact rt_iret (ty := .int) rfl rfl (fun h => h) d_Rules_commandsOfEnding_22
-- ===== RuleBuilder$Rules.commandOf(II)LRuleBuilder$Command;
def k_Rules_commandOf : rb_MK := (⟨"RuleBuilder$Rules", "commandOf", "(II)LRuleBuilder$Command;"⟩, prog_8_method_13_code, 3, some (.object "RuleBuilder$Command"))
theorem mw_Rules_commandOf : rb_Mw k_Rules_commandOf 2 := ⟨rb_inG 1102 (by decide +kernel) rfl, rb_inG 88 (by decide +kernel) rfl, ⟨by decide, by decide, by decide +kernel⟩, by decide⟩
theorem fw_Rules_108 : rb_Fw "RuleBuilder$Rules" 108 11 1 := ⟨_, rfl, by decide, by decide, by decide, rfl, rb_inG 682 (by decide +kernel) rfl⟩
theorem d_Rules_commandOf_0 : decode prog_8_method_13_code 0 = .ok (.iload_n 2, 1) := by decide +kernel
theorem d_Rules_commandOf_1 : decode prog_8_method_13_code 1 = .ok (.ifCond .lt 33, 3) := by decide +kernel
theorem d_Rules_commandOf_4 : decode prog_8_method_13_code 4 = .ok (.iload_n 2, 1) := by decide +kernel
theorem d_Rules_commandOf_5 : decode prog_8_method_13_code 5 = .ok (.aload_n 0, 1) := by decide +kernel
theorem d_Rules_commandOf_6 : decode prog_8_method_13_code 6 = .ok (.getfield 52, 3) := by decide +kernel
theorem d_Rules_commandOf_9 : decode prog_8_method_13_code 9 = .ok (.if_icmp .ge 25, 3) := by decide +kernel
theorem d_Rules_commandOf_12 : decode prog_8_method_13_code 12 = .ok (.aload_n 0, 1) := by decide +kernel
theorem d_Rules_commandOf_13 : decode prog_8_method_13_code 13 = .ok (.getfield 29, 3) := by decide +kernel
theorem d_Rules_commandOf_16 : decode prog_8_method_13_code 16 = .ok (.iload_n 2, 1) := by decide +kernel
theorem d_Rules_commandOf_17 : decode prog_8_method_13_code 17 = .ok (.aaload, 1) := by decide +kernel
theorem d_Rules_commandOf_18 : decode prog_8_method_13_code 18 = .ok (.getfield 108, 3) := by decide +kernel
theorem d_Rules_commandOf_21 : decode prog_8_method_13_code 21 = .ok (.iload_n 1, 1) := by decide +kernel
theorem d_Rules_commandOf_22 : decode prog_8_method_13_code 22 = .ok (.if_icmp .ne 12, 3) := by decide +kernel
theorem d_Rules_commandOf_25 : decode prog_8_method_13_code 25 = .ok (.aload_n 0, 1) := by decide +kernel
theorem d_Rules_commandOf_26 : decode prog_8_method_13_code 26 = .ok (.getfield 29, 3) := by decide +kernel
theorem d_Rules_commandOf_29 : decode prog_8_method_13_code 29 = .ok (.iload_n 2, 1) := by decide +kernel
theorem d_Rules_commandOf_30 : decode prog_8_method_13_code 30 = .ok (.aaload, 1) := by decide +kernel
theorem d_Rules_commandOf_31 : decode prog_8_method_13_code 31 = .ok (.goto 4, 3) := by decide +kernel
theorem d_Rules_commandOf_34 : decode prog_8_method_13_code 34 = .ok (.aconst_null, 1) := by decide +kernel
theorem d_Rules_commandOf_35 : decode prog_8_method_13_code 35 = .ok (.areturn, 1) := by decide +kernel
noncomputable def f_Rules_commandOf (r0 : Option Nat) (x1 : Int32) (x2 : Int32) (σ : rb_St) : Option rb_Rs :=
  if x2 < 0 then (some (some (va_rf none), σ)) else ((rb_gI σ r0 4 7).bind fun x_1 => if x_1 ≤ x2 then (some (some (va_rf none), σ)) else ((rb_gR σ r0 4 6).bind fun r_2 => (rb_aR σ r_2 113 x2).bind fun r_3 => (rb_gI σ r_3 11 1).bind fun x_4 => if x_4 = x1 then ((rb_gR σ r0 4 6).bind fun r_5 => (rb_aR σ r_5 113 x2).bind fun r_6 => some (some (va_rf r_6), σ)) else (some (some (va_rf none), σ))))
theorem s_Rules_commandOf {E : rb_EV} {d : Nat} (hdd : 0 ≤ d) (r0 : Option Nat) (x1 : Int32) (x2 : Int32) (σ : rb_St) : rb_Does E k_Rules_commandOf d [va_rf r0, .int x1, .int x2] σ (f_Rules_commandOf r0 x1 x2 σ) := by
  refine rb_start (lv := [some (va_rf r0), some (.int x1), some (.int x2)]) (by decide) (by simp [lg_sl, rb_as, lv_args, rb_cat_r, rb_cat_i, rb_cat_l, rb_nL, k_Rules_commandOf]) (fun res => ?_)
  unfold f_Rules_commandOf
  refine rb_TC.mono (rk_iload_n 2 d_Rules_commandOf_0 rfl rfl) ?_
  refine rt_if_lt 34 d_Rules_commandOf_1 (by decide) (fun _ => ?_) (fun _ => ?_)
  · refine rb_TC.mono (rk_null d_Rules_commandOf_34) ?_
    exact rt_aret (ty := .object "RuleBuilder$Command") rfl (Or.inl ⟨_, rfl⟩) (fun h => h) d_Rules_commandOf_35
  · refine rb_TC.mono (rk_iload_n 2 d_Rules_commandOf_4 rfl rfl) ?_
    refine rb_TC.mono (rk_aload_n 0 d_Rules_commandOf_5 rfl rfl) ?_
    refine rt_gI r0 fw_Rules_52 d_Rules_commandOf_6 (fun x_1 => ?_)
    refine rt_icmp_ge 34 d_Rules_commandOf_9 (by decide) (fun _ => ?_) (fun _ => ?_)
    · refine rb_TC.mono (rk_null d_Rules_commandOf_34) ?_
      exact rt_aret (ty := .object "RuleBuilder$Command") rfl (Or.inl ⟨_, rfl⟩) (fun h => h) d_Rules_commandOf_35
    · refine rb_TC.mono (rk_aload_n 0 d_Rules_commandOf_12 rfl rfl) ?_
      refine rt_gR r0 fw_Rules_29 d_Rules_commandOf_13 (fun r_2 => ?_)
      refine rb_TC.mono (rk_iload_n 2 d_Rules_commandOf_16 rfl rfl) ?_
      refine rt_aald (t := 113) r_2 (by decide) d_Rules_commandOf_17 (fun r_3 => ?_)
      refine rt_gI r_3 fw_Rules_108 d_Rules_commandOf_18 (fun x_4 => ?_)
      refine rb_TC.mono (rk_iload_n 1 d_Rules_commandOf_21 rfl rfl) ?_
      refine rt_icmp_ne 34 d_Rules_commandOf_22 (by decide) (fun _ => ?_) (fun _ => ?_)
      · refine rb_TC.mono (rk_aload_n 0 d_Rules_commandOf_25 rfl rfl) ?_
        refine rt_gR r0 fw_Rules_29 d_Rules_commandOf_26 (fun r_5 => ?_)
        refine rb_TC.mono (rk_iload_n 2 d_Rules_commandOf_29 rfl rfl) ?_
        refine rt_aald (t := 113) r_5 (by decide) d_Rules_commandOf_30 (fun r_6 => ?_)
        refine rb_TC.mono (rk_goto 35 d_Rules_commandOf_31 (by decide)) ?_
        exact rt_aret (ty := .object "RuleBuilder$Command") rfl (Or.inl ⟨_, rfl⟩) (fun h => h) d_Rules_commandOf_35
      · refine rb_TC.mono (rk_null d_Rules_commandOf_34) ?_
        exact rt_aret (ty := .object "RuleBuilder$Command") rfl (Or.inl ⟨_, rfl⟩) (fun h => h) d_Rules_commandOf_35
