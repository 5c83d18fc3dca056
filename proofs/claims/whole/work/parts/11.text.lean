theorem w_oi : Cond.instanceMethod Lib.objectInit ∈ rb_G := rb_inG 111 (by decide +kernel) rfl
theorem w_oc : Cond.code Lib.objectInit ⟨#[0xb1]⟩ 1 none ∈ rb_G := rb_inG 112 (by decide +kernel) rfl
-- ===== RuleBuilder$Text.<init>(I)V
def k_Text_init : rb_MK := (⟨"RuleBuilder$Text", "<init>", "(I)V"⟩, prog_11_method_1_code, 2, none)
theorem mw_Text_init : rb_Mw k_Text_init 1 := ⟨rb_inG 117 (by decide +kernel) rfl, rb_inG 86 (by decide +kernel) rfl, ⟨by decide, by decide, by decide +kernel⟩, by decide⟩
theorem w_ac_char : Cond.arrayClass (newarray.typeOf .char) ∈ rb_G := rb_inG 126 (by decide +kernel) rfl
theorem fw_Text_7 : rb_Fw "RuleBuilder$Text" 7 2 0 := ⟨_, rfl, by decide, by decide, by decide, rfl, rb_inG 119 (by decide +kernel) rfl⟩
theorem fp_Text_init_7 : rb_Fp k_Text_init 7 2 0 (.array .char) ∧ ((∃ n, (.array .char : FieldType) = .object n) ∨ ∃ t, (.array .char : FieldType) = .array t) := ⟨⟨fw_Text_7, rfl, fun q h => by cases h; exact Or.inr ⟨rfl, rfl, rfl⟩⟩, Or.inr ⟨_, rfl⟩⟩
theorem w_ml_Text_1 : Cond.methodLink "RuleBuilder$Text" 1 Lib.objectInit ∈ rb_G := rb_inG 118 (by decide +kernel) rfl
theorem d_Text_init_0 : decode prog_11_method_1_code 0 = .ok (.aload_n 0, 1) := by decide +kernel
theorem d_Text_init_1 : decode prog_11_method_1_code 1 = .ok (.invokespecial 1, 3) := by decide +kernel
theorem d_Text_init_4 : decode prog_11_method_1_code 4 = .ok (.aload_n 0, 1) := by decide +kernel
theorem d_Text_init_5 : decode prog_11_method_1_code 5 = .ok (.iload_n 1, 1) := by decide +kernel
theorem d_Text_init_6 : decode prog_11_method_1_code 6 = .ok (.newarray .char, 2) := by decide +kernel
theorem d_Text_init_8 : decode prog_11_method_1_code 8 = .ok (.putfield 7, 3) := by decide +kernel
theorem d_Text_init_11 : decode prog_11_method_1_code 11 = .ok (.return_, 1) := by decide +kernel
noncomputable def f_Text_init (a0 : Nat) (x1 : Int32) (σ : rb_St) : Option rb_Rs :=
  (rb_nA σ 101 x1).bind fun σ_1 => (rb_pR σ_1 (some a0) 2 0 (some (rb_n σ))).bind fun σ_2 => some (none, σ_2)
theorem s_Text_init {E : rb_EV} {d : Nat} (hdd : 1 ≤ d) (a0 : Nat) (x1 : Int32) (σ : rb_St) : rb_Does E k_Text_init d [va_rf (some a0), .int x1] σ (f_Text_init a0 x1 σ) := by
  refine rb_start (lv := [some (va_rf (some a0)), some (.int x1)]) (by decide) (by simp [lg_sl, rb_as, lv_args, rb_cat_r, rb_cat_i, rb_cat_l, rb_nL, k_Text_init]) (fun res => ?_)
  unfold f_Text_init
  refine rb_TC.mono (rk_aload_n 0 d_Text_init_0 rfl rfl) ?_
  refine rb_TC.mono (rk_objInit w_ml_Text_1 w_oi w_oc (Nat.le_trans (by decide) hdd) (by simp [rb_cat_r, rb_cat_i, rb_cat_l]) d_Text_init_1 rfl) ?_
  refine rb_TC.mono (rk_aload_n 0 d_Text_init_4 rfl rfl) ?_
  refine rb_TC.mono (rk_iload_n 1 d_Text_init_5 rfl rfl) ?_
  refine rt_newa (t := 101) ⟨by decide, rfl, w_ac_char⟩ d_Text_init_6 (fun σ_1 => ?_)
  refine rt_pR (some a0) fp_Text_init_7 d_Text_init_8 (fun σ_2 => ?_)
  exact rt_vret rfl (fun h => h) d_Text_init_11
-- ===== RuleBuilder$Text.add(C)Z
def k_Text_add : rb_MK := (⟨"RuleBuilder$Text", "add", "(C)Z"⟩, prog_11_method_6_code, 2, some (.boolean))
theorem mw_Text_add : rb_Mw k_Text_add 1 := ⟨rb_inG 394 (by decide +kernel) rfl, rb_inG 86 (by decide +kernel) rfl, ⟨by decide, by decide, by decide +kernel⟩, by decide⟩
theorem fw_Text_13 : rb_Fw "RuleBuilder$Text" 13 2 1 := ⟨_, rfl, by decide, by decide, by decide, rfl, rb_inG 120 (by decide +kernel) rfl⟩
theorem fp_Text_add_13 : rb_Fp k_Text_add 13 2 1 .int := ⟨fw_Text_13, rfl, fun q h => by cases h; exact Or.inl rfl⟩
theorem d_Text_add_0 : decode prog_11_method_6_code 0 = .ok (.aload_n 0, 1) := by decide +kernel
theorem d_Text_add_1 : decode prog_11_method_6_code 1 = .ok (.getfield 13, 3) := by decide +kernel
theorem d_Text_add_4 : decode prog_11_method_6_code 4 = .ok (.aload_n 0, 1) := by decide +kernel
theorem d_Text_add_5 : decode prog_11_method_6_code 5 = .ok (.getfield 7, 3) := by decide +kernel
theorem d_Text_add_8 : decode prog_11_method_6_code 8 = .ok (.arraylength, 1) := by decide +kernel
theorem d_Text_add_9 : decode prog_11_method_6_code 9 = .ok (.if_icmp .ne 5, 3) := by decide +kernel
theorem d_Text_add_12 : decode prog_11_method_6_code 12 = .ok (.iconst 0, 1) := by decide +kernel
theorem d_Text_add_13 : decode prog_11_method_6_code 13 = .ok (.ireturn, 1) := by decide +kernel
theorem d_Text_add_14 : decode prog_11_method_6_code 14 = .ok (.aload_n 0, 1) := by decide +kernel
theorem d_Text_add_15 : decode prog_11_method_6_code 15 = .ok (.getfield 7, 3) := by decide +kernel
theorem d_Text_add_18 : decode prog_11_method_6_code 18 = .ok (.aload_n 0, 1) := by decide +kernel
theorem d_Text_add_19 : decode prog_11_method_6_code 19 = .ok (.getfield 13, 3) := by decide +kernel
theorem d_Text_add_22 : decode prog_11_method_6_code 22 = .ok (.iload_n 1, 1) := by decide +kernel
theorem d_Text_add_23 : decode prog_11_method_6_code 23 = .ok (.castore, 1) := by decide +kernel
theorem d_Text_add_24 : decode prog_11_method_6_code 24 = .ok (.aload_n 0, 1) := by decide +kernel
theorem d_Text_add_25 : decode prog_11_method_6_code 25 = .ok (.dup, 1) := by decide +kernel
theorem d_Text_add_26 : decode prog_11_method_6_code 26 = .ok (.getfield 13, 3) := by decide +kernel
theorem d_Text_add_29 : decode prog_11_method_6_code 29 = .ok (.iconst 1, 1) := by decide +kernel
theorem d_Text_add_30 : decode prog_11_method_6_code 30 = .ok (.iadd, 1) := by decide +kernel
theorem d_Text_add_31 : decode prog_11_method_6_code 31 = .ok (.putfield 13, 3) := by decide +kernel
theorem d_Text_add_34 : decode prog_11_method_6_code 34 = .ok (.iconst 1, 1) := by decide +kernel
theorem d_Text_add_35 : decode prog_11_method_6_code 35 = .ok (.ireturn, 1) := by decide +kernel
noncomputable def f_Text_add (r0 : Option Nat) (x1 : Int32) (σ : rb_St) : Option rb_Rs :=
  (rb_gI σ r0 2 1).bind fun x_1 => (rb_gR σ r0 2 0).bind fun r_2 => (rb_len σ r_2 101).bind fun x_3 => if x_1 = x_3 then (some (some (.int (0 : Int32)), σ)) else ((rb_gR σ r0 2 0).bind fun r_4 => (rb_gI σ r0 2 1).bind fun x_5 => (rb_sI σ r_4 101 x_5 x1).bind fun σ_6 => (rb_gI σ_6 r0 2 1).bind fun x_7 => (rb_pI σ_6 r0 2 1 (x_7 + (1 : Int32))).bind fun σ_8 => some (some (.int (1 : Int32)), σ_8))
theorem s_Text_add {E : rb_EV} {d : Nat} (hdd : 0 ≤ d) (r0 : Option Nat) (x1 : Int32) (σ : rb_St) : rb_Does E k_Text_add d [va_rf r0, .int x1] σ (f_Text_add r0 x1 σ) := by
  refine rb_start (lv := [some (va_rf r0), some (.int x1)]) (by decide) (by simp [lg_sl, rb_as, lv_args, rb_cat_r, rb_cat_i, rb_cat_l, rb_nL, k_Text_add]) (fun res => ?_)
  unfold f_Text_add
  refine rb_TC.mono (rk_aload_n 0 d_Text_add_0 rfl rfl) ?_
  refine rt_gI r0 fw_Text_13 d_Text_add_1 (fun x_1 => ?_)
  refine rb_TC.mono (rk_aload_n 0 d_Text_add_4 rfl rfl) ?_
  refine rt_gR r0 fw_Text_7 d_Text_add_5 (fun r_2 => ?_)
  refine rt_len (t := 101) r_2 (by decide) d_Text_add_8 (fun x_3 => ?_)
  refine rt_icmp_ne 14 d_Text_add_9 (by decide) (fun _ => ?_) (fun _ => ?_)
  · refine rb_TC.mono (rk_iconst (0 : Int32) d_Text_add_12 (by decide)) ?_
    exact rt_iret (ty := .boolean) rfl (by decide) (fun h => h) d_Text_add_13
  · refine rb_TC.mono (rk_aload_n 0 d_Text_add_14 rfl rfl) ?_
    refine rt_gR r0 fw_Text_7 d_Text_add_15 (fun r_4 => ?_)
    refine rb_TC.mono (rk_aload_n 0 d_Text_add_18 rfl rfl) ?_
    refine rt_gI r0 fw_Text_13 d_Text_add_19 (fun x_5 => ?_)
    refine rb_TC.mono (rk_iload_n 1 d_Text_add_22 rfl rfl) ?_
    refine rt_cast r_4 d_Text_add_23 (fun σ_6 => ?_)
    refine rb_TC.mono (rk_aload_n 0 d_Text_add_24 rfl rfl) ?_
    refine rb_TC.mono (rk_dupr d_Text_add_25) ?_
    refine rt_gI r0 fw_Text_13 d_Text_add_26 (fun x_7 => ?_)
    refine rb_TC.mono (rk_iconst (1 : Int32) d_Text_add_29 (by decide)) ?_
    refine rb_TC.mono (rk_iadd d_Text_add_30) ?_
    refine rt_pI r0 fp_Text_add_13 d_Text_add_31 (fun σ_8 => ?_)
    refine rb_TC.mono (rk_iconst (1 : Int32) d_Text_add_34 (by decide)) ?_
    exact rt_iret (ty := .boolean) rfl (by decide) (fun h => h) d_Text_add_35
-- ===== RuleBuilder$Text.clear()V
def k_Text_clear : rb_MK := (⟨"RuleBuilder$Text", "clear", "()V"⟩, prog_11_method_3_code, 1, none)
theorem mw_Text_clear : rb_Mw k_Text_clear 0 := ⟨rb_inG 402 (by decide +kernel) rfl, rb_inG 86 (by decide +kernel) rfl, ⟨by decide, by decide, by decide +kernel⟩, by decide⟩
theorem fp_Text_clear_13 : rb_Fp k_Text_clear 13 2 1 .int := ⟨fw_Text_13, rfl, fun q h => by cases h; exact Or.inl rfl⟩
theorem d_Text_clear_0 : decode prog_11_method_3_code 0 = .ok (.aload_n 0, 1) := by decide +kernel
theorem d_Text_clear_1 : decode prog_11_method_3_code 1 = .ok (.iconst 0, 1) := by decide +kernel
theorem d_Text_clear_2 : decode prog_11_method_3_code 2 = .ok (.putfield 13, 3) := by decide +kernel
theorem d_Text_clear_5 : decode prog_11_method_3_code 5 = .ok (.return_, 1) := by decide +kernel
noncomputable def f_Text_clear (r0 : Option Nat) (σ : rb_St) : Option rb_Rs :=
  (rb_pI σ r0 2 1 (0 : Int32)).bind fun σ_1 => some (none, σ_1)
theorem s_Text_clear {E : rb_EV} {d : Nat} (hdd : 0 ≤ d) (r0 : Option Nat) (σ : rb_St) : rb_Does E k_Text_clear d [va_rf r0] σ (f_Text_clear r0 σ) := by
  refine rb_start (lv := [some (va_rf r0)]) (by decide) (by simp [lg_sl, rb_as, lv_args, rb_cat_r, rb_cat_i, rb_cat_l, rb_nL, k_Text_clear]) (fun res => ?_)
  unfold f_Text_clear
  refine rb_TC.mono (rk_aload_n 0 d_Text_clear_0 rfl rfl) ?_
  refine rb_TC.mono (rk_iconst (0 : Int32) d_Text_clear_1 (by decide)) ?_
  refine rt_pI r0 fp_Text_clear_13 d_Text_clear_2 (fun σ_1 => ?_)
  exact rt_vret rfl (fun h => h) d_Text_clear_5
-- ===== RuleBuilder$Text.length()I
def k_Text_length : rb_MK := (⟨"RuleBuilder$Text", "length", "()I"⟩, prog_11_method_2_code, 1, some (.int))
theorem mw_Text_length : rb_Mw k_Text_length 0 := ⟨rb_inG 410 (by decide +kernel) rfl, rb_inG 86 (by decide +kernel) rfl, ⟨by decide, by decide, by decide +kernel⟩, by decide⟩
theorem d_Text_length_0 : decode prog_11_method_2_code 0 = .ok (.aload_n 0, 1) := by decide +kernel
theorem d_Text_length_1 : decode prog_11_method_2_code 1 = .ok (.getfield 13, 3) := by decide +kernel
theorem d_Text_length_4 : decode prog_11_method_2_code 4 = .ok (.ireturn, 1) := by decide +kernel
noncomputable def f_Text_length (r0 : Option Nat) (σ : rb_St) : Option rb_Rs :=
  (rb_gI σ r0 2 1).bind fun x_1 => some (some (.int x_1), σ)
theorem s_Text_length {E : rb_EV} {d : Nat} (hdd : 0 ≤ d) (r0 : Option Nat) (σ : rb_St) : rb_Does E k_Text_length d [va_rf r0] σ (f_Text_length r0 σ) := by
  refine rb_start (lv := [some (va_rf r0)]) (by decide) (by simp [lg_sl, rb_as, lv_args, rb_cat_r, rb_cat_i, rb_cat_l, rb_nL, k_Text_length]) (fun res => ?_)
  unfold f_Text_length
  refine rb_TC.mono (rk_aload_n 0 d_Text_length_0 rfl rfl) ?_
  refine rt_gI r0 fw_Text_13 d_Text_length_1 (fun x_1 => ?_)
  exact rt_iret (ty := .int) rfl rfl (fun h => h) d_Text_length_4
-- ===== RuleBuilder$Text.at(I)C
def k_Text_at : rb_MK := (⟨"RuleBuilder$Text", "at", "(I)C"⟩, prog_11_method_4_code, 2, some (.char))
theorem mw_Text_at : rb_Mw k_Text_at 1 := ⟨rb_inG 417 (by decide +kernel) rfl, rb_inG 86 (by decide +kernel) rfl, ⟨by decide, by decide, by decide +kernel⟩, by decide⟩
theorem d_Text_at_0 : decode prog_11_method_4_code 0 = .ok (.iload_n 1, 1) := by decide +kernel
theorem d_Text_at_1 : decode prog_11_method_4_code 1 = .ok (.ifCond .lt 11, 3) := by decide +kernel
theorem d_Text_at_4 : decode prog_11_method_4_code 4 = .ok (.iload_n 1, 1) := by decide +kernel
theorem d_Text_at_5 : decode prog_11_method_4_code 5 = .ok (.aload_n 0, 1) := by decide +kernel
theorem d_Text_at_6 : decode prog_11_method_4_code 6 = .ok (.getfield 13, 3) := by decide +kernel
theorem d_Text_at_9 : decode prog_11_method_4_code 9 = .ok (.if_icmp .lt 7, 3) := by decide +kernel
theorem d_Text_at_12 : decode prog_11_method_4_code 12 = .ok (.iconst 0, 1) := by decide +kernel
theorem d_Text_at_13 : decode prog_11_method_4_code 13 = .ok (.goto 9, 3) := by decide +kernel
theorem d_Text_at_16 : decode prog_11_method_4_code 16 = .ok (.aload_n 0, 1) := by decide +kernel
theorem d_Text_at_17 : decode prog_11_method_4_code 17 = .ok (.getfield 7, 3) := by decide +kernel
theorem d_Text_at_20 : decode prog_11_method_4_code 20 = .ok (.iload_n 1, 1) := by decide +kernel
theorem d_Text_at_21 : decode prog_11_method_4_code 21 = .ok (.caload, 1) := by decide +kernel
theorem d_Text_at_22 : decode prog_11_method_4_code 22 = .ok (.ireturn, 1) := by decide +kernel
noncomputable def f_Text_at (r0 : Option Nat) (x1 : Int32) (σ : rb_St) : Option rb_Rs :=
  if x1 < 0 then (some (some (.int (0 : Int32)), σ)) else ((rb_gI σ r0 2 1).bind fun x_1 => if x1 < x_1 then ((rb_gR σ r0 2 0).bind fun r_2 => (rb_aI σ r_2 101 x1).bind fun x_3 => if rb_isC x_3 then some (some (.int x_3), σ) else none) else (some (some (.int (0 : Int32)), σ)))
theorem s_Text_at {E : rb_EV} {d : Nat} (hdd : 0 ≤ d) (r0 : Option Nat) (x1 : Int32) (σ : rb_St) : rb_Does E k_Text_at d [va_rf r0, .int x1] σ (f_Text_at r0 x1 σ) := by
  refine rb_start (lv := [some (va_rf r0), some (.int x1)]) (by decide) (by simp [lg_sl, rb_as, lv_args, rb_cat_r, rb_cat_i, rb_cat_l, rb_nL, k_Text_at]) (fun res => ?_)
  unfold f_Text_at
  refine rb_TC.mono (rk_iload_n 1 d_Text_at_0 rfl rfl) ?_
  refine rt_if_lt 12 d_Text_at_1 (by decide) (fun _ => ?_) (fun _ => ?_)
  · refine rb_TC.mono (rk_iconst (0 : Int32) d_Text_at_12 (by decide)) ?_
    refine rb_TC.mono (rk_goto 22 d_Text_at_13 (by decide)) ?_
    exact rt_iret (ty := .char) rfl (by decide) (fun h => h) d_Text_at_22
  · refine rb_TC.mono (rk_iload_n 1 d_Text_at_4 rfl rfl) ?_
    refine rb_TC.mono (rk_aload_n 0 d_Text_at_5 rfl rfl) ?_
    refine rt_gI r0 fw_Text_13 d_Text_at_6 (fun x_1 => ?_)
    refine rt_icmp_lt 16 d_Text_at_9 (by decide) (fun _ => ?_) (fun _ => ?_)
    · refine rb_TC.mono (rk_aload_n 0 d_Text_at_16 rfl rfl) ?_
      refine rt_gR r0 fw_Text_7 d_Text_at_17 (fun r_2 => ?_)
      refine rb_TC.mono (rk_iload_n 1 d_Text_at_20 rfl rfl) ?_
      refine rt_cald r_2 d_Text_at_21 (fun x_3 => ?_)
      refine rb_TC.ite (fun hn => ?_) (fun _ => rb_TC.none)
      exact rt_iret (ty := .char) rfl (rb_nar_C hn) (fun h => h) d_Text_at_22
    · refine rb_TC.mono (rk_iconst (0 : Int32) d_Text_at_12 (by decide)) ?_
      refine rb_TC.mono (rk_goto 22 d_Text_at_13 (by decide)) ?_
      exact rt_iret (ty := .char) rfl (by decide) (fun h => h) d_Text_at_22
-- ===== RuleBuilder$Text.indexOf(C)I
def k_Text_indexOf : rb_MK := (⟨"RuleBuilder$Text", "indexOf", "(C)I"⟩, prog_11_method_5_code, 3, some (.int))
theorem mw_Text_indexOf : rb_Mw k_Text_indexOf 1 := ⟨rb_inG 424 (by decide +kernel) rfl, rb_inG 86 (by decide +kernel) rfl, ⟨by decide, by decide, by decide +kernel⟩, by decide⟩
theorem d_Text_indexOf_0 : decode prog_11_method_5_code 0 = .ok (.iconst 0, 1) := by decide +kernel
theorem d_Text_indexOf_1 : decode prog_11_method_5_code 1 = .ok (.istore_n 2, 1) := by decide +kernel
theorem d_Text_indexOf_2 : decode prog_11_method_5_code 2 = .ok (.iload_n 2, 1) := by decide +kernel
theorem d_Text_indexOf_3 : decode prog_11_method_5_code 3 = .ok (.aload_n 0, 1) := by decide +kernel
theorem d_Text_indexOf_4 : decode prog_11_method_5_code 4 = .ok (.getfield 13, 3) := by decide +kernel
theorem d_Text_indexOf_7 : decode prog_11_method_5_code 7 = .ok (.if_icmp .ge 19, 3) := by decide +kernel
theorem d_Text_indexOf_10 : decode prog_11_method_5_code 10 = .ok (.aload_n 0, 1) := by decide +kernel
theorem d_Text_indexOf_11 : decode prog_11_method_5_code 11 = .ok (.getfield 7, 3) := by decide +kernel
theorem d_Text_indexOf_14 : decode prog_11_method_5_code 14 = .ok (.iload_n 2, 1) := by decide +kernel
theorem d_Text_indexOf_15 : decode prog_11_method_5_code 15 = .ok (.caload, 1) := by decide +kernel
theorem d_Text_indexOf_16 : decode prog_11_method_5_code 16 = .ok (.iload_n 1, 1) := by decide +kernel
theorem d_Text_indexOf_17 : decode prog_11_method_5_code 17 = .ok (.if_icmp .eq 9, 3) := by decide +kernel
theorem d_Text_indexOf_20 : decode prog_11_method_5_code 20 = .ok (.iinc 2 1, 3) := by decide +kernel
theorem d_Text_indexOf_23 : decode prog_11_method_5_code 23 = .ok (.goto (-21), 3) := by decide +kernel
theorem d_Text_indexOf_26 : decode prog_11_method_5_code 26 = .ok (.iload_n 2, 1) := by decide +kernel
theorem d_Text_indexOf_27 : decode prog_11_method_5_code 27 = .ok (.ireturn, 1) := by decide +kernel
noncomputable def f_Text_indexOf_j26 (x2 : Int32) (σ : rb_St) : Option rb_Rs :=
  some (some (.int x2), σ)
theorem t_Text_indexOf_j26 {E : rb_EV} {d : Nat} {σ0 : rb_St} {res : rb_Rs} (hdd : 0 ≤ d)  (x2 : Int32) (σ : rb_St) : rb_TC (f_Text_indexOf_j26 x2 σ) (fun r => r = res) (rb_WK E k_Text_indexOf d σ0 res 26 [none, none, some (.int x2)] [] σ) := by
  unfold f_Text_indexOf_j26
  refine rb_TC.mono (rk_iload_n 2 d_Text_indexOf_26 rfl rfl) ?_
  exact rt_iret (ty := .int) rfl rfl (fun h => h) d_Text_indexOf_27
noncomputable def f_Text_indexOf_b2 (r0 : Option Nat) (x1 : Int32) (x2 : Int32) (σ : rb_St) : Option ((Int32) ⊕ rb_Rs) :=
  (rb_gI σ r0 2 1).bind fun x_1 => if x_1 ≤ x2 then ((f_Text_indexOf_j26 (x2) σ).map Sum.inr) else ((rb_gR σ r0 2 0).bind fun r_2 => (rb_aI σ r_2 101 x2).bind fun x_3 => if x_3 = x1 then ((f_Text_indexOf_j26 (x2) σ).map Sum.inr) else (some (.inl (x2 + 1))))
theorem t_Text_indexOf_b2 {E : rb_EV} {d : Nat} {σ0 : rb_St} {res : rb_Rs} (hdd : 0 ≤ d)  (r0 : Option Nat) (x1 : Int32) (x2 : Int32) (σ : rb_St) : rb_TC (f_Text_indexOf_b2 r0 x1 x2 σ) (Sum.elim (fun z : (Int32) => rb_WK E k_Text_indexOf d σ0 res 2 [some (va_rf r0), some (.int x1), some (.int z)] [] σ) (fun r => r = res)) (rb_WK E k_Text_indexOf d σ0 res 2 [some (va_rf r0), some (.int x1), some (.int x2)] [] σ) := by
  unfold f_Text_indexOf_b2
  refine rb_TC.mono (rk_iload_n 2 d_Text_indexOf_2 rfl rfl) ?_
  refine rb_TC.mono (rk_aload_n 0 d_Text_indexOf_3 rfl rfl) ?_
  refine rt_gI r0 fw_Text_13 d_Text_indexOf_4 (fun x_1 => ?_)
  refine rt_icmp_ge 26 d_Text_indexOf_7 (by decide) (fun _ => ?_) (fun _ => ?_)
  · refine rb_TC.out ?_
    refine rb_TC.mono (rk_less (lv2 := [none, none, some (.int x2)]) (rb_le_ok (rb_leN (rb_leN (rb_leS rb_le0))))) ?_
    exact t_Text_indexOf_j26 hdd  (x2) σ
  · refine rb_TC.mono (rk_aload_n 0 d_Text_indexOf_10 rfl rfl) ?_
    refine rt_gR r0 fw_Text_7 d_Text_indexOf_11 (fun r_2 => ?_)
    refine rb_TC.mono (rk_iload_n 2 d_Text_indexOf_14 rfl rfl) ?_
    refine rt_cald r_2 d_Text_indexOf_15 (fun x_3 => ?_)
    refine rb_TC.mono (rk_iload_n 1 d_Text_indexOf_16 rfl rfl) ?_
    refine rt_icmp_eq 26 d_Text_indexOf_17 (by decide) (fun _ => ?_) (fun _ => ?_)
    · refine rb_TC.out ?_
      refine rb_TC.mono (rk_less (lv2 := [none, none, some (.int x2)]) (rb_le_ok (rb_leN (rb_leN (rb_leS rb_le0))))) ?_
      exact t_Text_indexOf_j26 hdd  (x2) σ
    · refine rb_TC.mono (rk_iinc (lv2 := [some (va_rf r0), some (.int x1), some (.int (x2 + 1))]) (x2 + 1) d_Text_indexOf_20 rfl rfl (by decide) (fun _ => rb_one_i) rfl) ?_
      refine rb_TC.mono (rk_goto 2 d_Text_indexOf_23 (by decide)) ?_
      exact rb_back
noncomputable def f_Text_indexOf (r0 : Option Nat) (x1 : Int32) (σ : rb_St) : Option rb_Rs :=
  rb_it (fun z : (Int32) => f_Text_indexOf_b2 (r0) (x1) (z) σ) (0 : Int32)
theorem s_Text_indexOf {E : rb_EV} {d : Nat} (hdd : 0 ≤ d) (r0 : Option Nat) (x1 : Int32) (σ : rb_St) : rb_Does E k_Text_indexOf d [va_rf r0, .int x1] σ (f_Text_indexOf r0 x1 σ) := by
  refine rb_start (lv := [some (va_rf r0), some (.int x1), none]) (by decide) (by simp [lg_sl, rb_as, lv_args, rb_cat_r, rb_cat_i, rb_cat_l, rb_nL, k_Text_indexOf]) (fun res => ?_)
  unfold f_Text_indexOf
  refine rb_TC.mono (rk_iconst (0 : Int32) d_Text_indexOf_0 (by decide)) ?_
  refine rb_TC.mono (rk_istore_n (lv2 := [some (va_rf r0), some (.int x1), some (.int (0 : Int32))]) 2 d_Text_indexOf_1 rfl (by decide) (fun _ => rb_one_i) rfl) ?_
  exact rb_TC.loop2 (A := (fun z : (Int32) => rb_WK E k_Text_indexOf d σ res 2 [some (va_rf r0), some (.int x1), some (.int z)] [] σ)) (0 : Int32) (fun z => t_Text_indexOf_b2 hdd  (r0) (x1) (z) σ)
-- ===== java/lang/StringUTF16.compress([CI[BII)I
def k_SU_compress2 : rb_MK := (⟨"java/lang/StringUTF16", "compress", "([CI[BII)I"⟩, prog_19_method_21_code, 7, some (.int))
theorem mw_SU_compress2 : rb_Mw k_SU_compress2 5 := ⟨rb_inG 451 (by decide +kernel) rfl, rb_inG 97 (by decide +kernel) rfl, ⟨by decide, by decide, by decide +kernel⟩, by decide⟩
theorem d_SU_compress2_0 : decode prog_19_method_21_code 0 = .ok (.iconst 0, 1) := by decide +kernel
theorem d_SU_compress2_1 : decode prog_19_method_21_code 1 = .ok (.istore 5, 2) := by decide +kernel
theorem d_SU_compress2_3 : decode prog_19_method_21_code 3 = .ok (.iload 5, 2) := by decide +kernel
theorem d_SU_compress2_5 : decode prog_19_method_21_code 5 = .ok (.iload 4, 2) := by decide +kernel
theorem d_SU_compress2_7 : decode prog_19_method_21_code 7 = .ok (.if_icmp .ge 37, 3) := by decide +kernel
theorem d_SU_compress2_10 : decode prog_19_method_21_code 10 = .ok (.aload_n 0, 1) := by decide +kernel
theorem d_SU_compress2_11 : decode prog_19_method_21_code 11 = .ok (.iload_n 1, 1) := by decide +kernel
theorem d_SU_compress2_12 : decode prog_19_method_21_code 12 = .ok (.caload, 1) := by decide +kernel
theorem d_SU_compress2_13 : decode prog_19_method_21_code 13 = .ok (.istore 6, 2) := by decide +kernel
theorem d_SU_compress2_15 : decode prog_19_method_21_code 15 = .ok (.iload 6, 2) := by decide +kernel
theorem d_SU_compress2_17 : decode prog_19_method_21_code 17 = .ok (.sipush 255, 3) := by decide +kernel
theorem d_SU_compress2_20 : decode prog_19_method_21_code 20 = .ok (.if_icmp .le 6, 3) := by decide +kernel
theorem d_SU_compress2_23 : decode prog_19_method_21_code 23 = .ok (.iload 5, 2) := by decide +kernel
theorem d_SU_compress2_25 : decode prog_19_method_21_code 25 = .ok (.ireturn, 1) := by decide +kernel
theorem d_SU_compress2_26 : decode prog_19_method_21_code 26 = .ok (.aload_n 2, 1) := by decide +kernel
theorem d_SU_compress2_27 : decode prog_19_method_21_code 27 = .ok (.iload_n 3, 1) := by decide +kernel
theorem d_SU_compress2_28 : decode prog_19_method_21_code 28 = .ok (.iload 6, 2) := by decide +kernel
theorem d_SU_compress2_30 : decode prog_19_method_21_code 30 = .ok (.i2b, 1) := by decide +kernel
theorem d_SU_compress2_31 : decode prog_19_method_21_code 31 = .ok (.bastore, 1) := by decide +kernel
theorem d_SU_compress2_32 : decode prog_19_method_21_code 32 = .ok (.iinc 1 1, 3) := by decide +kernel
theorem d_SU_compress2_35 : decode prog_19_method_21_code 35 = .ok (.iinc 3 1, 3) := by decide +kernel
theorem d_SU_compress2_38 : decode prog_19_method_21_code 38 = .ok (.iinc 5 1, 3) := by decide +kernel
theorem d_SU_compress2_41 : decode prog_19_method_21_code 41 = .ok (.goto (-38), 3) := by decide +kernel
theorem d_SU_compress2_44 : decode prog_19_method_21_code 44 = .ok (.iload 4, 2) := by decide +kernel
theorem d_SU_compress2_46 : decode prog_19_method_21_code 46 = .ok (.ireturn, 1) := by decide +kernel
noncomputable def f_SU_compress2_b3 (r0 : Option Nat) (x1 : Int32) (r2 : Option Nat) (x3 : Int32) (x4 : Int32) (x5 : Int32) (σ : rb_St) : Option ((Int32 × Int32 × Int32 × rb_St) ⊕ rb_Rs) :=
  if x4 ≤ x5 then ((some (some (.int x4), σ)).map Sum.inr) else ((rb_aI σ r0 101 x1).bind fun x_1 => if x_1 ≤ (255 : Int32) then ((rb_sI σ r2 105 x3 (x_1.toInt8.toInt32)).bind fun σ_2 => some (.inl ((x1 + 1), (x3 + 1), (x5 + 1), σ_2))) else ((some (some (.int x5), σ)).map Sum.inr))
theorem t_SU_compress2_b3 {E : rb_EV} {d : Nat} {σ0 : rb_St} {res : rb_Rs} (hdd : 0 ≤ d)  (r0 : Option Nat) (x1 : Int32) (r2 : Option Nat) (x3 : Int32) (x4 : Int32) (x5 : Int32) (σ : rb_St) : rb_TC (f_SU_compress2_b3 r0 x1 r2 x3 x4 x5 σ) (Sum.elim (fun z : (Int32 × Int32 × Int32 × rb_St) => rb_WK E k_SU_compress2 d σ0 res 3 [some (va_rf r0), some (.int z.1), some (va_rf r2), some (.int z.2.1), some (.int x4), some (.int z.2.2.1), none] [] z.2.2.2) (fun r => r = res)) (rb_WK E k_SU_compress2 d σ0 res 3 [some (va_rf r0), some (.int x1), some (va_rf r2), some (.int x3), some (.int x4), some (.int x5), none] [] σ) := by
  unfold f_SU_compress2_b3
  refine rb_TC.mono (rk_iload d_SU_compress2_3 rfl) ?_
  refine rb_TC.mono (rk_iload d_SU_compress2_5 rfl) ?_
  refine rt_icmp_ge 44 d_SU_compress2_7 (by decide) (fun _ => ?_) (fun _ => ?_)
  · refine rb_TC.out ?_
    refine rb_TC.mono (rk_iload d_SU_compress2_44 rfl) ?_
    exact rt_iret (ty := .int) rfl rfl (fun h => h) d_SU_compress2_46
  · refine rb_TC.mono (rk_aload_n 0 d_SU_compress2_10 rfl rfl) ?_
    refine rb_TC.mono (rk_iload_n 1 d_SU_compress2_11 rfl rfl) ?_
    refine rt_cald r0 d_SU_compress2_12 (fun x_1 => ?_)
    refine rb_TC.mono (rk_istore (lv2 := [some (va_rf r0), some (.int x1), some (va_rf r2), some (.int x3), some (.int x4), some (.int x5), some (.int x_1)]) d_SU_compress2_13 (by decide) (fun _ => rb_one_i) rfl) ?_
    refine rb_TC.mono (rk_iload d_SU_compress2_15 rfl) ?_
    refine rb_TC.mono (rk_sipush (255 : Int32) d_SU_compress2_17 (by decide)) ?_
    refine rt_icmp_le 26 d_SU_compress2_20 (by decide) (fun _ => ?_) (fun _ => ?_)
    · refine rb_TC.mono (rk_aload_n 2 d_SU_compress2_26 rfl rfl) ?_
      refine rb_TC.mono (rk_iload_n 3 d_SU_compress2_27 rfl rfl) ?_
      refine rb_TC.mono (rk_iload d_SU_compress2_28 rfl) ?_
      refine rb_TC.mono (rk_i2b d_SU_compress2_30) ?_
      refine rt_bast r2 d_SU_compress2_31 (fun σ_2 => ?_)
      refine rb_TC.mono (rk_iinc (lv2 := [some (va_rf r0), some (.int (x1 + 1)), some (va_rf r2), some (.int x3), some (.int x4), some (.int x5), some (.int x_1)]) (x1 + 1) d_SU_compress2_32 rfl rfl (by decide) (fun _ => rb_one_r) rfl) ?_
      refine rb_TC.mono (rk_iinc (lv2 := [some (va_rf r0), some (.int (x1 + 1)), some (va_rf r2), some (.int (x3 + 1)), some (.int x4), some (.int x5), some (.int x_1)]) (x3 + 1) d_SU_compress2_35 rfl rfl (by decide) (fun _ => rb_one_r) rfl) ?_
      refine rb_TC.mono (rk_iinc (lv2 := [some (va_rf r0), some (.int (x1 + 1)), some (va_rf r2), some (.int (x3 + 1)), some (.int x4), some (.int (x5 + 1)), some (.int x_1)]) (x5 + 1) d_SU_compress2_38 rfl rfl (by decide) (fun _ => rb_one_i) rfl) ?_
      refine rb_TC.mono (rk_goto 3 d_SU_compress2_41 (by decide)) ?_
      refine rb_TC.mono (rk_less (lv2 := [some (va_rf r0), some (.int (x1 + 1)), some (va_rf r2), some (.int (x3 + 1)), some (.int x4), some (.int (x5 + 1)), none]) (rb_le_ok (rb_leS (rb_leS (rb_leS (rb_leS (rb_leS (rb_leS (rb_leN rb_le0))))))))) ?_
      exact rb_back
    · refine rb_TC.out ?_
      refine rb_TC.mono (rk_iload d_SU_compress2_23 rfl) ?_
      exact rt_iret (ty := .int) rfl rfl (fun h => h) d_SU_compress2_25
noncomputable def f_SU_compress2 (r0 : Option Nat) (x1 : Int32) (r2 : Option Nat) (x3 : Int32) (x4 : Int32) (σ : rb_St) : Option rb_Rs :=
  rb_it (fun z : (Int32 × Int32 × Int32 × rb_St) => f_SU_compress2_b3 (r0) (z.1) (r2) (z.2.1) (x4) (z.2.2.1) z.2.2.2) (x1, x3, (0 : Int32), σ)
theorem s_SU_compress2 {E : rb_EV} {d : Nat} (hdd : 0 ≤ d) (r0 : Option Nat) (x1 : Int32) (r2 : Option Nat) (x3 : Int32) (x4 : Int32) (σ : rb_St) : rb_Does E k_SU_compress2 d [va_rf r0, .int x1, va_rf r2, .int x3, .int x4] σ (f_SU_compress2 r0 x1 r2 x3 x4 σ) := by
  refine rb_start (lv := [some (va_rf r0), some (.int x1), some (va_rf r2), some (.int x3), some (.int x4), none, none]) (by decide) (by simp [lg_sl, rb_as, lv_args, rb_cat_r, rb_cat_i, rb_cat_l, rb_nL, k_SU_compress2]) (fun res => ?_)
  unfold f_SU_compress2
  refine rb_TC.mono (rk_iconst (0 : Int32) d_SU_compress2_0 (by decide)) ?_
  refine rb_TC.mono (rk_istore (lv2 := [some (va_rf r0), some (.int x1), some (va_rf r2), some (.int x3), some (.int x4), some (.int (0 : Int32)), none]) d_SU_compress2_1 (by decide) (fun _ => rb_one_i) rfl) ?_
  exact rb_TC.loop2 (A := (fun z : (Int32 × Int32 × Int32 × rb_St) => rb_WK E k_SU_compress2 d σ res 3 [some (va_rf r0), some (.int z.1), some (va_rf r2), some (.int z.2.1), some (.int x4), some (.int z.2.2.1), none] [] z.2.2.2)) (x1, x3, (0 : Int32), σ) (fun z => t_SU_compress2_b3 hdd  (r0) (z.1) (r2) (z.2.1) (x4) (z.2.2.1) z.2.2.2)
-- ===== java/lang/StringUTF16.compress([CII)[B
def k_SU_compress : rb_MK := (⟨"java/lang/StringUTF16", "compress", "([CII)[B"⟩, prog_19_method_16_code, 6, some (.array .byte))
theorem mw_SU_compress : rb_Mw k_SU_compress 3 := ⟨rb_inG 448 (by decide +kernel) rfl, rb_inG 97 (by decide +kernel) rfl, ⟨by decide, by decide, by decide +kernel⟩, by decide⟩
theorem w_ac_byte : Cond.arrayClass (newarray.typeOf .byte) ∈ rb_G := rb_inG 506 (by decide +kernel) rfl
theorem sw_SU_115 : rb_Sw "java/lang/StringUTF16" 115 k_SU_compress2 5 := ⟨mw_SU_compress2, rb_inG 449 (by decide +kernel) rfl, rb_inG 450 (by decide +kernel) rfl⟩
theorem d_SU_compress_0 : decode prog_19_method_16_code 0 = .ok (.iload_n 2, 1) := by decide +kernel
theorem d_SU_compress_1 : decode prog_19_method_16_code 1 = .ok (.newarray .byte, 2) := by decide +kernel
theorem d_SU_compress_3 : decode prog_19_method_16_code 3 = .ok (.astore_n 3, 1) := by decide +kernel
theorem d_SU_compress_4 : decode prog_19_method_16_code 4 = .ok (.aload_n 0, 1) := by decide +kernel
theorem d_SU_compress_5 : decode prog_19_method_16_code 5 = .ok (.iload_n 1, 1) := by decide +kernel
theorem d_SU_compress_6 : decode prog_19_method_16_code 6 = .ok (.aload_n 3, 1) := by decide +kernel
theorem d_SU_compress_7 : decode prog_19_method_16_code 7 = .ok (.iconst 0, 1) := by decide +kernel
theorem d_SU_compress_8 : decode prog_19_method_16_code 8 = .ok (.iload_n 2, 1) := by decide +kernel
theorem d_SU_compress_9 : decode prog_19_method_16_code 9 = .ok (.invokestatic 115, 3) := by decide +kernel
theorem d_SU_compress_12 : decode prog_19_method_16_code 12 = .ok (.istore 4, 2) := by decide +kernel
theorem d_SU_compress_14 : decode prog_19_method_16_code 14 = .ok (.iload 4, 2) := by decide +kernel
theorem d_SU_compress_16 : decode prog_19_method_16_code 16 = .ok (.iload_n 2, 1) := by decide +kernel
theorem d_SU_compress_17 : decode prog_19_method_16_code 17 = .ok (.if_icmp .eq 40, 3) := by decide +kernel
theorem d_SU_compress_20 : decode prog_19_method_16_code 20 = .ok (.aload_n 0, 1) := by decide +kernel
theorem d_SU_compress_21 : decode prog_19_method_16_code 21 = .ok (.iload_n 1, 1) := by decide +kernel
theorem d_SU_compress_22 : decode prog_19_method_16_code 22 = .ok (.iload_n 2, 1) := by decide +kernel
theorem d_SU_compress_23 : decode prog_19_method_16_code 23 = .ok (.invokestatic 119, 3) := by decide +kernel
theorem d_SU_compress_57 : decode prog_19_method_16_code 57 = .ok (.aload_n 3, 1) := by decide +kernel
theorem d_SU_compress_58 : decode prog_19_method_16_code 58 = .ok (.areturn, 1) := by decide +kernel
noncomputable def f_SU_compress (r0 : Option Nat) (x1 : Int32) (x2 : Int32) (σ : rb_St) : Option rb_Rs :=
  (rb_nA σ 105 x2).bind fun σ_1 => rb_cI (f_SU_compress2 (r0) (x1) ((some (rb_n σ))) ((0 : Int32)) (x2) σ_1) fun x_2 σ_3 => if x_2 = x2 then (some (some (va_rf (some (rb_n σ))), σ_3)) else (none)
theorem s_SU_compress {E : rb_EV} {d : Nat} (hdd : 1 ≤ d) (r0 : Option Nat) (x1 : Int32) (x2 : Int32) (σ : rb_St) : rb_Does E k_SU_compress d [va_rf r0, .int x1, .int x2] σ (f_SU_compress r0 x1 x2 σ) := by
  refine rb_start (lv := [some (va_rf r0), some (.int x1), some (.int x2), none, none, none]) (by decide) (by simp [lg_sl, rb_as, lv_args, rb_cat_r, rb_cat_i, rb_cat_l, rb_nL, k_SU_compress]) (fun res => ?_)
  unfold f_SU_compress
  refine rb_TC.mono (rk_iload_n 2 d_SU_compress_0 rfl rfl) ?_
  refine rt_newa (t := 105) ⟨by decide, rfl, w_ac_byte⟩ d_SU_compress_1 (fun σ_1 => ?_)
  refine rb_TC.mono (rk_astore_n (lv2 := [some (va_rf r0), some (.int x1), some (.int x2), some (va_rf (some (rb_n σ))), none, none]) 3 d_SU_compress_3 rfl (by decide) (fun _ => rb_one_i) rfl) ?_
  refine rb_TC.mono (rk_aload_n 0 d_SU_compress_4 rfl rfl) ?_
  refine rb_TC.mono (rk_iload_n 1 d_SU_compress_5 rfl rfl) ?_
  refine rb_TC.mono (rk_aload_n 3 d_SU_compress_6 rfl rfl) ?_
  refine rb_TC.mono (rk_iconst (0 : Int32) d_SU_compress_7 (by decide)) ?_
  refine rb_TC.mono (rk_iload_n 2 d_SU_compress_8 rfl rfl) ?_
  refine rt_sI (As := [va_rf r0, .int x1, va_rf (some (rb_n σ)), .int (0 : Int32), .int x2]) (st := []) sw_SU_115 (s_SU_compress2 (Nat.le_refl _) (r0) (x1) ((some (rb_n σ))) ((0 : Int32)) (x2) σ_1) (Nat.le_trans (by decide) hdd) rfl (by simp [rb_cat_r, rb_cat_i, rb_cat_l]) d_SU_compress_9 (fun x_2 σ_3 => ?_)
  refine rb_TC.mono (rk_istore (lv2 := [some (va_rf r0), some (.int x1), some (.int x2), some (va_rf (some (rb_n σ))), some (.int x_2), none]) d_SU_compress_12 (by decide) (fun _ => rb_one_r) rfl) ?_
  refine rb_TC.mono (rk_iload d_SU_compress_14 rfl) ?_
  refine rb_TC.mono (rk_iload_n 2 d_SU_compress_16 rfl rfl) ?_
  refine rt_icmp_eq 57 d_SU_compress_17 (by decide) (fun _ => ?_) (fun _ => ?_)
  · refine rb_TC.mono (rk_aload_n 3 d_SU_compress_57 rfl rfl) ?_
    exact rt_aret (ty := .array .byte) rfl (Or.inr ⟨_, rfl⟩) (fun h => h) d_SU_compress_58
  · refine rb_TC.mono (rk_aload_n 0 d_SU_compress_20 rfl rfl) ?_
    refine rb_TC.mono (rk_iload_n 1 d_SU_compress_21 rfl rfl) ?_
    refine rb_TC.mono (rk_iload_n 2 d_SU_compress_22 rfl rfl) ?_
    exact rb_TC.none
-- ===== java/lang/StringUTF16.coderFromArrayLen([BI)B
def k_SU_coderFromArrayLen : rb_MK := (⟨"java/lang/StringUTF16", "coderFromArrayLen", "([BI)B"⟩, prog_19_method_15_code, 2, some (.byte))
theorem mw_SU_coderFromArrayLen : rb_Mw k_SU_coderFromArrayLen 2 := ⟨rb_inG 493 (by decide +kernel) rfl, rb_inG 97 (by decide +kernel) rfl, ⟨by decide, by decide, by decide +kernel⟩, by decide⟩
theorem d_SU_coderFromArrayLen_0 : decode prog_19_method_15_code 0 = .ok (.iload_n 1, 1) := by decide +kernel
theorem d_SU_coderFromArrayLen_1 : decode prog_19_method_15_code 1 = .ok (.aload_n 0, 1) := by decide +kernel
theorem d_SU_coderFromArrayLen_2 : decode prog_19_method_15_code 2 = .ok (.arraylength, 1) := by decide +kernel
theorem d_SU_coderFromArrayLen_3 : decode prog_19_method_15_code 3 = .ok (.isub, 1) := by decide +kernel
theorem d_SU_coderFromArrayLen_4 : decode prog_19_method_15_code 4 = .ok (.bipush 31, 2) := by decide +kernel
theorem d_SU_coderFromArrayLen_6 : decode prog_19_method_15_code 6 = .ok (.iushr, 1) := by decide +kernel
theorem d_SU_coderFromArrayLen_7 : decode prog_19_method_15_code 7 = .ok (.i2b, 1) := by decide +kernel
theorem d_SU_coderFromArrayLen_8 : decode prog_19_method_15_code 8 = .ok (.ireturn, 1) := by decide +kernel
noncomputable def f_SU_coderFromArrayLen (r0 : Option Nat) (x1 : Int32) (σ : rb_St) : Option rb_Rs :=
  (rb_len σ r0 105).bind fun x_1 => if rb_isB ((((x1 - x_1).toUInt32 >>> ((31 : Int32).toUInt32 &&& Int32.toUInt32 31)).toInt32).toInt8.toInt32) then some (some (.int ((((x1 - x_1).toUInt32 >>> ((31 : Int32).toUInt32 &&& Int32.toUInt32 31)).toInt32).toInt8.toInt32)), σ) else none
theorem s_SU_coderFromArrayLen {E : rb_EV} {d : Nat} (hdd : 0 ≤ d) (r0 : Option Nat) (x1 : Int32) (σ : rb_St) : rb_Does E k_SU_coderFromArrayLen d [va_rf r0, .int x1] σ (f_SU_coderFromArrayLen r0 x1 σ) := by
  refine rb_start (lv := [some (va_rf r0), some (.int x1)]) (by decide) (by simp [lg_sl, rb_as, lv_args, rb_cat_r, rb_cat_i, rb_cat_l, rb_nL, k_SU_coderFromArrayLen]) (fun res => ?_)
  unfold f_SU_coderFromArrayLen
  refine rb_TC.mono (rk_iload_n 1 d_SU_coderFromArrayLen_0 rfl rfl) ?_
  refine rb_TC.mono (rk_aload_n 0 d_SU_coderFromArrayLen_1 rfl rfl) ?_
  refine rt_len (t := 105) r0 (by decide) d_SU_coderFromArrayLen_2 (fun x_1 => ?_)
  refine rb_TC.mono (rk_isub d_SU_coderFromArrayLen_3) ?_
  refine rb_TC.mono (rk_bipush (31 : Int32) d_SU_coderFromArrayLen_4 (by decide)) ?_
  refine rb_TC.mono (rk_iushr d_SU_coderFromArrayLen_6) ?_
  refine rb_TC.mono (rk_i2b d_SU_coderFromArrayLen_7) ?_
  refine rb_TC.ite (fun hn => ?_) (fun _ => rb_TC.none)
  exact rt_iret (ty := .byte) rfl (rb_nar_B hn) (fun h => h) d_SU_coderFromArrayLen_8
-- ===== java/lang/String.<init>([CIILjava/lang/Void;)V
def k_Str_init2 : rb_MK := (⟨"java/lang/String", "<init>", "([CIILjava/lang/Void;)V"⟩, prog_17_method_149_code, 6, none)
theorem mw_Str_init2 : rb_Mw k_Str_init2 4 := ⟨rb_inG 441 (by decide +kernel) rfl, rb_inG 96 (by decide +kernel) rfl, ⟨by decide, by decide, by decide +kernel⟩, by decide⟩
theorem w_fl_Str_38 : Cond.fieldLink "java/lang/String" 38 "java/lang/String" "COMPACT_STRINGS" "Z" ∈ rb_G := rb_inG 444 (by decide +kernel) rfl
theorem fw_Str_15 : rb_Fw "java/lang/String" 15 14 1 := ⟨_, rfl, by decide, by decide, by decide, rfl, rb_inG 496 (by decide +kernel) rfl⟩
theorem fp_Str_init2_15 : rb_Fp k_Str_init2 15 14 1 .byte := ⟨fw_Str_15, rfl, fun q h => by cases h; exact Or.inr ⟨rfl, rfl, rfl⟩⟩
theorem fw_Str_9 : rb_Fw "java/lang/String" 9 14 0 := ⟨_, rfl, by decide, by decide, by decide, rfl, rb_inG 495 (by decide +kernel) rfl⟩
theorem fp_Str_init2_9 : rb_Fp k_Str_init2 9 14 0 (.array .byte) ∧ ((∃ n, (.array .byte : FieldType) = .object n) ∨ ∃ t, (.array .byte : FieldType) = .array t) := ⟨⟨fw_Str_9, rfl, fun q h => by cases h; exact Or.inr ⟨rfl, rfl, rfl⟩⟩, Or.inr ⟨_, rfl⟩⟩
theorem w_ml_Str_1 : Cond.methodLink "java/lang/String" 1 Lib.objectInit ∈ rb_G := rb_inG 442 (by decide +kernel) rfl
theorem sw_Str_177 : rb_Sw "java/lang/String" 177 k_SU_compress 3 := ⟨mw_SU_compress, rb_inG 446 (by decide +kernel) rfl, rb_inG 447 (by decide +kernel) rfl⟩
theorem sw_Str_47 : rb_Sw "java/lang/String" 47 k_SU_coderFromArrayLen 2 := ⟨mw_SU_coderFromArrayLen, rb_inG 491 (by decide +kernel) rfl, rb_inG 492 (by decide +kernel) rfl⟩
theorem d_Str_init2_0 : decode prog_17_method_149_code 0 = .ok (.aload_n 0, 1) := by decide +kernel
theorem d_Str_init2_1 : decode prog_17_method_149_code 1 = .ok (.invokespecial 1, 3) := by decide +kernel
theorem d_Str_init2_4 : decode prog_17_method_149_code 4 = .ok (.iload_n 3, 1) := by decide +kernel
theorem d_Str_init2_5 : decode prog_17_method_149_code 5 = .ok (.ifCond .ne 22, 3) := by decide +kernel
theorem d_Str_init2_8 : decode prog_17_method_149_code 8 = .ok (.aload_n 0, 1) := by decide +kernel
theorem d_Str_init2_9 : decode prog_17_method_149_code 9 = .ok (.ldc 7, 2) := by decide +kernel
theorem d_Str_init2_11 : decode prog_17_method_149_code 11 = .ok (.getfield 9, 3) := by decide +kernel
theorem d_Str_init2_14 : decode prog_17_method_149_code 14 = .ok (.putfield 9, 3) := by decide +kernel
theorem d_Str_init2_17 : decode prog_17_method_149_code 17 = .ok (.aload_n 0, 1) := by decide +kernel
theorem d_Str_init2_18 : decode prog_17_method_149_code 18 = .ok (.ldc 7, 2) := by decide +kernel
theorem d_Str_init2_20 : decode prog_17_method_149_code 20 = .ok (.getfield 15, 3) := by decide +kernel
theorem d_Str_init2_23 : decode prog_17_method_149_code 23 = .ok (.putfield 15, 3) := by decide +kernel
theorem d_Str_init2_26 : decode prog_17_method_149_code 26 = .ok (.return_, 1) := by decide +kernel
theorem d_Str_init2_27 : decode prog_17_method_149_code 27 = .ok (.getstatic 38, 3) := by decide +kernel
theorem d_Str_init2_30 : decode prog_17_method_149_code 30 = .ok (.ifCond .eq 28, 3) := by decide +kernel
theorem d_Str_init2_33 : decode prog_17_method_149_code 33 = .ok (.aload_n 1, 1) := by decide +kernel
theorem d_Str_init2_34 : decode prog_17_method_149_code 34 = .ok (.iload_n 2, 1) := by decide +kernel
theorem d_Str_init2_35 : decode prog_17_method_149_code 35 = .ok (.iload_n 3, 1) := by decide +kernel
theorem d_Str_init2_36 : decode prog_17_method_149_code 36 = .ok (.invokestatic 177, 3) := by decide +kernel
theorem d_Str_init2_39 : decode prog_17_method_149_code 39 = .ok (.astore 5, 2) := by decide +kernel
theorem d_Str_init2_41 : decode prog_17_method_149_code 41 = .ok (.aload_n 0, 1) := by decide +kernel
theorem d_Str_init2_42 : decode prog_17_method_149_code 42 = .ok (.aload 5, 2) := by decide +kernel
theorem d_Str_init2_44 : decode prog_17_method_149_code 44 = .ok (.iload_n 3, 1) := by decide +kernel
theorem d_Str_init2_45 : decode prog_17_method_149_code 45 = .ok (.invokestatic 47, 3) := by decide +kernel
theorem d_Str_init2_48 : decode prog_17_method_149_code 48 = .ok (.putfield 15, 3) := by decide +kernel
theorem d_Str_init2_51 : decode prog_17_method_149_code 51 = .ok (.aload_n 0, 1) := by decide +kernel
theorem d_Str_init2_52 : decode prog_17_method_149_code 52 = .ok (.aload 5, 2) := by decide +kernel
theorem d_Str_init2_54 : decode prog_17_method_149_code 54 = .ok (.putfield 9, 3) := by decide +kernel
theorem d_Str_init2_57 : decode prog_17_method_149_code 57 = .ok (.return_, 1) := by decide +kernel
noncomputable def f_Str_init2 (a0 : Nat) (r1 : Option Nat) (x2 : Int32) (x3 : Int32) (r4 : Option Nat) (σ : rb_St) : Option rb_Rs :=
  if x3 = 0 then ((rb_gR σ (some (rb_k σ 0)) 14 0).bind fun r_1 => (rb_pR σ (some a0) 14 0 r_1).bind fun σ_2 => (rb_gI σ_2 (some (rb_k σ_2 0)) 14 1).bind fun x_3 => (rb_pB σ_2 (some a0) 14 1 x_3).bind fun σ_4 => some (none, σ_4)) else (if (1 : Int32) = 0 then (none) else (rb_cR (f_SU_compress (r1) (x2) (x3) σ) fun r_5 σ_6 => rb_cI (f_SU_coderFromArrayLen (r_5) (x3) σ_6) fun x_7 σ_8 => (rb_pB σ_8 (some a0) 14 1 x_7).bind fun σ_9 => (rb_pR σ_9 (some a0) 14 0 r_5).bind fun σ_10 => some (none, σ_10)))
theorem s_Str_init2 {E : rb_EV} {d : Nat} (hdd : 2 ≤ d) (a0 : Nat) (r1 : Option Nat) (x2 : Int32) (x3 : Int32) (r4 : Option Nat) (σ : rb_St) : rb_Does E k_Str_init2 d [va_rf (some a0), va_rf r1, .int x2, .int x3, va_rf r4] σ (f_Str_init2 a0 r1 x2 x3 r4 σ) := by
  refine rb_start (lv := [some (va_rf (some a0)), some (va_rf r1), some (.int x2), some (.int x3), some (va_rf r4), none]) (by decide) (by simp [lg_sl, rb_as, lv_args, rb_cat_r, rb_cat_i, rb_cat_l, rb_nL, k_Str_init2]) (fun res => ?_)
  unfold f_Str_init2
  refine rb_TC.mono (rk_aload_n 0 d_Str_init2_0 rfl rfl) ?_
  refine rb_TC.mono (rk_objInit w_ml_Str_1 w_oi w_oc (Nat.le_trans (by decide) hdd) (by simp [rb_cat_r, rb_cat_i, rb_cat_l]) d_Str_init2_1 rfl) ?_
  refine rb_TC.mono (rk_iload_n 3 d_Str_init2_4 rfl rfl) ?_
  refine rt_if_ne 27 d_Str_init2_5 (by decide) (fun _ => ?_) (fun _ => ?_)
  · refine rb_TC.mono (rk_aload_n 0 d_Str_init2_8 rfl rfl) ?_
    refine rb_TC.mono (rk_ldcs (no := 0) (by decide) d_Str_init2_9) ?_
    refine rt_gR (some (rb_k σ 0)) fw_Str_9 d_Str_init2_11 (fun r_1 => ?_)
    refine rt_pR (some a0) fp_Str_init2_9 d_Str_init2_14 (fun σ_2 => ?_)
    refine rb_TC.mono (rk_aload_n 0 d_Str_init2_17 rfl rfl) ?_
    refine rb_TC.mono (rk_ldcs (no := 0) (by decide) d_Str_init2_18) ?_
    refine rt_gI (some (rb_k σ_2 0)) fw_Str_15 d_Str_init2_20 (fun x_3 => ?_)
    refine rt_pB (some a0) fp_Str_init2_15 d_Str_init2_23 (fun σ_4 => ?_)
    exact rt_vret rfl (fun h => h) d_Str_init2_26
  · refine rb_TC.mono (rk_compact w_fl_Str_38 d_Str_init2_27) ?_
    refine rt_if_eq 58 d_Str_init2_30 (by decide) (fun _ => ?_) (fun _ => ?_)
    · exact rb_TC.none
    · refine rb_TC.mono (rk_aload_n 1 d_Str_init2_33 rfl rfl) ?_
      refine rb_TC.mono (rk_iload_n 2 d_Str_init2_34 rfl rfl) ?_
      refine rb_TC.mono (rk_iload_n 3 d_Str_init2_35 rfl rfl) ?_
      refine rt_sR (As := [va_rf r1, .int x2, .int x3]) (st := []) sw_Str_177 (s_SU_compress (Nat.le_refl _) (r1) (x2) (x3) σ) (Nat.le_trans (by decide) hdd) rfl (by simp [rb_cat_r, rb_cat_i, rb_cat_l]) d_Str_init2_36 (fun r_5 σ_6 => ?_)
      refine rb_TC.mono (rk_astore (lv2 := [some (va_rf (some a0)), some (va_rf r1), some (.int x2), some (.int x3), some (va_rf r4), some (va_rf r_5)]) d_Str_init2_39 (by decide) (fun _ => rb_one_r) rfl) ?_
      refine rb_TC.mono (rk_aload_n 0 d_Str_init2_41 rfl rfl) ?_
      refine rb_TC.mono (rk_aload d_Str_init2_42 rfl) ?_
      refine rb_TC.mono (rk_iload_n 3 d_Str_init2_44 rfl rfl) ?_
      refine rt_sI (As := [va_rf r_5, .int x3]) (st := [va_rf (some a0)]) sw_Str_47 (s_SU_coderFromArrayLen (Nat.le_refl _) (r_5) (x3) σ_6) (Nat.le_trans (by decide) hdd) rfl (by simp [rb_cat_r, rb_cat_i, rb_cat_l]) d_Str_init2_45 (fun x_7 σ_8 => ?_)
      refine rt_pB (some a0) fp_Str_init2_15 d_Str_init2_48 (fun σ_9 => ?_)
      refine rb_TC.mono (rk_aload_n 0 d_Str_init2_51 rfl rfl) ?_
      refine rb_TC.mono (rk_aload d_Str_init2_52 rfl) ?_
      refine rt_pR (some a0) fp_Str_init2_9 d_Str_init2_54 (fun σ_10 => ?_)
      exact rt_vret rfl (fun h => h) d_Str_init2_57
-- ===== java/lang/String.<init>([C)V
def k_Str_init : rb_MK := (⟨"java/lang/String", "<init>", "([C)V"⟩, prog_17_method_3_code, 2, none)
theorem mw_Str_init : rb_Mw k_Str_init 1 := ⟨rb_inG 438 (by decide +kernel) rfl, rb_inG 96 (by decide +kernel) rfl, ⟨by decide, by decide, by decide +kernel⟩, by decide⟩
theorem iw_Str_27 : rb_Iw "java/lang/String" 27 k_Str_init2 4 := ⟨mw_Str_init2, rfl, rfl, rb_inG 440 (by decide +kernel) rfl, Or.inl (rb_inG 439 (by decide +kernel) rfl)⟩
theorem d_Str_init_0 : decode prog_17_method_3_code 0 = .ok (.aload_n 0, 1) := by decide +kernel
theorem d_Str_init_1 : decode prog_17_method_3_code 1 = .ok (.aload_n 1, 1) := by decide +kernel
theorem d_Str_init_2 : decode prog_17_method_3_code 2 = .ok (.iconst 0, 1) := by decide +kernel
theorem d_Str_init_3 : decode prog_17_method_3_code 3 = .ok (.aload_n 1, 1) := by decide +kernel
theorem d_Str_init_4 : decode prog_17_method_3_code 4 = .ok (.arraylength, 1) := by decide +kernel
theorem d_Str_init_5 : decode prog_17_method_3_code 5 = .ok (.aconst_null, 1) := by decide +kernel
theorem d_Str_init_6 : decode prog_17_method_3_code 6 = .ok (.invokespecial 27, 3) := by decide +kernel
theorem d_Str_init_9 : decode prog_17_method_3_code 9 = .ok (.return_, 1) := by decide +kernel
noncomputable def f_Str_init (a0 : Nat) (r1 : Option Nat) (σ : rb_St) : Option rb_Rs :=
  (rb_len σ r1 101).bind fun x_1 => rb_cV (f_Str_init2 (a0) (r1) ((0 : Int32)) (x_1) (none) σ) fun σ_2 => some (none, σ_2)
theorem s_Str_init {E : rb_EV} {d : Nat} (hdd : 3 ≤ d) (a0 : Nat) (r1 : Option Nat) (σ : rb_St) : rb_Does E k_Str_init d [va_rf (some a0), va_rf r1] σ (f_Str_init a0 r1 σ) := by
  refine rb_start (lv := [some (va_rf (some a0)), some (va_rf r1)]) (by decide) (by simp [lg_sl, rb_as, lv_args, rb_cat_r, rb_cat_i, rb_cat_l, rb_nL, k_Str_init]) (fun res => ?_)
  unfold f_Str_init
  refine rb_TC.mono (rk_aload_n 0 d_Str_init_0 rfl rfl) ?_
  refine rb_TC.mono (rk_aload_n 1 d_Str_init_1 rfl rfl) ?_
  refine rb_TC.mono (rk_iconst (0 : Int32) d_Str_init_2 (by decide)) ?_
  refine rb_TC.mono (rk_aload_n 1 d_Str_init_3 rfl rfl) ?_
  refine rt_len (t := 101) r1 (by decide) d_Str_init_4 (fun x_1 => ?_)
  refine rb_TC.mono (rk_null d_Str_init_5) ?_
  refine rt_i (As := [va_rf r1, .int (0 : Int32), .int x_1, va_rf none]) (st := []) iw_Str_27 (s_Str_init2 (Nat.le_refl _) (a0) (r1) ((0 : Int32)) (x_1) (none) σ) (Nat.le_trans (by decide) hdd) rfl (by simp [rb_cat_r, rb_cat_i, rb_cat_l]) d_Str_init_6 (fun σ_2 => ?_)
  exact rt_vret rfl (fun h => h) d_Str_init_9
-- ===== RuleBuilder$Text.cut(II)Ljava/lang/String;
def k_Text_cut : rb_MK := (⟨"RuleBuilder$Text", "cut", "(II)Ljava/lang/String;"⟩, prog_11_method_14_code, 4, some (.object "java/lang/String"))
theorem mw_Text_cut : rb_Mw k_Text_cut 2 := ⟨rb_inG 429 (by decide +kernel) rfl, rb_inG 86 (by decide +kernel) rfl, ⟨by decide, by decide, by decide +kernel⟩, by decide⟩
theorem w_acopy_Text_32 : rb_Yw "RuleBuilder$Text" 32 := ⟨rb_inG 431 (by decide +kernel) rfl, rb_inG 433 (by decide +kernel) rfl, rb_inG 432 (by decide +kernel) rfl, rb_inG 95 (by decide +kernel) rfl⟩
theorem iw_Text_45 : rb_Iw "RuleBuilder$Text" 45 k_Str_init 1 := ⟨mw_Str_init, rfl, rfl, rb_inG 437 (by decide +kernel) rfl, Or.inl (rb_inG 436 (by decide +kernel) rfl)⟩
theorem ow_Text_24 : rb_Ow "RuleBuilder$Text" 24 14 := ⟨_, rfl, by decide, by decide, rb_inG 434 (by decide +kernel) rfl, rb_ins14, rb_ini14, rfl, by decide⟩
theorem d_Text_cut_0 : decode prog_11_method_14_code 0 = .ok (.iload_n 1, 1) := by decide +kernel
theorem d_Text_cut_1 : decode prog_11_method_14_code 1 = .ok (.ifCond .lt 16, 3) := by decide +kernel
theorem d_Text_cut_4 : decode prog_11_method_14_code 4 = .ok (.iload_n 2, 1) := by decide +kernel
theorem d_Text_cut_5 : decode prog_11_method_14_code 5 = .ok (.iload_n 1, 1) := by decide +kernel
theorem d_Text_cut_6 : decode prog_11_method_14_code 6 = .ok (.if_icmp .le 11, 3) := by decide +kernel
theorem d_Text_cut_9 : decode prog_11_method_14_code 9 = .ok (.iload_n 2, 1) := by decide +kernel
theorem d_Text_cut_10 : decode prog_11_method_14_code 10 = .ok (.aload_n 0, 1) := by decide +kernel
theorem d_Text_cut_11 : decode prog_11_method_14_code 11 = .ok (.getfield 13, 3) := by decide +kernel
theorem d_Text_cut_14 : decode prog_11_method_14_code 14 = .ok (.if_icmp .le 6, 3) := by decide +kernel
theorem d_Text_cut_17 : decode prog_11_method_14_code 17 = .ok (.ldc 43, 2) := by decide +kernel
theorem d_Text_cut_19 : decode prog_11_method_14_code 19 = .ok (.areturn, 1) := by decide +kernel
theorem d_Text_cut_20 : decode prog_11_method_14_code 20 = .ok (.iload_n 2, 1) := by decide +kernel
theorem d_Text_cut_21 : decode prog_11_method_14_code 21 = .ok (.iload_n 1, 1) := by decide +kernel
theorem d_Text_cut_22 : decode prog_11_method_14_code 22 = .ok (.isub, 1) := by decide +kernel
theorem d_Text_cut_23 : decode prog_11_method_14_code 23 = .ok (.newarray .char, 2) := by decide +kernel
theorem d_Text_cut_25 : decode prog_11_method_14_code 25 = .ok (.astore_n 3, 1) := by decide +kernel
theorem d_Text_cut_26 : decode prog_11_method_14_code 26 = .ok (.aload_n 0, 1) := by decide +kernel
theorem d_Text_cut_27 : decode prog_11_method_14_code 27 = .ok (.getfield 7, 3) := by decide +kernel
theorem d_Text_cut_30 : decode prog_11_method_14_code 30 = .ok (.iload_n 1, 1) := by decide +kernel
theorem d_Text_cut_31 : decode prog_11_method_14_code 31 = .ok (.aload_n 3, 1) := by decide +kernel
theorem d_Text_cut_32 : decode prog_11_method_14_code 32 = .ok (.iconst 0, 1) := by decide +kernel
theorem d_Text_cut_33 : decode prog_11_method_14_code 33 = .ok (.iload_n 2, 1) := by decide +kernel
theorem d_Text_cut_34 : decode prog_11_method_14_code 34 = .ok (.iload_n 1, 1) := by decide +kernel
theorem d_Text_cut_35 : decode prog_11_method_14_code 35 = .ok (.isub, 1) := by decide +kernel
theorem d_Text_cut_36 : decode prog_11_method_14_code 36 = .ok (.invokestatic 32, 3) := by decide +kernel
theorem d_Text_cut_39 : decode prog_11_method_14_code 39 = .ok (.new 24, 3) := by decide +kernel
theorem d_Text_cut_42 : decode prog_11_method_14_code 42 = .ok (.dup, 1) := by decide +kernel
theorem d_Text_cut_43 : decode prog_11_method_14_code 43 = .ok (.aload_n 3, 1) := by decide +kernel
theorem d_Text_cut_44 : decode prog_11_method_14_code 44 = .ok (.invokespecial 45, 3) := by decide +kernel
theorem d_Text_cut_47 : decode prog_11_method_14_code 47 = .ok (.areturn, 1) := by decide +kernel
noncomputable def f_Text_cut (r0 : Option Nat) (x1 : Int32) (x2 : Int32) (σ : rb_St) : Option rb_Rs :=
  if x1 < 0 then (some (some (va_rf (some (rb_k σ 0))), σ)) else (if x2 ≤ x1 then (some (some (va_rf (some (rb_k σ 0))), σ)) else ((rb_gI σ r0 2 1).bind fun x_1 => if x2 ≤ x_1 then ((rb_nA σ 101 (x2 - x1)).bind fun σ_2 => (rb_gR σ_2 r0 2 0).bind fun r_3 => (rb_cp σ_2 r_3 (some (rb_n σ)) 101 x1 (0 : Int32) (x2 - x1)).bind fun σ_4 => rb_cV (f_Str_init ((rb_n σ_4)) ((some (rb_n σ))) (rb_nO σ_4 14)) fun σ_5 => some (some (va_rf (some (rb_n σ_4))), σ_5)) else (some (some (va_rf (some (rb_k σ 0))), σ))))
theorem s_Text_cut {E : rb_EV} {d : Nat} (hdd : 4 ≤ d) (r0 : Option Nat) (x1 : Int32) (x2 : Int32) (σ : rb_St) : rb_Does E k_Text_cut d [va_rf r0, .int x1, .int x2] σ (f_Text_cut r0 x1 x2 σ) := by
  refine rb_start (lv := [some (va_rf r0), some (.int x1), some (.int x2), none]) (by decide) (by simp [lg_sl, rb_as, lv_args, rb_cat_r, rb_cat_i, rb_cat_l, rb_nL, k_Text_cut]) (fun res => ?_)
  unfold f_Text_cut
  refine rb_TC.mono (rk_iload_n 1 d_Text_cut_0 rfl rfl) ?_
  refine rt_if_lt 17 d_Text_cut_1 (by decide) (fun _ => ?_) (fun _ => ?_)
  · refine rb_TC.mono (rk_ldcs (no := 0) (by decide) d_Text_cut_17) ?_
    exact rt_aret (ty := .object "java/lang/String") rfl (Or.inl ⟨_, rfl⟩) (fun h => h) d_Text_cut_19
  · refine rb_TC.mono (rk_iload_n 2 d_Text_cut_4 rfl rfl) ?_
    refine rb_TC.mono (rk_iload_n 1 d_Text_cut_5 rfl rfl) ?_
    refine rt_icmp_le 17 d_Text_cut_6 (by decide) (fun _ => ?_) (fun _ => ?_)
    · refine rb_TC.mono (rk_ldcs (no := 0) (by decide) d_Text_cut_17) ?_
      exact rt_aret (ty := .object "java/lang/String") rfl (Or.inl ⟨_, rfl⟩) (fun h => h) d_Text_cut_19
    · refine rb_TC.mono (rk_iload_n 2 d_Text_cut_9 rfl rfl) ?_
      refine rb_TC.mono (rk_aload_n 0 d_Text_cut_10 rfl rfl) ?_
      refine rt_gI r0 fw_Text_13 d_Text_cut_11 (fun x_1 => ?_)
      refine rt_icmp_le 20 d_Text_cut_14 (by decide) (fun _ => ?_) (fun _ => ?_)
      · refine rb_TC.mono (rk_iload_n 2 d_Text_cut_20 rfl rfl) ?_
        refine rb_TC.mono (rk_iload_n 1 d_Text_cut_21 rfl rfl) ?_
        refine rb_TC.mono (rk_isub d_Text_cut_22) ?_
        refine rt_newa (t := 101) ⟨by decide, rfl, w_ac_char⟩ d_Text_cut_23 (fun σ_2 => ?_)
        refine rb_TC.mono (rk_astore_n (lv2 := [some (va_rf r0), some (.int x1), some (.int x2), some (va_rf (some (rb_n σ)))]) 3 d_Text_cut_25 rfl (by decide) (fun _ => rb_one_i) rfl) ?_
        refine rb_TC.mono (rk_aload_n 0 d_Text_cut_26 rfl rfl) ?_
        refine rt_gR r0 fw_Text_7 d_Text_cut_27 (fun r_3 => ?_)
        refine rb_TC.mono (rk_iload_n 1 d_Text_cut_30 rfl rfl) ?_
        refine rb_TC.mono (rk_aload_n 3 d_Text_cut_31 rfl rfl) ?_
        refine rb_TC.mono (rk_iconst (0 : Int32) d_Text_cut_32 (by decide)) ?_
        refine rb_TC.mono (rk_iload_n 2 d_Text_cut_33 rfl rfl) ?_
        refine rb_TC.mono (rk_iload_n 1 d_Text_cut_34 rfl rfl) ?_
        refine rb_TC.mono (rk_isub d_Text_cut_35) ?_
        refine rt_acopy (t := 101) r_3 (some (rb_n σ)) w_acopy_Text_32 (by decide) (Nat.le_trans (by decide) hdd) (by simp [rb_cat_r, rb_cat_i, rb_cat_l]) d_Text_cut_36 (fun σ_4 => ?_)
        refine rb_TC.mono (rk_new ow_Text_24 d_Text_cut_39) ?_
        refine rb_TC.mono (rk_dupr d_Text_cut_42) ?_
        refine rb_TC.mono (rk_aload_n 3 d_Text_cut_43 rfl rfl) ?_
        refine rt_i (As := [va_rf (some (rb_n σ))]) (st := [va_rf (some (rb_n σ_4))]) iw_Text_45 (s_Str_init (Nat.le_refl _) ((rb_n σ_4)) ((some (rb_n σ))) (rb_nO σ_4 14)) (Nat.le_trans (by decide) hdd) rfl (by simp [rb_cat_r, rb_cat_i, rb_cat_l]) d_Text_cut_44 (fun σ_5 => ?_)
        exact rt_aret (ty := .object "java/lang/String") rfl (Or.inl ⟨_, rfl⟩) (fun h => h) d_Text_cut_47
      · refine rb_TC.mono (rk_ldcs (no := 0) (by decide) d_Text_cut_17) ?_
        exact rt_aret (ty := .object "java/lang/String") rfl (Or.inl ⟨_, rfl⟩) (fun h => h) d_Text_cut_19
-- ===== RuleBuilder$Text.behindSpaces(II)I
def k_Text_behindSpaces : rb_MK := (⟨"RuleBuilder$Text", "behindSpaces", "(II)I"⟩, prog_11_method_12_code, 4, some (.int))
theorem mw_Text_behindSpaces : rb_Mw k_Text_behindSpaces 2 := ⟨rb_inG 704 (by decide +kernel) rfl, rb_inG 86 (by decide +kernel) rfl, ⟨by decide, by decide, by decide +kernel⟩, by decide⟩
theorem vw_Text_40 : rb_Vw "RuleBuilder$Text" 40 k_Text_at 2 1 := ⟨mw_Text_at, rb_inG 705 (by decide +kernel) rfl, rb_inG 415 (by decide +kernel) rfl, rb_inG 416 (by decide +kernel) rfl, by decide, by decide, _, rfl, rfl⟩
theorem d_Text_behindSpaces_0 : decode prog_11_method_12_code 0 = .ok (.iload_n 1, 1) := by decide +kernel
theorem d_Text_behindSpaces_1 : decode prog_11_method_12_code 1 = .ok (.istore_n 3, 1) := by decide +kernel
theorem d_Text_behindSpaces_2 : decode prog_11_method_12_code 2 = .ok (.iload_n 3, 1) := by decide +kernel
theorem d_Text_behindSpaces_3 : decode prog_11_method_12_code 3 = .ok (.iload_n 2, 1) := by decide +kernel
theorem d_Text_behindSpaces_4 : decode prog_11_method_12_code 4 = .ok (.if_icmp .ge 19, 3) := by decide +kernel
theorem d_Text_behindSpaces_7 : decode prog_11_method_12_code 7 = .ok (.aload_n 0, 1) := by decide +kernel
theorem d_Text_behindSpaces_8 : decode prog_11_method_12_code 8 = .ok (.iload_n 3, 1) := by decide +kernel
theorem d_Text_behindSpaces_9 : decode prog_11_method_12_code 9 = .ok (.invokevirtual 40, 3) := by decide +kernel
theorem d_Text_behindSpaces_12 : decode prog_11_method_12_code 12 = .ok (.bipush 32, 2) := by decide +kernel
theorem d_Text_behindSpaces_14 : decode prog_11_method_12_code 14 = .ok (.if_icmp .ne 9, 3) := by decide +kernel
theorem d_Text_behindSpaces_17 : decode prog_11_method_12_code 17 = .ok (.iinc 3 1, 3) := by decide +kernel
theorem d_Text_behindSpaces_20 : decode prog_11_method_12_code 20 = .ok (.goto (-18), 3) := by decide +kernel
theorem d_Text_behindSpaces_23 : decode prog_11_method_12_code 23 = .ok (.iload_n 3, 1) := by decide +kernel
theorem d_Text_behindSpaces_24 : decode prog_11_method_12_code 24 = .ok (.ireturn, 1) := by decide +kernel
noncomputable def f_Text_behindSpaces_j23 (x3 : Int32) (σ : rb_St) : Option rb_Rs :=
  some (some (.int x3), σ)
theorem t_Text_behindSpaces_j23 {E : rb_EV} {d : Nat} {σ0 : rb_St} {res : rb_Rs} (hdd : 1 ≤ d)  (x3 : Int32) (σ : rb_St) : rb_TC (f_Text_behindSpaces_j23 x3 σ) (fun r => r = res) (rb_WK E k_Text_behindSpaces d σ0 res 23 [none, none, none, some (.int x3)] [] σ) := by
  unfold f_Text_behindSpaces_j23
  refine rb_TC.mono (rk_iload_n 3 d_Text_behindSpaces_23 rfl rfl) ?_
  exact rt_iret (ty := .int) rfl rfl (fun h => h) d_Text_behindSpaces_24
noncomputable def f_Text_behindSpaces_b2 (r0 : Option Nat) (x2 : Int32) (x3 : Int32) (σ : rb_St) : Option ((Int32 × rb_St) ⊕ rb_Rs) :=
  if x2 ≤ x3 then ((f_Text_behindSpaces_j23 (x3) σ).map Sum.inr) else ((rb_fc σ r0 2).bind fun _ => rb_cI (f_Text_at (r0) (x3) σ) fun x_1 σ_2 => if x_1 = (32 : Int32) then (some (.inl ((x3 + 1), σ_2))) else ((f_Text_behindSpaces_j23 (x3) σ_2).map Sum.inr))
theorem t_Text_behindSpaces_b2 {E : rb_EV} {d : Nat} {σ0 : rb_St} {res : rb_Rs} (hdd : 1 ≤ d)  (r0 : Option Nat) (x2 : Int32) (x3 : Int32) (σ : rb_St) : rb_TC (f_Text_behindSpaces_b2 r0 x2 x3 σ) (Sum.elim (fun z : (Int32 × rb_St) => rb_WK E k_Text_behindSpaces d σ0 res 2 [some (va_rf r0), none, some (.int x2), some (.int z.1)] [] z.2) (fun r => r = res)) (rb_WK E k_Text_behindSpaces d σ0 res 2 [some (va_rf r0), none, some (.int x2), some (.int x3)] [] σ) := by
  unfold f_Text_behindSpaces_b2
  refine rb_TC.mono (rk_iload_n 3 d_Text_behindSpaces_2 rfl rfl) ?_
  refine rb_TC.mono (rk_iload_n 2 d_Text_behindSpaces_3 rfl rfl) ?_
  refine rt_icmp_ge 23 d_Text_behindSpaces_4 (by decide) (fun _ => ?_) (fun _ => ?_)
  · refine rb_TC.out ?_
    refine rb_TC.mono (rk_less (lv2 := [none, none, none, some (.int x3)]) (rb_le_ok (rb_leN (rb_leN (rb_leN (rb_leS rb_le0)))))) ?_
    exact t_Text_behindSpaces_j23 hdd  (x3) σ
  · refine rb_TC.mono (rk_aload_n 0 d_Text_behindSpaces_7 rfl rfl) ?_
    refine rb_TC.mono (rk_iload_n 3 d_Text_behindSpaces_8 rfl rfl) ?_
    refine rt_vI (As := [.int x3]) (st := []) (r0) vw_Text_40 (s_Text_at (Nat.le_refl _) (r0) (x3) σ) (Nat.le_trans (by decide) hdd) rfl (by simp [rb_cat_r, rb_cat_i, rb_cat_l]) d_Text_behindSpaces_9 (fun x_1 σ_2 => ?_)
    refine rb_TC.mono (rk_bipush (32 : Int32) d_Text_behindSpaces_12 (by decide)) ?_
    refine rt_icmp_ne 23 d_Text_behindSpaces_14 (by decide) (fun _ => ?_) (fun _ => ?_)
    · refine rb_TC.mono (rk_iinc (lv2 := [some (va_rf r0), none, some (.int x2), some (.int (x3 + 1))]) (x3 + 1) d_Text_behindSpaces_17 rfl rfl (by decide) (fun _ => rb_one_i) rfl) ?_
      refine rb_TC.mono (rk_goto 2 d_Text_behindSpaces_20 (by decide)) ?_
      exact rb_back
    · refine rb_TC.out ?_
      refine rb_TC.mono (rk_less (lv2 := [none, none, none, some (.int x3)]) (rb_le_ok (rb_leN (rb_leN (rb_leN (rb_leS rb_le0)))))) ?_
      exact t_Text_behindSpaces_j23 hdd  (x3) σ_2
noncomputable def f_Text_behindSpaces (r0 : Option Nat) (x1 : Int32) (x2 : Int32) (σ : rb_St) : Option rb_Rs :=
  rb_it (fun z : (Int32 × rb_St) => f_Text_behindSpaces_b2 (r0) (x2) (z.1) z.2) (x1, σ)
theorem s_Text_behindSpaces {E : rb_EV} {d : Nat} (hdd : 1 ≤ d) (r0 : Option Nat) (x1 : Int32) (x2 : Int32) (σ : rb_St) : rb_Does E k_Text_behindSpaces d [va_rf r0, .int x1, .int x2] σ (f_Text_behindSpaces r0 x1 x2 σ) := by
  refine rb_start (lv := [some (va_rf r0), some (.int x1), some (.int x2), none]) (by decide) (by simp [lg_sl, rb_as, lv_args, rb_cat_r, rb_cat_i, rb_cat_l, rb_nL, k_Text_behindSpaces]) (fun res => ?_)
  unfold f_Text_behindSpaces
  refine rb_TC.mono (rk_iload_n 1 d_Text_behindSpaces_0 rfl rfl) ?_
  refine rb_TC.mono (rk_istore_n (lv2 := [some (va_rf r0), some (.int x1), some (.int x2), some (.int x1)]) 3 d_Text_behindSpaces_1 rfl (by decide) (fun _ => rb_one_i) rfl) ?_
  refine rb_TC.mono (rk_less (lv2 := [some (va_rf r0), none, some (.int x2), some (.int x1)]) (rb_le_ok (rb_leS (rb_leN (rb_leS (rb_leS rb_le0)))))) ?_
  exact rb_TC.loop2 (A := (fun z : (Int32 × rb_St) => rb_WK E k_Text_behindSpaces d σ res 2 [some (va_rf r0), none, some (.int x2), some (.int z.1)] [] z.2)) (x1, σ) (fun z => t_Text_behindSpaces_b2 hdd  (r0) (x2) (z.1) z.2)
-- ===== RuleBuilder$Text.beforeSpaces(II)I
def k_Text_beforeSpaces : rb_MK := (⟨"RuleBuilder$Text", "beforeSpaces", "(II)I"⟩, prog_11_method_13_code, 4, some (.int))
theorem mw_Text_beforeSpaces : rb_Mw k_Text_beforeSpaces 2 := ⟨rb_inG 709 (by decide +kernel) rfl, rb_inG 86 (by decide +kernel) rfl, ⟨by decide, by decide, by decide +kernel⟩, by decide⟩
theorem d_Text_beforeSpaces_0 : decode prog_11_method_13_code 0 = .ok (.iload_n 2, 1) := by decide +kernel
theorem d_Text_beforeSpaces_1 : decode prog_11_method_13_code 1 = .ok (.istore_n 3, 1) := by decide +kernel
theorem d_Text_beforeSpaces_2 : decode prog_11_method_13_code 2 = .ok (.iload_n 3, 1) := by decide +kernel
theorem d_Text_beforeSpaces_3 : decode prog_11_method_13_code 3 = .ok (.iload_n 1, 1) := by decide +kernel
theorem d_Text_beforeSpaces_4 : decode prog_11_method_13_code 4 = .ok (.if_icmp .le 21, 3) := by decide +kernel
theorem d_Text_beforeSpaces_7 : decode prog_11_method_13_code 7 = .ok (.aload_n 0, 1) := by decide +kernel
theorem d_Text_beforeSpaces_8 : decode prog_11_method_13_code 8 = .ok (.iload_n 3, 1) := by decide +kernel
theorem d_Text_beforeSpaces_9 : decode prog_11_method_13_code 9 = .ok (.iconst 1, 1) := by decide +kernel
theorem d_Text_beforeSpaces_10 : decode prog_11_method_13_code 10 = .ok (.isub, 1) := by decide +kernel
theorem d_Text_beforeSpaces_11 : decode prog_11_method_13_code 11 = .ok (.invokevirtual 40, 3) := by decide +kernel
theorem d_Text_beforeSpaces_14 : decode prog_11_method_13_code 14 = .ok (.bipush 32, 2) := by decide +kernel
theorem d_Text_beforeSpaces_16 : decode prog_11_method_13_code 16 = .ok (.if_icmp .ne 9, 3) := by decide +kernel
theorem d_Text_beforeSpaces_19 : decode prog_11_method_13_code 19 = .ok (.iinc 3 (-1), 3) := by decide +kernel
theorem d_Text_beforeSpaces_22 : decode prog_11_method_13_code 22 = .ok (.goto (-20), 3) := by decide +kernel
theorem d_Text_beforeSpaces_25 : decode prog_11_method_13_code 25 = .ok (.iload_n 3, 1) := by decide +kernel
theorem d_Text_beforeSpaces_26 : decode prog_11_method_13_code 26 = .ok (.ireturn, 1) := by decide +kernel
noncomputable def f_Text_beforeSpaces_j25 (x3 : Int32) (σ : rb_St) : Option rb_Rs :=
  some (some (.int x3), σ)
theorem t_Text_beforeSpaces_j25 {E : rb_EV} {d : Nat} {σ0 : rb_St} {res : rb_Rs} (hdd : 1 ≤ d)  (x3 : Int32) (σ : rb_St) : rb_TC (f_Text_beforeSpaces_j25 x3 σ) (fun r => r = res) (rb_WK E k_Text_beforeSpaces d σ0 res 25 [none, none, none, some (.int x3)] [] σ) := by
  unfold f_Text_beforeSpaces_j25
  refine rb_TC.mono (rk_iload_n 3 d_Text_beforeSpaces_25 rfl rfl) ?_
  exact rt_iret (ty := .int) rfl rfl (fun h => h) d_Text_beforeSpaces_26
noncomputable def f_Text_beforeSpaces_b2 (r0 : Option Nat) (x1 : Int32) (x3 : Int32) (σ : rb_St) : Option ((Int32 × rb_St) ⊕ rb_Rs) :=
  if x3 ≤ x1 then ((f_Text_beforeSpaces_j25 (x3) σ).map Sum.inr) else ((rb_fc σ r0 2).bind fun _ => rb_cI (f_Text_at (r0) ((x3 - (1 : Int32))) σ) fun x_1 σ_2 => if x_1 = (32 : Int32) then (some (.inl ((x3 + (-1)), σ_2))) else ((f_Text_beforeSpaces_j25 (x3) σ_2).map Sum.inr))
theorem t_Text_beforeSpaces_b2 {E : rb_EV} {d : Nat} {σ0 : rb_St} {res : rb_Rs} (hdd : 1 ≤ d)  (r0 : Option Nat) (x1 : Int32) (x3 : Int32) (σ : rb_St) : rb_TC (f_Text_beforeSpaces_b2 r0 x1 x3 σ) (Sum.elim (fun z : (Int32 × rb_St) => rb_WK E k_Text_beforeSpaces d σ0 res 2 [some (va_rf r0), some (.int x1), none, some (.int z.1)] [] z.2) (fun r => r = res)) (rb_WK E k_Text_beforeSpaces d σ0 res 2 [some (va_rf r0), some (.int x1), none, some (.int x3)] [] σ) := by
  unfold f_Text_beforeSpaces_b2
  refine rb_TC.mono (rk_iload_n 3 d_Text_beforeSpaces_2 rfl rfl) ?_
  refine rb_TC.mono (rk_iload_n 1 d_Text_beforeSpaces_3 rfl rfl) ?_
  refine rt_icmp_le 25 d_Text_beforeSpaces_4 (by decide) (fun _ => ?_) (fun _ => ?_)
  · refine rb_TC.out ?_
    refine rb_TC.mono (rk_less (lv2 := [none, none, none, some (.int x3)]) (rb_le_ok (rb_leN (rb_leN (rb_leN (rb_leS rb_le0)))))) ?_
    exact t_Text_beforeSpaces_j25 hdd  (x3) σ
  · refine rb_TC.mono (rk_aload_n 0 d_Text_beforeSpaces_7 rfl rfl) ?_
    refine rb_TC.mono (rk_iload_n 3 d_Text_beforeSpaces_8 rfl rfl) ?_
    refine rb_TC.mono (rk_iconst (1 : Int32) d_Text_beforeSpaces_9 (by decide)) ?_
    refine rb_TC.mono (rk_isub d_Text_beforeSpaces_10) ?_
    refine rt_vI (As := [.int (x3 - (1 : Int32))]) (st := []) (r0) vw_Text_40 (s_Text_at (Nat.le_refl _) (r0) ((x3 - (1 : Int32))) σ) (Nat.le_trans (by decide) hdd) rfl (by simp [rb_cat_r, rb_cat_i, rb_cat_l]) d_Text_beforeSpaces_11 (fun x_1 σ_2 => ?_)
    refine rb_TC.mono (rk_bipush (32 : Int32) d_Text_beforeSpaces_14 (by decide)) ?_
    refine rt_icmp_ne 25 d_Text_beforeSpaces_16 (by decide) (fun _ => ?_) (fun _ => ?_)
    · refine rb_TC.mono (rk_iinc (lv2 := [some (va_rf r0), some (.int x1), none, some (.int (x3 + (-1)))]) (x3 + (-1)) d_Text_beforeSpaces_19 rfl rfl (by decide) (fun _ => rb_one_n) rfl) ?_
      refine rb_TC.mono (rk_goto 2 d_Text_beforeSpaces_22 (by decide)) ?_
      exact rb_back
    · refine rb_TC.out ?_
      refine rb_TC.mono (rk_less (lv2 := [none, none, none, some (.int x3)]) (rb_le_ok (rb_leN (rb_leN (rb_leN (rb_leS rb_le0)))))) ?_
      exact t_Text_beforeSpaces_j25 hdd  (x3) σ_2
noncomputable def f_Text_beforeSpaces (r0 : Option Nat) (x1 : Int32) (x2 : Int32) (σ : rb_St) : Option rb_Rs :=
  rb_it (fun z : (Int32 × rb_St) => f_Text_beforeSpaces_b2 (r0) (x1) (z.1) z.2) (x2, σ)
theorem s_Text_beforeSpaces {E : rb_EV} {d : Nat} (hdd : 1 ≤ d) (r0 : Option Nat) (x1 : Int32) (x2 : Int32) (σ : rb_St) : rb_Does E k_Text_beforeSpaces d [va_rf r0, .int x1, .int x2] σ (f_Text_beforeSpaces r0 x1 x2 σ) := by
  refine rb_start (lv := [some (va_rf r0), some (.int x1), some (.int x2), none]) (by decide) (by simp [lg_sl, rb_as, lv_args, rb_cat_r, rb_cat_i, rb_cat_l, rb_nL, k_Text_beforeSpaces]) (fun res => ?_)
  unfold f_Text_beforeSpaces
  refine rb_TC.mono (rk_iload_n 2 d_Text_beforeSpaces_0 rfl rfl) ?_
  refine rb_TC.mono (rk_istore_n (lv2 := [some (va_rf r0), some (.int x1), some (.int x2), some (.int x2)]) 3 d_Text_beforeSpaces_1 rfl (by decide) (fun _ => rb_one_i) rfl) ?_
  refine rb_TC.mono (rk_less (lv2 := [some (va_rf r0), some (.int x1), none, some (.int x2)]) (rb_le_ok (rb_leS (rb_leS (rb_leN (rb_leS rb_le0)))))) ?_
  exact rb_TC.loop2 (A := (fun z : (Int32 × rb_St) => rb_WK E k_Text_beforeSpaces d σ res 2 [some (va_rf r0), some (.int x1), none, some (.int z.1)] [] z.2)) (x2, σ) (fun z => t_Text_beforeSpaces_b2 hdd  (r0) (x1) (z.1) z.2)
-- ===== java/lang/String.coder()B
def k_Str_coder : rb_MK := (⟨"java/lang/String", "coder", "()B"⟩, prog_17_method_152_code, 1, some (.byte))
theorem mw_Str_coder : rb_Mw k_Str_coder 0 := ⟨rb_inG 596 (by decide +kernel) rfl, rb_inG 96 (by decide +kernel) rfl, ⟨by decide, by decide, by decide +kernel⟩, by decide⟩
theorem d_Str_coder_0 : decode prog_17_method_152_code 0 = .ok (.getstatic 38, 3) := by decide +kernel
theorem d_Str_coder_3 : decode prog_17_method_152_code 3 = .ok (.ifCond .eq 10, 3) := by decide +kernel
theorem d_Str_coder_6 : decode prog_17_method_152_code 6 = .ok (.aload_n 0, 1) := by decide +kernel
theorem d_Str_coder_7 : decode prog_17_method_152_code 7 = .ok (.getfield 15, 3) := by decide +kernel
theorem d_Str_coder_10 : decode prog_17_method_152_code 10 = .ok (.goto 4, 3) := by decide +kernel
theorem d_Str_coder_14 : decode prog_17_method_152_code 14 = .ok (.ireturn, 1) := by decide +kernel
noncomputable def f_Str_coder (r0 : Option Nat) (σ : rb_St) : Option rb_Rs :=
  if (1 : Int32) = 0 then (none) else ((rb_gI σ r0 14 1).bind fun x_1 => if rb_isB x_1 then some (some (.int x_1), σ) else none)
theorem s_Str_coder {E : rb_EV} {d : Nat} (hdd : 0 ≤ d) (r0 : Option Nat) (σ : rb_St) : rb_Does E k_Str_coder d [va_rf r0] σ (f_Str_coder r0 σ) := by
  refine rb_start (lv := [some (va_rf r0)]) (by decide) (by simp [lg_sl, rb_as, lv_args, rb_cat_r, rb_cat_i, rb_cat_l, rb_nL, k_Str_coder]) (fun res => ?_)
  unfold f_Str_coder
  refine rb_TC.mono (rk_compact w_fl_Str_38 d_Str_coder_0) ?_
  refine rt_if_eq 13 d_Str_coder_3 (by decide) (fun _ => ?_) (fun _ => ?_)
  · exact rb_TC.none
  · refine rb_TC.mono (rk_aload_n 0 d_Str_coder_6 rfl rfl) ?_
    refine rt_gI r0 fw_Str_15 d_Str_coder_7 (fun x_1 => ?_)
    refine rb_TC.mono (rk_goto 14 d_Str_coder_10 (by decide)) ?_
    refine rb_TC.ite (fun hn => ?_) (fun _ => rb_TC.none)
    exact rt_iret (ty := .byte) rfl (rb_nar_B hn) (fun h => h) d_Str_coder_14
-- ===== java/lang/String.length()I
def k_Str_length : rb_MK := (⟨"java/lang/String", "length", "()I"⟩, prog_17_method_54_code, 1, some (.int))
theorem mw_Str_length : rb_Mw k_Str_length 0 := ⟨rb_inG 592 (by decide +kernel) rfl, rb_inG 96 (by decide +kernel) rfl, ⟨by decide, by decide, by decide +kernel⟩, by decide⟩
theorem vw_Str_335 : rb_Vw "java/lang/String" 335 k_Str_coder 14 0 := ⟨mw_Str_coder, rb_inG 593 (by decide +kernel) rfl, rb_inG 594 (by decide +kernel) rfl, rb_inG 595 (by decide +kernel) rfl, by decide, by decide, _, rfl, rfl⟩
theorem d_Str_length_0 : decode prog_17_method_54_code 0 = .ok (.aload_n 0, 1) := by decide +kernel
theorem d_Str_length_1 : decode prog_17_method_54_code 1 = .ok (.getfield 9, 3) := by decide +kernel
theorem d_Str_length_4 : decode prog_17_method_54_code 4 = .ok (.arraylength, 1) := by decide +kernel
theorem d_Str_length_5 : decode prog_17_method_54_code 5 = .ok (.aload_n 0, 1) := by decide +kernel
theorem d_Str_length_6 : decode prog_17_method_54_code 6 = .ok (.invokevirtual 335, 3) := by decide +kernel
theorem d_Str_length_9 : decode prog_17_method_54_code 9 = .ok (.ishr, 1) := by decide +kernel
theorem d_Str_length_10 : decode prog_17_method_54_code 10 = .ok (.ireturn, 1) := by decide +kernel
noncomputable def f_Str_length (r0 : Option Nat) (σ : rb_St) : Option rb_Rs :=
  (rb_gR σ r0 14 0).bind fun r_1 => (rb_len σ r_1 105).bind fun x_2 => (rb_fc σ r0 14).bind fun _ => rb_cI (f_Str_coder (r0)  σ) fun x_3 σ_4 => some (some (.int (x_2 >>> (x_3 &&& 31))), σ_4)
theorem s_Str_length {E : rb_EV} {d : Nat} (hdd : 1 ≤ d) (r0 : Option Nat) (σ : rb_St) : rb_Does E k_Str_length d [va_rf r0] σ (f_Str_length r0 σ) := by
  refine rb_start (lv := [some (va_rf r0)]) (by decide) (by simp [lg_sl, rb_as, lv_args, rb_cat_r, rb_cat_i, rb_cat_l, rb_nL, k_Str_length]) (fun res => ?_)
  unfold f_Str_length
  refine rb_TC.mono (rk_aload_n 0 d_Str_length_0 rfl rfl) ?_
  refine rt_gR r0 fw_Str_9 d_Str_length_1 (fun r_1 => ?_)
  refine rt_len (t := 105) r_1 (by decide) d_Str_length_4 (fun x_2 => ?_)
  refine rb_TC.mono (rk_aload_n 0 d_Str_length_5 rfl rfl) ?_
  refine rt_vI (As := []) (st := [.int x_2]) (r0) vw_Str_335 (s_Str_coder (Nat.le_refl _) (r0)  σ) (Nat.le_trans (by decide) hdd) rfl (by simp [rb_cat_r, rb_cat_i, rb_cat_l]) d_Str_length_6 (fun x_3 σ_4 => ?_)
  refine rb_TC.mono (rk_ishr d_Str_length_9) ?_
  exact rt_iret (ty := .int) rfl rfl (fun h => h) d_Str_length_10
-- ===== java/lang/String.isLatin1()Z
def k_Str_isLatin1 : rb_MK := (⟨"java/lang/String", "isLatin1", "()Z"⟩, prog_17_method_154_code, 1, some (.boolean))
theorem mw_Str_isLatin1 : rb_Mw k_Str_isLatin1 0 := ⟨rb_inG 604 (by decide +kernel) rfl, rb_inG 96 (by decide +kernel) rfl, ⟨by decide, by decide, by decide +kernel⟩, by decide⟩
theorem d_Str_isLatin1_0 : decode prog_17_method_154_code 0 = .ok (.getstatic 38, 3) := by decide +kernel
theorem d_Str_isLatin1_3 : decode prog_17_method_154_code 3 = .ok (.ifCond .eq 14, 3) := by decide +kernel
theorem d_Str_isLatin1_6 : decode prog_17_method_154_code 6 = .ok (.aload_n 0, 1) := by decide +kernel
theorem d_Str_isLatin1_7 : decode prog_17_method_154_code 7 = .ok (.getfield 15, 3) := by decide +kernel
theorem d_Str_isLatin1_10 : decode prog_17_method_154_code 10 = .ok (.ifCond .ne 7, 3) := by decide +kernel
theorem d_Str_isLatin1_13 : decode prog_17_method_154_code 13 = .ok (.iconst 1, 1) := by decide +kernel
theorem d_Str_isLatin1_14 : decode prog_17_method_154_code 14 = .ok (.goto 4, 3) := by decide +kernel
theorem d_Str_isLatin1_17 : decode prog_17_method_154_code 17 = .ok (.iconst 0, 1) := by decide +kernel
theorem d_Str_isLatin1_18 : decode prog_17_method_154_code 18 = .ok (.ireturn, 1) := by decide +kernel
noncomputable def f_Str_isLatin1 (r0 : Option Nat) (σ : rb_St) : Option rb_Rs :=
  if (1 : Int32) = 0 then (none) else ((rb_gI σ r0 14 1).bind fun x_1 => if x_1 = 0 then (some (some (.int (1 : Int32)), σ)) else (some (some (.int (0 : Int32)), σ)))
theorem s_Str_isLatin1 {E : rb_EV} {d : Nat} (hdd : 0 ≤ d) (r0 : Option Nat) (σ : rb_St) : rb_Does E k_Str_isLatin1 d [va_rf r0] σ (f_Str_isLatin1 r0 σ) := by
  refine rb_start (lv := [some (va_rf r0)]) (by decide) (by simp [lg_sl, rb_as, lv_args, rb_cat_r, rb_cat_i, rb_cat_l, rb_nL, k_Str_isLatin1]) (fun res => ?_)
  unfold f_Str_isLatin1
  refine rb_TC.mono (rk_compact w_fl_Str_38 d_Str_isLatin1_0) ?_
  refine rt_if_eq 17 d_Str_isLatin1_3 (by decide) (fun _ => ?_) (fun _ => ?_)
  · exact rb_TC.none
  · refine rb_TC.mono (rk_aload_n 0 d_Str_isLatin1_6 rfl rfl) ?_
    refine rt_gI r0 fw_Str_15 d_Str_isLatin1_7 (fun x_1 => ?_)
    refine rt_if_ne 17 d_Str_isLatin1_10 (by decide) (fun _ => ?_) (fun _ => ?_)
    · refine rb_TC.mono (rk_iconst (1 : Int32) d_Str_isLatin1_13 (by decide)) ?_
      refine rb_TC.mono (rk_goto 18 d_Str_isLatin1_14 (by decide)) ?_
      exact rt_iret (ty := .boolean) rfl (by decide) (fun h => h) d_Str_isLatin1_18
    · refine rb_TC.mono (rk_iconst (0 : Int32) d_Str_isLatin1_17 (by decide)) ?_
      exact rt_iret (ty := .boolean) rfl (by decide) (fun h => h) d_Str_isLatin1_18
-- ===== jdk/internal/util/Preconditions.checkIndex(IILjava/util/function/BiFunction;)I
def k_Pre_checkIndex : rb_MK := (⟨"jdk/internal/util/Preconditions", "checkIndex", "(IILjava/util/function/BiFunction;)I"⟩, prog_22_method_11_code, 3, some (.int))
theorem mw_Pre_checkIndex : rb_Mw k_Pre_checkIndex 3 := ⟨rb_inG 613 (by decide +kernel) rfl, rb_inG 98 (by decide +kernel) rfl, ⟨by decide, by decide, by decide +kernel⟩, by decide⟩
theorem d_Pre_checkIndex_0 : decode prog_22_method_11_code 0 = .ok (.iload_n 0, 1) := by decide +kernel
theorem d_Pre_checkIndex_1 : decode prog_22_method_11_code 1 = .ok (.ifCond .lt 8, 3) := by decide +kernel
theorem d_Pre_checkIndex_4 : decode prog_22_method_11_code 4 = .ok (.iload_n 0, 1) := by decide +kernel
theorem d_Pre_checkIndex_5 : decode prog_22_method_11_code 5 = .ok (.iload_n 1, 1) := by decide +kernel
theorem d_Pre_checkIndex_6 : decode prog_22_method_11_code 6 = .ok (.if_icmp .lt 10, 3) := by decide +kernel
theorem d_Pre_checkIndex_9 : decode prog_22_method_11_code 9 = .ok (.aload_n 2, 1) := by decide +kernel
theorem d_Pre_checkIndex_10 : decode prog_22_method_11_code 10 = .ok (.iload_n 0, 1) := by decide +kernel
theorem d_Pre_checkIndex_11 : decode prog_22_method_11_code 11 = .ok (.iload_n 1, 1) := by decide +kernel
theorem d_Pre_checkIndex_12 : decode prog_22_method_11_code 12 = .ok (.invokestatic 95, 3) := by decide +kernel
theorem d_Pre_checkIndex_16 : decode prog_22_method_11_code 16 = .ok (.iload_n 0, 1) := by decide +kernel
theorem d_Pre_checkIndex_17 : decode prog_22_method_11_code 17 = .ok (.ireturn, 1) := by decide +kernel
noncomputable def f_Pre_checkIndex_j9 (x0 : Int32) (x1 : Int32) (r2 : Option Nat) (σ : rb_St) : Option rb_Rs :=
  none
theorem t_Pre_checkIndex_j9 {E : rb_EV} {d : Nat} {σ0 : rb_St} {res : rb_Rs} (hdd : 0 ≤ d)  (x0 : Int32) (x1 : Int32) (r2 : Option Nat) (σ : rb_St) : rb_TC (f_Pre_checkIndex_j9 x0 x1 r2 σ) (fun r => r = res) (rb_WK E k_Pre_checkIndex d σ0 res 9 [some (.int x0), some (.int x1), some (va_rf r2)] [] σ) := by
  unfold f_Pre_checkIndex_j9
  refine rb_TC.mono (rk_aload_n 2 d_Pre_checkIndex_9 rfl rfl) ?_
  refine rb_TC.mono (rk_iload_n 0 d_Pre_checkIndex_10 rfl rfl) ?_
  refine rb_TC.mono (rk_iload_n 1 d_Pre_checkIndex_11 rfl rfl) ?_
  exact rb_TC.none
noncomputable def f_Pre_checkIndex (x0 : Int32) (x1 : Int32) (r2 : Option Nat) (σ : rb_St) : Option rb_Rs :=
  if x0 < 0 then (f_Pre_checkIndex_j9 (x0) (x1) (r2) σ) else (if x0 < x1 then (some (some (.int x0), σ)) else (f_Pre_checkIndex_j9 (x0) (x1) (r2) σ))
theorem s_Pre_checkIndex {E : rb_EV} {d : Nat} (hdd : 0 ≤ d) (x0 : Int32) (x1 : Int32) (r2 : Option Nat) (σ : rb_St) : rb_Does E k_Pre_checkIndex d [.int x0, .int x1, va_rf r2] σ (f_Pre_checkIndex x0 x1 r2 σ) := by
  refine rb_start (lv := [some (.int x0), some (.int x1), some (va_rf r2)]) (by decide) (by simp [lg_sl, rb_as, lv_args, rb_cat_r, rb_cat_i, rb_cat_l, rb_nL, k_Pre_checkIndex]) (fun res => ?_)
  unfold f_Pre_checkIndex
  refine rb_TC.mono (rk_iload_n 0 d_Pre_checkIndex_0 rfl rfl) ?_
  refine rt_if_lt 9 d_Pre_checkIndex_1 (by decide) (fun _ => ?_) (fun _ => ?_)
  · exact t_Pre_checkIndex_j9 hdd  (x0) (x1) (r2) σ
  · refine rb_TC.mono (rk_iload_n 0 d_Pre_checkIndex_4 rfl rfl) ?_
    refine rb_TC.mono (rk_iload_n 1 d_Pre_checkIndex_5 rfl rfl) ?_
    refine rt_icmp_lt 16 d_Pre_checkIndex_6 (by decide) (fun _ => ?_) (fun _ => ?_)
    · refine rb_TC.mono (rk_iload_n 0 d_Pre_checkIndex_16 rfl rfl) ?_
      exact rt_iret (ty := .int) rfl rfl (fun h => h) d_Pre_checkIndex_17
    · exact t_Pre_checkIndex_j9 hdd  (x0) (x1) (r2) σ
-- ===== java/lang/String.checkIndex(II)V
def k_Str_checkIndex : rb_MK := (⟨"java/lang/String", "checkIndex", "(II)V"⟩, prog_17_method_155_code, 2, none)
theorem mw_Str_checkIndex : rb_Mw k_Str_checkIndex 2 := ⟨rb_inG 610 (by decide +kernel) rfl, rb_inG 96 (by decide +kernel) rfl, ⟨by decide, by decide, by decide +kernel⟩, by decide⟩
theorem w_fl_Str_1053 : Cond.fieldLink "java/lang/String" 1053 "jdk/internal/util/Preconditions" "SIOOBE_FORMATTER" "Ljava/util/function/BiFunction;" ∈ rb_G := rb_inG 486 (by decide +kernel) rfl
theorem sw_Str_1059 : rb_Sw "java/lang/String" 1059 k_Pre_checkIndex 3 := ⟨mw_Pre_checkIndex, rb_inG 611 (by decide +kernel) rfl, rb_inG 612 (by decide +kernel) rfl⟩
theorem d_Str_checkIndex_0 : decode prog_17_method_155_code 0 = .ok (.iload_n 0, 1) := by decide +kernel
theorem d_Str_checkIndex_1 : decode prog_17_method_155_code 1 = .ok (.iload_n 1, 1) := by decide +kernel
theorem d_Str_checkIndex_2 : decode prog_17_method_155_code 2 = .ok (.getstatic 1053, 3) := by decide +kernel
theorem d_Str_checkIndex_5 : decode prog_17_method_155_code 5 = .ok (.invokestatic 1059, 3) := by decide +kernel
theorem d_Str_checkIndex_8 : decode prog_17_method_155_code 8 = .ok (.pop, 1) := by decide +kernel
theorem d_Str_checkIndex_9 : decode prog_17_method_155_code 9 = .ok (.return_, 1) := by decide +kernel
noncomputable def f_Str_checkIndex (x0 : Int32) (x1 : Int32) (σ : rb_St) : Option rb_Rs :=
  rb_cI (f_Pre_checkIndex (x0) (x1) ((rb_sf (rb_k σ))) σ) fun x_1 σ_2 => some (none, σ_2)
theorem s_Str_checkIndex {E : rb_EV} {d : Nat} (hdd : 1 ≤ d) (x0 : Int32) (x1 : Int32) (σ : rb_St) : rb_Does E k_Str_checkIndex d [.int x0, .int x1] σ (f_Str_checkIndex x0 x1 σ) := by
  refine rb_start (lv := [some (.int x0), some (.int x1)]) (by decide) (by simp [lg_sl, rb_as, lv_args, rb_cat_r, rb_cat_i, rb_cat_l, rb_nL, k_Str_checkIndex]) (fun res => ?_)
  unfold f_Str_checkIndex
  refine rb_TC.mono (rk_iload_n 0 d_Str_checkIndex_0 rfl rfl) ?_
  refine rb_TC.mono (rk_iload_n 1 d_Str_checkIndex_1 rfl rfl) ?_
  refine rb_TC.mono (rk_sioobe w_fl_Str_1053 d_Str_checkIndex_2) ?_
  refine rt_sI (As := [.int x0, .int x1, va_rf (rb_sf (rb_k σ))]) (st := []) sw_Str_1059 (s_Pre_checkIndex (Nat.le_refl _) (x0) (x1) ((rb_sf (rb_k σ))) σ) (Nat.le_trans (by decide) hdd) rfl (by simp [rb_cat_r, rb_cat_i, rb_cat_l]) d_Str_checkIndex_5 (fun x_1 σ_2 => ?_)
  refine rb_TC.mono (rk_popi d_Str_checkIndex_8) ?_
  exact rt_vret rfl (fun h => h) d_Str_checkIndex_9
-- ===== java/lang/StringLatin1.charAt([BI)C
def k_SL_charAt : rb_MK := (⟨"java/lang/StringLatin1", "charAt", "([BI)C"⟩, prog_18_method_2_code, 2, some (.char))
theorem mw_SL_charAt : rb_Mw k_SL_charAt 2 := ⟨rb_inG 607 (by decide +kernel) rfl, rb_inG 101 (by decide +kernel) rfl, ⟨by decide, by decide, by decide +kernel⟩, by decide⟩
theorem sw_SL_9 : rb_Sw "java/lang/StringLatin1" 9 k_Str_checkIndex 2 := ⟨mw_Str_checkIndex, rb_inG 608 (by decide +kernel) rfl, rb_inG 609 (by decide +kernel) rfl⟩
theorem d_SL_charAt_0 : decode prog_18_method_2_code 0 = .ok (.iload_n 1, 1) := by decide +kernel
theorem d_SL_charAt_1 : decode prog_18_method_2_code 1 = .ok (.aload_n 0, 1) := by decide +kernel
theorem d_SL_charAt_2 : decode prog_18_method_2_code 2 = .ok (.arraylength, 1) := by decide +kernel
theorem d_SL_charAt_3 : decode prog_18_method_2_code 3 = .ok (.invokestatic 9, 3) := by decide +kernel
theorem d_SL_charAt_6 : decode prog_18_method_2_code 6 = .ok (.aload_n 0, 1) := by decide +kernel
theorem d_SL_charAt_7 : decode prog_18_method_2_code 7 = .ok (.iload_n 1, 1) := by decide +kernel
theorem d_SL_charAt_8 : decode prog_18_method_2_code 8 = .ok (.baload, 1) := by decide +kernel
theorem d_SL_charAt_9 : decode prog_18_method_2_code 9 = .ok (.sipush 255, 3) := by decide +kernel
theorem d_SL_charAt_12 : decode prog_18_method_2_code 12 = .ok (.iand, 1) := by decide +kernel
theorem d_SL_charAt_13 : decode prog_18_method_2_code 13 = .ok (.i2c, 1) := by decide +kernel
theorem d_SL_charAt_14 : decode prog_18_method_2_code 14 = .ok (.ireturn, 1) := by decide +kernel
noncomputable def f_SL_charAt (r0 : Option Nat) (x1 : Int32) (σ : rb_St) : Option rb_Rs :=
  (rb_len σ r0 105).bind fun x_1 => rb_cV (f_Str_checkIndex (x1) (x_1) σ) fun σ_2 => (rb_aI σ_2 r0 105 x1).bind fun x_3 => if rb_isC (((x_3 &&& (255 : Int32)).toUInt32 % 65536).toInt32) then some (some (.int (((x_3 &&& (255 : Int32)).toUInt32 % 65536).toInt32)), σ_2) else none
theorem s_SL_charAt {E : rb_EV} {d : Nat} (hdd : 2 ≤ d) (r0 : Option Nat) (x1 : Int32) (σ : rb_St) : rb_Does E k_SL_charAt d [va_rf r0, .int x1] σ (f_SL_charAt r0 x1 σ) := by
  refine rb_start (lv := [some (va_rf r0), some (.int x1)]) (by decide) (by simp [lg_sl, rb_as, lv_args, rb_cat_r, rb_cat_i, rb_cat_l, rb_nL, k_SL_charAt]) (fun res => ?_)
  unfold f_SL_charAt
  refine rb_TC.mono (rk_iload_n 1 d_SL_charAt_0 rfl rfl) ?_
  refine rb_TC.mono (rk_aload_n 0 d_SL_charAt_1 rfl rfl) ?_
  refine rt_len (t := 105) r0 (by decide) d_SL_charAt_2 (fun x_1 => ?_)
  refine rt_sV (As := [.int x1, .int x_1]) (st := []) sw_SL_9 (s_Str_checkIndex (Nat.le_refl _) (x1) (x_1) σ) (Nat.le_trans (by decide) hdd) rfl (by simp [rb_cat_r, rb_cat_i, rb_cat_l]) d_SL_charAt_3 (fun σ_2 => ?_)
  refine rb_TC.mono (rk_aload_n 0 d_SL_charAt_6 rfl rfl) ?_
  refine rb_TC.mono (rk_iload_n 1 d_SL_charAt_7 rfl rfl) ?_
  refine rt_bald r0 d_SL_charAt_8 (fun x_3 => ?_)
  refine rb_TC.mono (rk_sipush (255 : Int32) d_SL_charAt_9 (by decide)) ?_
  refine rb_TC.mono (rk_iand d_SL_charAt_12) ?_
  refine rb_TC.mono (rk_i2c d_SL_charAt_13) ?_
  refine rb_TC.ite (fun hn => ?_) (fun _ => rb_TC.none)
  exact rt_iret (ty := .char) rfl (rb_nar_C hn) (fun h => h) d_SL_charAt_14
-- ===== java/lang/String.charAt(I)C
def k_Str_charAt : rb_MK := (⟨"java/lang/String", "charAt", "(I)C"⟩, prog_17_method_56_code, 2, some (.char))
theorem mw_Str_charAt : rb_Mw k_Str_charAt 1 := ⟨rb_inG 600 (by decide +kernel) rfl, rb_inG 96 (by decide +kernel) rfl, ⟨by decide, by decide, by decide +kernel⟩, by decide⟩
theorem sw_Str_495 : rb_Sw "java/lang/String" 495 k_SL_charAt 2 := ⟨mw_SL_charAt, rb_inG 605 (by decide +kernel) rfl, rb_inG 606 (by decide +kernel) rfl⟩
theorem vw_Str_492 : rb_Vw "java/lang/String" 492 k_Str_isLatin1 14 0 := ⟨mw_Str_isLatin1, rb_inG 601 (by decide +kernel) rfl, rb_inG 602 (by decide +kernel) rfl, rb_inG 603 (by decide +kernel) rfl, by decide, by decide, _, rfl, rfl⟩
theorem d_Str_charAt_0 : decode prog_17_method_56_code 0 = .ok (.aload_n 0, 1) := by decide +kernel
theorem d_Str_charAt_1 : decode prog_17_method_56_code 1 = .ok (.invokevirtual 492, 3) := by decide +kernel
theorem d_Str_charAt_4 : decode prog_17_method_56_code 4 = .ok (.ifCond .eq 12, 3) := by decide +kernel
theorem d_Str_charAt_7 : decode prog_17_method_56_code 7 = .ok (.aload_n 0, 1) := by decide +kernel
theorem d_Str_charAt_8 : decode prog_17_method_56_code 8 = .ok (.getfield 9, 3) := by decide +kernel
theorem d_Str_charAt_11 : decode prog_17_method_56_code 11 = .ok (.iload_n 1, 1) := by decide +kernel
theorem d_Str_charAt_12 : decode prog_17_method_56_code 12 = .ok (.invokestatic 495, 3) := by decide +kernel
theorem d_Str_charAt_15 : decode prog_17_method_56_code 15 = .ok (.ireturn, 1) := by decide +kernel
theorem d_Str_charAt_16 : decode prog_17_method_56_code 16 = .ok (.aload_n 0, 1) := by decide +kernel
theorem d_Str_charAt_17 : decode prog_17_method_56_code 17 = .ok (.getfield 9, 3) := by decide +kernel
theorem d_Str_charAt_20 : decode prog_17_method_56_code 20 = .ok (.iload_n 1, 1) := by decide +kernel
theorem d_Str_charAt_21 : decode prog_17_method_56_code 21 = .ok (.invokestatic 498, 3) := by decide +kernel
noncomputable def f_Str_charAt (r0 : Option Nat) (x1 : Int32) (σ : rb_St) : Option rb_Rs :=
  (rb_fc σ r0 14).bind fun _ => rb_cI (f_Str_isLatin1 (r0)  σ) fun x_1 σ_2 => if x_1 = 0 then ((rb_gR σ_2 r0 14 0).bind fun r_3 => none) else ((rb_gR σ_2 r0 14 0).bind fun r_4 => rb_cI (f_SL_charAt (r_4) (x1) σ_2) fun x_5 σ_6 => if rb_isC x_5 then some (some (.int x_5), σ_6) else none)
theorem s_Str_charAt {E : rb_EV} {d : Nat} (hdd : 3 ≤ d) (r0 : Option Nat) (x1 : Int32) (σ : rb_St) : rb_Does E k_Str_charAt d [va_rf r0, .int x1] σ (f_Str_charAt r0 x1 σ) := by
  refine rb_start (lv := [some (va_rf r0), some (.int x1)]) (by decide) (by simp [lg_sl, rb_as, lv_args, rb_cat_r, rb_cat_i, rb_cat_l, rb_nL, k_Str_charAt]) (fun res => ?_)
  unfold f_Str_charAt
  refine rb_TC.mono (rk_aload_n 0 d_Str_charAt_0 rfl rfl) ?_
  refine rt_vI (As := []) (st := []) (r0) vw_Str_492 (s_Str_isLatin1 (Nat.le_refl _) (r0)  σ) (Nat.le_trans (by decide) hdd) rfl (by simp [rb_cat_r, rb_cat_i, rb_cat_l]) d_Str_charAt_1 (fun x_1 σ_2 => ?_)
  refine rt_if_eq 16 d_Str_charAt_4 (by decide) (fun _ => ?_) (fun _ => ?_)
  · refine rb_TC.mono (rk_aload_n 0 d_Str_charAt_16 rfl rfl) ?_
    refine rt_gR r0 fw_Str_9 d_Str_charAt_17 (fun r_3 => ?_)
    refine rb_TC.mono (rk_iload_n 1 d_Str_charAt_20 rfl rfl) ?_
    exact rb_TC.none
  · refine rb_TC.mono (rk_aload_n 0 d_Str_charAt_7 rfl rfl) ?_
    refine rt_gR r0 fw_Str_9 d_Str_charAt_8 (fun r_4 => ?_)
    refine rb_TC.mono (rk_iload_n 1 d_Str_charAt_11 rfl rfl) ?_
    refine rt_sI (As := [va_rf r_4, .int x1]) (st := []) sw_Str_495 (s_SL_charAt (Nat.le_refl _) (r_4) (x1) σ_2) (Nat.le_trans (by decide) hdd) rfl (by simp [rb_cat_r, rb_cat_i, rb_cat_l]) d_Str_charAt_12 (fun x_5 σ_6 => ?_)
    refine rb_TC.ite (fun hn => ?_) (fun _ => rb_TC.none)
    exact rt_iret (ty := .char) rfl (rb_nar_C hn) (fun h => h) d_Str_charAt_15
-- ===== RuleBuilder$Text.holds(IILjava/lang/String;II)Z
def k_Text_holds : rb_MK := (⟨"RuleBuilder$Text", "holds", "(IILjava/lang/String;II)Z"⟩, prog_11_method_10_code, 7, some (.boolean))
theorem mw_Text_holds : rb_Mw k_Text_holds 5 := ⟨rb_inG 764 (by decide +kernel) rfl, rb_inG 86 (by decide +kernel) rfl, ⟨by decide, by decide, by decide +kernel⟩, by decide⟩
theorem vw_Text_23 : rb_Vw "RuleBuilder$Text" 23 k_Str_length 14 0 := ⟨mw_Str_length, rb_inG 765 (by decide +kernel) rfl, rb_inG 590 (by decide +kernel) rfl, rb_inG 591 (by decide +kernel) rfl, by decide, by decide, _, rfl, rfl⟩
theorem vw_Text_28 : rb_Vw "RuleBuilder$Text" 28 k_Str_charAt 14 1 := ⟨mw_Str_charAt, rb_inG 766 (by decide +kernel) rfl, rb_inG 598 (by decide +kernel) rfl, rb_inG 599 (by decide +kernel) rfl, by decide, by decide, _, rfl, rfl⟩
theorem d_Text_holds_0 : decode prog_11_method_10_code 0 = .ok (.iload_n 1, 1) := by decide +kernel
theorem d_Text_holds_1 : decode prog_11_method_10_code 1 = .ok (.ifCond .lt 25, 3) := by decide +kernel
theorem d_Text_holds_4 : decode prog_11_method_10_code 4 = .ok (.iload_n 2, 1) := by decide +kernel
theorem d_Text_holds_5 : decode prog_11_method_10_code 5 = .ok (.aload_n 0, 1) := by decide +kernel
theorem d_Text_holds_6 : decode prog_11_method_10_code 6 = .ok (.getfield 13, 3) := by decide +kernel
theorem d_Text_holds_9 : decode prog_11_method_10_code 9 = .ok (.if_icmp .gt 17, 3) := by decide +kernel
theorem d_Text_holds_12 : decode prog_11_method_10_code 12 = .ok (.iload 4, 2) := by decide +kernel
theorem d_Text_holds_14 : decode prog_11_method_10_code 14 = .ok (.ifCond .lt 12, 3) := by decide +kernel
theorem d_Text_holds_17 : decode prog_11_method_10_code 17 = .ok (.iload 5, 2) := by decide +kernel
theorem d_Text_holds_19 : decode prog_11_method_10_code 19 = .ok (.aload_n 3, 1) := by decide +kernel
theorem d_Text_holds_20 : decode prog_11_method_10_code 20 = .ok (.invokevirtual 23, 3) := by decide +kernel
theorem d_Text_holds_23 : decode prog_11_method_10_code 23 = .ok (.if_icmp .le 5, 3) := by decide +kernel
theorem d_Text_holds_26 : decode prog_11_method_10_code 26 = .ok (.iconst 0, 1) := by decide +kernel
theorem d_Text_holds_27 : decode prog_11_method_10_code 27 = .ok (.ireturn, 1) := by decide +kernel
theorem d_Text_holds_28 : decode prog_11_method_10_code 28 = .ok (.iload_n 2, 1) := by decide +kernel
theorem d_Text_holds_29 : decode prog_11_method_10_code 29 = .ok (.iload_n 1, 1) := by decide +kernel
theorem d_Text_holds_30 : decode prog_11_method_10_code 30 = .ok (.isub, 1) := by decide +kernel
theorem d_Text_holds_31 : decode prog_11_method_10_code 31 = .ok (.iload 5, 2) := by decide +kernel
theorem d_Text_holds_33 : decode prog_11_method_10_code 33 = .ok (.iload 4, 2) := by decide +kernel
theorem d_Text_holds_35 : decode prog_11_method_10_code 35 = .ok (.isub, 1) := by decide +kernel
theorem d_Text_holds_36 : decode prog_11_method_10_code 36 = .ok (.if_icmp .eq 5, 3) := by decide +kernel
theorem d_Text_holds_39 : decode prog_11_method_10_code 39 = .ok (.iconst 0, 1) := by decide +kernel
theorem d_Text_holds_40 : decode prog_11_method_10_code 40 = .ok (.ireturn, 1) := by decide +kernel
theorem d_Text_holds_41 : decode prog_11_method_10_code 41 = .ok (.iload_n 1, 1) := by decide +kernel
theorem d_Text_holds_42 : decode prog_11_method_10_code 42 = .ok (.istore 6, 2) := by decide +kernel
theorem d_Text_holds_44 : decode prog_11_method_10_code 44 = .ok (.iload 6, 2) := by decide +kernel
theorem d_Text_holds_46 : decode prog_11_method_10_code 46 = .ok (.iload_n 2, 1) := by decide +kernel
theorem d_Text_holds_47 : decode prog_11_method_10_code 47 = .ok (.if_icmp .ge 32, 3) := by decide +kernel
theorem d_Text_holds_50 : decode prog_11_method_10_code 50 = .ok (.aload_n 0, 1) := by decide +kernel
theorem d_Text_holds_51 : decode prog_11_method_10_code 51 = .ok (.getfield 7, 3) := by decide +kernel
theorem d_Text_holds_54 : decode prog_11_method_10_code 54 = .ok (.iload 6, 2) := by decide +kernel
theorem d_Text_holds_56 : decode prog_11_method_10_code 56 = .ok (.caload, 1) := by decide +kernel
theorem d_Text_holds_57 : decode prog_11_method_10_code 57 = .ok (.aload_n 3, 1) := by decide +kernel
theorem d_Text_holds_58 : decode prog_11_method_10_code 58 = .ok (.iload 4, 2) := by decide +kernel
theorem d_Text_holds_60 : decode prog_11_method_10_code 60 = .ok (.iload 6, 2) := by decide +kernel
theorem d_Text_holds_62 : decode prog_11_method_10_code 62 = .ok (.iadd, 1) := by decide +kernel
theorem d_Text_holds_63 : decode prog_11_method_10_code 63 = .ok (.iload_n 1, 1) := by decide +kernel
theorem d_Text_holds_64 : decode prog_11_method_10_code 64 = .ok (.isub, 1) := by decide +kernel
theorem d_Text_holds_65 : decode prog_11_method_10_code 65 = .ok (.invokevirtual 28, 3) := by decide +kernel
theorem d_Text_holds_68 : decode prog_11_method_10_code 68 = .ok (.if_icmp .eq 5, 3) := by decide +kernel
theorem d_Text_holds_71 : decode prog_11_method_10_code 71 = .ok (.iconst 0, 1) := by decide +kernel
theorem d_Text_holds_72 : decode prog_11_method_10_code 72 = .ok (.ireturn, 1) := by decide +kernel
theorem d_Text_holds_73 : decode prog_11_method_10_code 73 = .ok (.iinc 6 1, 3) := by decide +kernel
theorem d_Text_holds_76 : decode prog_11_method_10_code 76 = .ok (.goto (-32), 3) := by decide +kernel
theorem d_Text_holds_79 : decode prog_11_method_10_code 79 = .ok (.iconst 1, 1) := by decide +kernel
theorem d_Text_holds_80 : decode prog_11_method_10_code 80 = .ok (.ireturn, 1) := by decide +kernel
noncomputable def f_Text_holds_b44 (r0 : Option Nat) (x1 : Int32) (x2 : Int32) (r3 : Option Nat) (x4 : Int32) (x6 : Int32) (σ : rb_St) : Option ((Int32 × rb_St) ⊕ rb_Rs) :=
  if x2 ≤ x6 then ((some (some (.int (1 : Int32)), σ)).map Sum.inr) else ((rb_gR σ r0 2 0).bind fun r_4 => (rb_aI σ r_4 101 x6).bind fun x_5 => (rb_fc σ r3 14).bind fun _ => rb_cI (f_Str_charAt (r3) (((x4 + x6) - x1)) σ) fun x_6 σ_7 => if x_5 = x_6 then (some (.inl ((x6 + 1), σ_7))) else ((some (some (.int (0 : Int32)), σ_7)).map Sum.inr))
theorem t_Text_holds_b44 {E : rb_EV} {d : Nat} {σ0 : rb_St} {res : rb_Rs} (hdd : 4 ≤ d)  (r0 : Option Nat) (x1 : Int32) (x2 : Int32) (r3 : Option Nat) (x4 : Int32) (x6 : Int32) (σ : rb_St) : rb_TC (f_Text_holds_b44 r0 x1 x2 r3 x4 x6 σ) (Sum.elim (fun z : (Int32 × rb_St) => rb_WK E k_Text_holds d σ0 res 44 [some (va_rf r0), some (.int x1), some (.int x2), some (va_rf r3), some (.int x4), none, some (.int z.1)] [] z.2) (fun r => r = res)) (rb_WK E k_Text_holds d σ0 res 44 [some (va_rf r0), some (.int x1), some (.int x2), some (va_rf r3), some (.int x4), none, some (.int x6)] [] σ) := by
  unfold f_Text_holds_b44
  refine rb_TC.mono (rk_iload d_Text_holds_44 rfl) ?_
  refine rb_TC.mono (rk_iload_n 2 d_Text_holds_46 rfl rfl) ?_
  refine rt_icmp_ge 79 d_Text_holds_47 (by decide) (fun _ => ?_) (fun _ => ?_)
  · refine rb_TC.out ?_
    refine rb_TC.mono (rk_iconst (1 : Int32) d_Text_holds_79 (by decide)) ?_
    exact rt_iret (ty := .boolean) rfl (by decide) (fun h => h) d_Text_holds_80
  · refine rb_TC.mono (rk_aload_n 0 d_Text_holds_50 rfl rfl) ?_
    refine rt_gR r0 fw_Text_7 d_Text_holds_51 (fun r_4 => ?_)
    refine rb_TC.mono (rk_iload d_Text_holds_54 rfl) ?_
    refine rt_cald r_4 d_Text_holds_56 (fun x_5 => ?_)
    refine rb_TC.mono (rk_aload_n 3 d_Text_holds_57 rfl rfl) ?_
    refine rb_TC.mono (rk_iload d_Text_holds_58 rfl) ?_
    refine rb_TC.mono (rk_iload d_Text_holds_60 rfl) ?_
    refine rb_TC.mono (rk_iadd d_Text_holds_62) ?_
    refine rb_TC.mono (rk_iload_n 1 d_Text_holds_63 rfl rfl) ?_
    refine rb_TC.mono (rk_isub d_Text_holds_64) ?_
    refine rt_vI (As := [.int ((x4 + x6) - x1)]) (st := [.int x_5]) (r3) vw_Text_28 (s_Str_charAt (Nat.le_refl _) (r3) (((x4 + x6) - x1)) σ) (Nat.le_trans (by decide) hdd) rfl (by simp [rb_cat_r, rb_cat_i, rb_cat_l]) d_Text_holds_65 (fun x_6 σ_7 => ?_)
    refine rt_icmp_eq 73 d_Text_holds_68 (by decide) (fun _ => ?_) (fun _ => ?_)
    · refine rb_TC.mono (rk_iinc (lv2 := [some (va_rf r0), some (.int x1), some (.int x2), some (va_rf r3), some (.int x4), none, some (.int (x6 + 1))]) (x6 + 1) d_Text_holds_73 rfl rfl (by decide) (fun _ => rb_one_n) rfl) ?_
      refine rb_TC.mono (rk_goto 44 d_Text_holds_76 (by decide)) ?_
      exact rb_back
    · refine rb_TC.out ?_
      refine rb_TC.mono (rk_iconst (0 : Int32) d_Text_holds_71 (by decide)) ?_
      exact rt_iret (ty := .boolean) rfl (by decide) (fun h => h) d_Text_holds_72
noncomputable def f_Text_holds (r0 : Option Nat) (x1 : Int32) (x2 : Int32) (r3 : Option Nat) (x4 : Int32) (x5 : Int32) (σ : rb_St) : Option rb_Rs :=
  if x1 < 0 then (some (some (.int (0 : Int32)), σ)) else ((rb_gI σ r0 2 1).bind fun x_1 => if x_1 < x2 then (some (some (.int (0 : Int32)), σ)) else (if x4 < 0 then (some (some (.int (0 : Int32)), σ)) else ((rb_fc σ r3 14).bind fun _ => rb_cI (f_Str_length (r3)  σ) fun x_2 σ_3 => if x5 ≤ x_2 then (if (x2 - x1) = (x5 - x4) then (rb_it (fun z : (Int32 × rb_St) => f_Text_holds_b44 (r0) (x1) (x2) (r3) (x4) (z.1) z.2) (x1, σ_3)) else (some (some (.int (0 : Int32)), σ_3))) else (some (some (.int (0 : Int32)), σ_3)))))
theorem s_Text_holds {E : rb_EV} {d : Nat} (hdd : 4 ≤ d) (r0 : Option Nat) (x1 : Int32) (x2 : Int32) (r3 : Option Nat) (x4 : Int32) (x5 : Int32) (σ : rb_St) : rb_Does E k_Text_holds d [va_rf r0, .int x1, .int x2, va_rf r3, .int x4, .int x5] σ (f_Text_holds r0 x1 x2 r3 x4 x5 σ) := by
  refine rb_start (lv := [some (va_rf r0), some (.int x1), some (.int x2), some (va_rf r3), some (.int x4), some (.int x5), none]) (by decide) (by simp [lg_sl, rb_as, lv_args, rb_cat_r, rb_cat_i, rb_cat_l, rb_nL, k_Text_holds]) (fun res => ?_)
  unfold f_Text_holds
  refine rb_TC.mono (rk_iload_n 1 d_Text_holds_0 rfl rfl) ?_
  refine rt_if_lt 26 d_Text_holds_1 (by decide) (fun _ => ?_) (fun _ => ?_)
  · refine rb_TC.mono (rk_iconst (0 : Int32) d_Text_holds_26 (by decide)) ?_
    exact rt_iret (ty := .boolean) rfl (by decide) (fun h => h) d_Text_holds_27
  · refine rb_TC.mono (rk_iload_n 2 d_Text_holds_4 rfl rfl) ?_
    refine rb_TC.mono (rk_aload_n 0 d_Text_holds_5 rfl rfl) ?_
    refine rt_gI r0 fw_Text_13 d_Text_holds_6 (fun x_1 => ?_)
    refine rt_icmp_gt 26 d_Text_holds_9 (by decide) (fun _ => ?_) (fun _ => ?_)
    · refine rb_TC.mono (rk_iconst (0 : Int32) d_Text_holds_26 (by decide)) ?_
      exact rt_iret (ty := .boolean) rfl (by decide) (fun h => h) d_Text_holds_27
    · refine rb_TC.mono (rk_iload d_Text_holds_12 rfl) ?_
      refine rt_if_lt 26 d_Text_holds_14 (by decide) (fun _ => ?_) (fun _ => ?_)
      · refine rb_TC.mono (rk_iconst (0 : Int32) d_Text_holds_26 (by decide)) ?_
        exact rt_iret (ty := .boolean) rfl (by decide) (fun h => h) d_Text_holds_27
      · refine rb_TC.mono (rk_iload d_Text_holds_17 rfl) ?_
        refine rb_TC.mono (rk_aload_n 3 d_Text_holds_19 rfl rfl) ?_
        refine rt_vI (As := []) (st := [.int x5]) (r3) vw_Text_23 (s_Str_length (Nat.le_refl _) (r3)  σ) (Nat.le_trans (by decide) hdd) rfl (by simp [rb_cat_r, rb_cat_i, rb_cat_l]) d_Text_holds_20 (fun x_2 σ_3 => ?_)
        refine rt_icmp_le 28 d_Text_holds_23 (by decide) (fun _ => ?_) (fun _ => ?_)
        · refine rb_TC.mono (rk_iload_n 2 d_Text_holds_28 rfl rfl) ?_
          refine rb_TC.mono (rk_iload_n 1 d_Text_holds_29 rfl rfl) ?_
          refine rb_TC.mono (rk_isub d_Text_holds_30) ?_
          refine rb_TC.mono (rk_iload d_Text_holds_31 rfl) ?_
          refine rb_TC.mono (rk_iload d_Text_holds_33 rfl) ?_
          refine rb_TC.mono (rk_isub d_Text_holds_35) ?_
          refine rt_icmp_eq 41 d_Text_holds_36 (by decide) (fun _ => ?_) (fun _ => ?_)
          · refine rb_TC.mono (rk_iload_n 1 d_Text_holds_41 rfl rfl) ?_
            refine rb_TC.mono (rk_istore (lv2 := [some (va_rf r0), some (.int x1), some (.int x2), some (va_rf r3), some (.int x4), some (.int x5), some (.int x1)]) d_Text_holds_42 (by decide) (fun _ => rb_one_i) rfl) ?_
            refine rb_TC.mono (rk_less (lv2 := [some (va_rf r0), some (.int x1), some (.int x2), some (va_rf r3), some (.int x4), none, some (.int x1)]) (rb_le_ok (rb_leS (rb_leS (rb_leS (rb_leS (rb_leS (rb_leN (rb_leS rb_le0))))))))) ?_
            exact rb_TC.loop2 (A := (fun z : (Int32 × rb_St) => rb_WK E k_Text_holds d σ res 44 [some (va_rf r0), some (.int x1), some (.int x2), some (va_rf r3), some (.int x4), none, some (.int z.1)] [] z.2)) (x1, σ_3) (fun z => t_Text_holds_b44 hdd  (r0) (x1) (x2) (r3) (x4) (z.1) z.2)
          · refine rb_TC.mono (rk_iconst (0 : Int32) d_Text_holds_39 (by decide)) ?_
            exact rt_iret (ty := .boolean) rfl (by decide) (fun h => h) d_Text_holds_40
        · refine rb_TC.mono (rk_iconst (0 : Int32) d_Text_holds_26 (by decide)) ?_
          exact rt_iret (ty := .boolean) rfl (by decide) (fun h => h) d_Text_holds_27
-- ===== RuleBuilder$Text.replace(IILjava/lang/String;II)Z
def k_Text_replace : rb_MK := (⟨"RuleBuilder$Text", "replace", "(IILjava/lang/String;II)Z"⟩, prog_11_method_9_code, 8, some (.boolean))
theorem mw_Text_replace : rb_Mw k_Text_replace 5 := ⟨rb_inG 770 (by decide +kernel) rfl, rb_inG 86 (by decide +kernel) rfl, ⟨by decide, by decide, by decide +kernel⟩, by decide⟩
theorem fp_Text_replace_13 : rb_Fp k_Text_replace 13 2 1 .int := ⟨fw_Text_13, rfl, fun q h => by cases h; exact Or.inl rfl⟩
theorem d_Text_replace_0 : decode prog_11_method_9_code 0 = .ok (.aload_n 0, 1) := by decide +kernel
theorem d_Text_replace_1 : decode prog_11_method_9_code 1 = .ok (.getfield 13, 3) := by decide +kernel
theorem d_Text_replace_4 : decode prog_11_method_9_code 4 = .ok (.iload 5, 2) := by decide +kernel
theorem d_Text_replace_6 : decode prog_11_method_9_code 6 = .ok (.iload 4, 2) := by decide +kernel
theorem d_Text_replace_8 : decode prog_11_method_9_code 8 = .ok (.isub, 1) := by decide +kernel
theorem d_Text_replace_9 : decode prog_11_method_9_code 9 = .ok (.iadd, 1) := by decide +kernel
theorem d_Text_replace_10 : decode prog_11_method_9_code 10 = .ok (.iload_n 2, 1) := by decide +kernel
theorem d_Text_replace_11 : decode prog_11_method_9_code 11 = .ok (.iload_n 1, 1) := by decide +kernel
theorem d_Text_replace_12 : decode prog_11_method_9_code 12 = .ok (.isub, 1) := by decide +kernel
theorem d_Text_replace_13 : decode prog_11_method_9_code 13 = .ok (.isub, 1) := by decide +kernel
theorem d_Text_replace_14 : decode prog_11_method_9_code 14 = .ok (.istore 6, 2) := by decide +kernel
theorem d_Text_replace_16 : decode prog_11_method_9_code 16 = .ok (.iload_n 1, 1) := by decide +kernel
theorem d_Text_replace_17 : decode prog_11_method_9_code 17 = .ok (.ifCond .lt 35, 3) := by decide +kernel
theorem d_Text_replace_20 : decode prog_11_method_9_code 20 = .ok (.iload_n 2, 1) := by decide +kernel
theorem d_Text_replace_21 : decode prog_11_method_9_code 21 = .ok (.iload_n 1, 1) := by decide +kernel
theorem d_Text_replace_22 : decode prog_11_method_9_code 22 = .ok (.if_icmp .lt 30, 3) := by decide +kernel
theorem d_Text_replace_25 : decode prog_11_method_9_code 25 = .ok (.iload_n 2, 1) := by decide +kernel
theorem d_Text_replace_26 : decode prog_11_method_9_code 26 = .ok (.aload_n 0, 1) := by decide +kernel
theorem d_Text_replace_27 : decode prog_11_method_9_code 27 = .ok (.getfield 13, 3) := by decide +kernel
theorem d_Text_replace_30 : decode prog_11_method_9_code 30 = .ok (.if_icmp .gt 22, 3) := by decide +kernel
theorem d_Text_replace_33 : decode prog_11_method_9_code 33 = .ok (.iload 5, 2) := by decide +kernel
theorem d_Text_replace_35 : decode prog_11_method_9_code 35 = .ok (.aload_n 3, 1) := by decide +kernel
theorem d_Text_replace_36 : decode prog_11_method_9_code 36 = .ok (.invokevirtual 23, 3) := by decide +kernel
theorem d_Text_replace_39 : decode prog_11_method_9_code 39 = .ok (.if_icmp .gt 13, 3) := by decide +kernel
theorem d_Text_replace_42 : decode prog_11_method_9_code 42 = .ok (.iload 6, 2) := by decide +kernel
theorem d_Text_replace_44 : decode prog_11_method_9_code 44 = .ok (.aload_n 0, 1) := by decide +kernel
theorem d_Text_replace_45 : decode prog_11_method_9_code 45 = .ok (.getfield 7, 3) := by decide +kernel
theorem d_Text_replace_48 : decode prog_11_method_9_code 48 = .ok (.arraylength, 1) := by decide +kernel
theorem d_Text_replace_49 : decode prog_11_method_9_code 49 = .ok (.if_icmp .le 5, 3) := by decide +kernel
theorem d_Text_replace_52 : decode prog_11_method_9_code 52 = .ok (.iconst 0, 1) := by decide +kernel
theorem d_Text_replace_53 : decode prog_11_method_9_code 53 = .ok (.ireturn, 1) := by decide +kernel
theorem d_Text_replace_54 : decode prog_11_method_9_code 54 = .ok (.aload_n 0, 1) := by decide +kernel
theorem d_Text_replace_55 : decode prog_11_method_9_code 55 = .ok (.getfield 7, 3) := by decide +kernel
theorem d_Text_replace_58 : decode prog_11_method_9_code 58 = .ok (.iload_n 2, 1) := by decide +kernel
theorem d_Text_replace_59 : decode prog_11_method_9_code 59 = .ok (.aload_n 0, 1) := by decide +kernel
theorem d_Text_replace_60 : decode prog_11_method_9_code 60 = .ok (.getfield 7, 3) := by decide +kernel
theorem d_Text_replace_63 : decode prog_11_method_9_code 63 = .ok (.iload_n 1, 1) := by decide +kernel
theorem d_Text_replace_64 : decode prog_11_method_9_code 64 = .ok (.iload 5, 2) := by decide +kernel
theorem d_Text_replace_66 : decode prog_11_method_9_code 66 = .ok (.iadd, 1) := by decide +kernel
theorem d_Text_replace_67 : decode prog_11_method_9_code 67 = .ok (.iload 4, 2) := by decide +kernel
theorem d_Text_replace_69 : decode prog_11_method_9_code 69 = .ok (.isub, 1) := by decide +kernel
theorem d_Text_replace_70 : decode prog_11_method_9_code 70 = .ok (.aload_n 0, 1) := by decide +kernel
theorem d_Text_replace_71 : decode prog_11_method_9_code 71 = .ok (.getfield 13, 3) := by decide +kernel
theorem d_Text_replace_74 : decode prog_11_method_9_code 74 = .ok (.iload_n 2, 1) := by decide +kernel
theorem d_Text_replace_75 : decode prog_11_method_9_code 75 = .ok (.isub, 1) := by decide +kernel
theorem d_Text_replace_76 : decode prog_11_method_9_code 76 = .ok (.invokestatic 32, 3) := by decide +kernel
theorem d_Text_replace_79 : decode prog_11_method_9_code 79 = .ok (.iload 4, 2) := by decide +kernel
theorem d_Text_replace_81 : decode prog_11_method_9_code 81 = .ok (.istore 7, 2) := by decide +kernel
theorem d_Text_replace_83 : decode prog_11_method_9_code 83 = .ok (.iload 7, 2) := by decide +kernel
theorem d_Text_replace_85 : decode prog_11_method_9_code 85 = .ok (.iload 5, 2) := by decide +kernel
theorem d_Text_replace_87 : decode prog_11_method_9_code 87 = .ok (.if_icmp .ge 27, 3) := by decide +kernel
theorem d_Text_replace_90 : decode prog_11_method_9_code 90 = .ok (.aload_n 0, 1) := by decide +kernel
theorem d_Text_replace_91 : decode prog_11_method_9_code 91 = .ok (.getfield 7, 3) := by decide +kernel
theorem d_Text_replace_94 : decode prog_11_method_9_code 94 = .ok (.iload_n 1, 1) := by decide +kernel
theorem d_Text_replace_95 : decode prog_11_method_9_code 95 = .ok (.iload 7, 2) := by decide +kernel
theorem d_Text_replace_97 : decode prog_11_method_9_code 97 = .ok (.iadd, 1) := by decide +kernel
theorem d_Text_replace_98 : decode prog_11_method_9_code 98 = .ok (.iload 4, 2) := by decide +kernel
theorem d_Text_replace_100 : decode prog_11_method_9_code 100 = .ok (.isub, 1) := by decide +kernel
theorem d_Text_replace_101 : decode prog_11_method_9_code 101 = .ok (.aload_n 3, 1) := by decide +kernel
theorem d_Text_replace_102 : decode prog_11_method_9_code 102 = .ok (.iload 7, 2) := by decide +kernel
theorem d_Text_replace_104 : decode prog_11_method_9_code 104 = .ok (.invokevirtual 28, 3) := by decide +kernel
theorem d_Text_replace_107 : decode prog_11_method_9_code 107 = .ok (.castore, 1) := by decide +kernel
theorem d_Text_replace_108 : decode prog_11_method_9_code 108 = .ok (.iinc 7 1, 3) := by decide +kernel
theorem d_Text_replace_111 : decode prog_11_method_9_code 111 = .ok (.goto (-28), 3) := by decide +kernel
theorem d_Text_replace_114 : decode prog_11_method_9_code 114 = .ok (.aload_n 0, 1) := by decide +kernel
theorem d_Text_replace_115 : decode prog_11_method_9_code 115 = .ok (.iload 6, 2) := by decide +kernel
theorem d_Text_replace_117 : decode prog_11_method_9_code 117 = .ok (.putfield 13, 3) := by decide +kernel
theorem d_Text_replace_120 : decode prog_11_method_9_code 120 = .ok (.iconst 1, 1) := by decide +kernel
theorem d_Text_replace_121 : decode prog_11_method_9_code 121 = .ok (.ireturn, 1) := by decide +kernel
noncomputable def f_Text_replace_b83 (r0 : Option Nat) (x1 : Int32) (r3 : Option Nat) (x4 : Int32) (x5 : Int32) (x6 : Int32) (x7 : Int32) (σ : rb_St) : Option ((Int32 × rb_St) ⊕ rb_Rs) :=
  if x5 ≤ x7 then (((rb_pI σ r0 2 1 x6).bind fun σ_11 => some (some (.int (1 : Int32)), σ_11)).map Sum.inr) else ((rb_gR σ r0 2 0).bind fun r_12 => (rb_fc σ r3 14).bind fun _ => rb_cI (f_Str_charAt (r3) (x7) σ) fun x_13 σ_14 => (rb_sI σ_14 r_12 101 ((x1 + x7) - x4) x_13).bind fun σ_15 => some (.inl ((x7 + 1), σ_15)))
theorem t_Text_replace_b83 {E : rb_EV} {d : Nat} {σ0 : rb_St} {res : rb_Rs} (hdd : 4 ≤ d)  (r0 : Option Nat) (x1 : Int32) (r3 : Option Nat) (x4 : Int32) (x5 : Int32) (x6 : Int32) (x7 : Int32) (σ : rb_St) : rb_TC (f_Text_replace_b83 r0 x1 r3 x4 x5 x6 x7 σ) (Sum.elim (fun z : (Int32 × rb_St) => rb_WK E k_Text_replace d σ0 res 83 [some (va_rf r0), some (.int x1), none, some (va_rf r3), some (.int x4), some (.int x5), some (.int x6), some (.int z.1)] [] z.2) (fun r => r = res)) (rb_WK E k_Text_replace d σ0 res 83 [some (va_rf r0), some (.int x1), none, some (va_rf r3), some (.int x4), some (.int x5), some (.int x6), some (.int x7)] [] σ) := by
  unfold f_Text_replace_b83
  refine rb_TC.mono (rk_iload d_Text_replace_83 rfl) ?_
  refine rb_TC.mono (rk_iload d_Text_replace_85 rfl) ?_
  refine rt_icmp_ge 114 d_Text_replace_87 (by decide) (fun _ => ?_) (fun _ => ?_)
  · refine rb_TC.out ?_
    refine rb_TC.mono (rk_aload_n 0 d_Text_replace_114 rfl rfl) ?_
    refine rb_TC.mono (rk_iload d_Text_replace_115 rfl) ?_
    refine rt_pI r0 fp_Text_replace_13 d_Text_replace_117 (fun σ_11 => ?_)
    refine rb_TC.mono (rk_iconst (1 : Int32) d_Text_replace_120 (by decide)) ?_
    exact rt_iret (ty := .boolean) rfl (by decide) (fun h => h) d_Text_replace_121
  · refine rb_TC.mono (rk_aload_n 0 d_Text_replace_90 rfl rfl) ?_
    refine rt_gR r0 fw_Text_7 d_Text_replace_91 (fun r_12 => ?_)
    refine rb_TC.mono (rk_iload_n 1 d_Text_replace_94 rfl rfl) ?_
    refine rb_TC.mono (rk_iload d_Text_replace_95 rfl) ?_
    refine rb_TC.mono (rk_iadd d_Text_replace_97) ?_
    refine rb_TC.mono (rk_iload d_Text_replace_98 rfl) ?_
    refine rb_TC.mono (rk_isub d_Text_replace_100) ?_
    refine rb_TC.mono (rk_aload_n 3 d_Text_replace_101 rfl rfl) ?_
    refine rb_TC.mono (rk_iload d_Text_replace_102 rfl) ?_
    refine rt_vI (As := [.int x7]) (st := [.int ((x1 + x7) - x4), va_rf r_12]) (r3) vw_Text_28 (s_Str_charAt (Nat.le_refl _) (r3) (x7) σ) (Nat.le_trans (by decide) hdd) rfl (by simp [rb_cat_r, rb_cat_i, rb_cat_l]) d_Text_replace_104 (fun x_13 σ_14 => ?_)
    refine rt_cast r_12 d_Text_replace_107 (fun σ_15 => ?_)
    refine rb_TC.mono (rk_iinc (lv2 := [some (va_rf r0), some (.int x1), none, some (va_rf r3), some (.int x4), some (.int x5), some (.int x6), some (.int (x7 + 1))]) (x7 + 1) d_Text_replace_108 rfl rfl (by decide) (fun _ => rb_one_i) rfl) ?_
    refine rb_TC.mono (rk_goto 83 d_Text_replace_111 (by decide)) ?_
    exact rb_back
noncomputable def f_Text_replace (r0 : Option Nat) (x1 : Int32) (x2 : Int32) (r3 : Option Nat) (x4 : Int32) (x5 : Int32) (σ : rb_St) : Option rb_Rs :=
  (rb_gI σ r0 2 1).bind fun x_1 => if x1 < 0 then (some (some (.int (0 : Int32)), σ)) else (if x2 < x1 then (some (some (.int (0 : Int32)), σ)) else ((rb_gI σ r0 2 1).bind fun x_2 => if x_2 < x2 then (some (some (.int (0 : Int32)), σ)) else ((rb_fc σ r3 14).bind fun _ => rb_cI (f_Str_length (r3)  σ) fun x_3 σ_4 => if x_3 < x5 then (some (some (.int (0 : Int32)), σ_4)) else ((rb_gR σ_4 r0 2 0).bind fun r_5 => (rb_len σ_4 r_5 101).bind fun x_6 => if ((x_1 + (x5 - x4)) - (x2 - x1)) ≤ x_6 then ((rb_gR σ_4 r0 2 0).bind fun r_7 => (rb_gR σ_4 r0 2 0).bind fun r_8 => (rb_gI σ_4 r0 2 1).bind fun x_9 => (rb_cp σ_4 r_7 r_8 101 x2 ((x1 + x5) - x4) (x_9 - x2)).bind fun σ_10 => rb_it (fun z : (Int32 × rb_St) => f_Text_replace_b83 (r0) (x1) (r3) (x4) (x5) (((x_1 + (x5 - x4)) - (x2 - x1))) (z.1) z.2) (x4, σ_10)) else (some (some (.int (0 : Int32)), σ_4))))))
theorem s_Text_replace {E : rb_EV} {d : Nat} (hdd : 4 ≤ d) (r0 : Option Nat) (x1 : Int32) (x2 : Int32) (r3 : Option Nat) (x4 : Int32) (x5 : Int32) (σ : rb_St) : rb_Does E k_Text_replace d [va_rf r0, .int x1, .int x2, va_rf r3, .int x4, .int x5] σ (f_Text_replace r0 x1 x2 r3 x4 x5 σ) := by
  refine rb_start (lv := [some (va_rf r0), some (.int x1), some (.int x2), some (va_rf r3), some (.int x4), some (.int x5), none, none]) (by decide) (by simp [lg_sl, rb_as, lv_args, rb_cat_r, rb_cat_i, rb_cat_l, rb_nL, k_Text_replace]) (fun res => ?_)
  unfold f_Text_replace
  refine rb_TC.mono (rk_aload_n 0 d_Text_replace_0 rfl rfl) ?_
  refine rt_gI r0 fw_Text_13 d_Text_replace_1 (fun x_1 => ?_)
  refine rb_TC.mono (rk_iload d_Text_replace_4 rfl) ?_
  refine rb_TC.mono (rk_iload d_Text_replace_6 rfl) ?_
  refine rb_TC.mono (rk_isub d_Text_replace_8) ?_
  refine rb_TC.mono (rk_iadd d_Text_replace_9) ?_
  refine rb_TC.mono (rk_iload_n 2 d_Text_replace_10 rfl rfl) ?_
  refine rb_TC.mono (rk_iload_n 1 d_Text_replace_11 rfl rfl) ?_
  refine rb_TC.mono (rk_isub d_Text_replace_12) ?_
  refine rb_TC.mono (rk_isub d_Text_replace_13) ?_
  refine rb_TC.mono (rk_istore (lv2 := [some (va_rf r0), some (.int x1), some (.int x2), some (va_rf r3), some (.int x4), some (.int x5), some (.int ((x_1 + (x5 - x4)) - (x2 - x1))), none]) d_Text_replace_14 (by decide) (fun _ => rb_one_i) rfl) ?_
  refine rb_TC.mono (rk_iload_n 1 d_Text_replace_16 rfl rfl) ?_
  refine rt_if_lt 52 d_Text_replace_17 (by decide) (fun _ => ?_) (fun _ => ?_)
  · refine rb_TC.mono (rk_iconst (0 : Int32) d_Text_replace_52 (by decide)) ?_
    exact rt_iret (ty := .boolean) rfl (by decide) (fun h => h) d_Text_replace_53
  · refine rb_TC.mono (rk_iload_n 2 d_Text_replace_20 rfl rfl) ?_
    refine rb_TC.mono (rk_iload_n 1 d_Text_replace_21 rfl rfl) ?_
    refine rt_icmp_lt 52 d_Text_replace_22 (by decide) (fun _ => ?_) (fun _ => ?_)
    · refine rb_TC.mono (rk_iconst (0 : Int32) d_Text_replace_52 (by decide)) ?_
      exact rt_iret (ty := .boolean) rfl (by decide) (fun h => h) d_Text_replace_53
    · refine rb_TC.mono (rk_iload_n 2 d_Text_replace_25 rfl rfl) ?_
      refine rb_TC.mono (rk_aload_n 0 d_Text_replace_26 rfl rfl) ?_
      refine rt_gI r0 fw_Text_13 d_Text_replace_27 (fun x_2 => ?_)
      refine rt_icmp_gt 52 d_Text_replace_30 (by decide) (fun _ => ?_) (fun _ => ?_)
      · refine rb_TC.mono (rk_iconst (0 : Int32) d_Text_replace_52 (by decide)) ?_
        exact rt_iret (ty := .boolean) rfl (by decide) (fun h => h) d_Text_replace_53
      · refine rb_TC.mono (rk_iload d_Text_replace_33 rfl) ?_
        refine rb_TC.mono (rk_aload_n 3 d_Text_replace_35 rfl rfl) ?_
        refine rt_vI (As := []) (st := [.int x5]) (r3) vw_Text_23 (s_Str_length (Nat.le_refl _) (r3)  σ) (Nat.le_trans (by decide) hdd) rfl (by simp [rb_cat_r, rb_cat_i, rb_cat_l]) d_Text_replace_36 (fun x_3 σ_4 => ?_)
        refine rt_icmp_gt 52 d_Text_replace_39 (by decide) (fun _ => ?_) (fun _ => ?_)
        · refine rb_TC.mono (rk_iconst (0 : Int32) d_Text_replace_52 (by decide)) ?_
          exact rt_iret (ty := .boolean) rfl (by decide) (fun h => h) d_Text_replace_53
        · refine rb_TC.mono (rk_iload d_Text_replace_42 rfl) ?_
          refine rb_TC.mono (rk_aload_n 0 d_Text_replace_44 rfl rfl) ?_
          refine rt_gR r0 fw_Text_7 d_Text_replace_45 (fun r_5 => ?_)
          refine rt_len (t := 101) r_5 (by decide) d_Text_replace_48 (fun x_6 => ?_)
          refine rt_icmp_le 54 d_Text_replace_49 (by decide) (fun _ => ?_) (fun _ => ?_)
          · refine rb_TC.mono (rk_aload_n 0 d_Text_replace_54 rfl rfl) ?_
            refine rt_gR r0 fw_Text_7 d_Text_replace_55 (fun r_7 => ?_)
            refine rb_TC.mono (rk_iload_n 2 d_Text_replace_58 rfl rfl) ?_
            refine rb_TC.mono (rk_aload_n 0 d_Text_replace_59 rfl rfl) ?_
            refine rt_gR r0 fw_Text_7 d_Text_replace_60 (fun r_8 => ?_)
            refine rb_TC.mono (rk_iload_n 1 d_Text_replace_63 rfl rfl) ?_
            refine rb_TC.mono (rk_iload d_Text_replace_64 rfl) ?_
            refine rb_TC.mono (rk_iadd d_Text_replace_66) ?_
            refine rb_TC.mono (rk_iload d_Text_replace_67 rfl) ?_
            refine rb_TC.mono (rk_isub d_Text_replace_69) ?_
            refine rb_TC.mono (rk_aload_n 0 d_Text_replace_70 rfl rfl) ?_
            refine rt_gI r0 fw_Text_13 d_Text_replace_71 (fun x_9 => ?_)
            refine rb_TC.mono (rk_iload_n 2 d_Text_replace_74 rfl rfl) ?_
            refine rb_TC.mono (rk_isub d_Text_replace_75) ?_
            refine rt_acopy (t := 101) r_7 r_8 w_acopy_Text_32 (by decide) (Nat.le_trans (by decide) hdd) (by simp [rb_cat_r, rb_cat_i, rb_cat_l]) d_Text_replace_76 (fun σ_10 => ?_)
            refine rb_TC.mono (rk_iload d_Text_replace_79 rfl) ?_
            refine rb_TC.mono (rk_istore (lv2 := [some (va_rf r0), some (.int x1), some (.int x2), some (va_rf r3), some (.int x4), some (.int x5), some (.int ((x_1 + (x5 - x4)) - (x2 - x1))), some (.int x4)]) d_Text_replace_81 (by decide) (fun _ => rb_one_i) rfl) ?_
            refine rb_TC.mono (rk_less (lv2 := [some (va_rf r0), some (.int x1), none, some (va_rf r3), some (.int x4), some (.int x5), some (.int ((x_1 + (x5 - x4)) - (x2 - x1))), some (.int x4)]) (rb_le_ok (rb_leS (rb_leS (rb_leN (rb_leS (rb_leS (rb_leS (rb_leS (rb_leS rb_le0)))))))))) ?_
            exact rb_TC.loop2 (A := (fun z : (Int32 × rb_St) => rb_WK E k_Text_replace d σ res 83 [some (va_rf r0), some (.int x1), none, some (va_rf r3), some (.int x4), some (.int x5), some (.int ((x_1 + (x5 - x4)) - (x2 - x1))), some (.int z.1)] [] z.2)) (x4, σ_10) (fun z => t_Text_replace_b83 hdd  (r0) (x1) (r3) (x4) (x5) (((x_1 + (x5 - x4)) - (x2 - x1))) (z.1) z.2)
          · refine rb_TC.mono (rk_iconst (0 : Int32) d_Text_replace_52 (by decide)) ?_
            exact rt_iret (ty := .boolean) rfl (by decide) (fun h => h) d_Text_replace_53
-- ===== RuleBuilder$Text.addPart(Ljava/lang/String;II)Z
def k_Text_addPart : rb_MK := (⟨"RuleBuilder$Text", "addPart", "(Ljava/lang/String;II)Z"⟩, prog_11_method_7_code, 5, some (.boolean))
theorem mw_Text_addPart : rb_Mw k_Text_addPart 3 := ⟨rb_inG 779 (by decide +kernel) rfl, rb_inG 86 (by decide +kernel) rfl, ⟨by decide, by decide, by decide +kernel⟩, by decide⟩
theorem fp_Text_addPart_13 : rb_Fp k_Text_addPart 13 2 1 .int := ⟨fw_Text_13, rfl, fun q h => by cases h; exact Or.inl rfl⟩
theorem w_mmax_Text_17 : rb_Xw "RuleBuilder$Text" 17 := ⟨rb_inG 780 (by decide +kernel) rfl, rb_inG 745 (by decide +kernel) rfl, rb_inG 103 (by decide +kernel) rfl, rb_inG 746 (by decide +kernel) rfl⟩
theorem d_Text_addPart_0 : decode prog_11_method_7_code 0 = .ok (.iload_n 2, 1) := by decide +kernel
theorem d_Text_addPart_1 : decode prog_11_method_7_code 1 = .ok (.iconst 0, 1) := by decide +kernel
theorem d_Text_addPart_2 : decode prog_11_method_7_code 2 = .ok (.invokestatic 17, 3) := by decide +kernel
theorem d_Text_addPart_5 : decode prog_11_method_7_code 5 = .ok (.istore 4, 2) := by decide +kernel
theorem d_Text_addPart_7 : decode prog_11_method_7_code 7 = .ok (.iload 4, 2) := by decide +kernel
theorem d_Text_addPart_9 : decode prog_11_method_7_code 9 = .ok (.iload_n 3, 1) := by decide +kernel
theorem d_Text_addPart_10 : decode prog_11_method_7_code 10 = .ok (.if_icmp .ge 57, 3) := by decide +kernel
theorem d_Text_addPart_13 : decode prog_11_method_7_code 13 = .ok (.iload 4, 2) := by decide +kernel
theorem d_Text_addPart_15 : decode prog_11_method_7_code 15 = .ok (.aload_n 1, 1) := by decide +kernel
theorem d_Text_addPart_16 : decode prog_11_method_7_code 16 = .ok (.invokevirtual 23, 3) := by decide +kernel
theorem d_Text_addPart_19 : decode prog_11_method_7_code 19 = .ok (.if_icmp .ge 48, 3) := by decide +kernel
theorem d_Text_addPart_22 : decode prog_11_method_7_code 22 = .ok (.aload_n 0, 1) := by decide +kernel
theorem d_Text_addPart_23 : decode prog_11_method_7_code 23 = .ok (.getfield 13, 3) := by decide +kernel
theorem d_Text_addPart_26 : decode prog_11_method_7_code 26 = .ok (.aload_n 0, 1) := by decide +kernel
theorem d_Text_addPart_27 : decode prog_11_method_7_code 27 = .ok (.getfield 7, 3) := by decide +kernel
theorem d_Text_addPart_30 : decode prog_11_method_7_code 30 = .ok (.arraylength, 1) := by decide +kernel
theorem d_Text_addPart_31 : decode prog_11_method_7_code 31 = .ok (.if_icmp .ne 5, 3) := by decide +kernel
theorem d_Text_addPart_34 : decode prog_11_method_7_code 34 = .ok (.iconst 0, 1) := by decide +kernel
theorem d_Text_addPart_35 : decode prog_11_method_7_code 35 = .ok (.ireturn, 1) := by decide +kernel
theorem d_Text_addPart_36 : decode prog_11_method_7_code 36 = .ok (.aload_n 0, 1) := by decide +kernel
theorem d_Text_addPart_37 : decode prog_11_method_7_code 37 = .ok (.getfield 7, 3) := by decide +kernel
theorem d_Text_addPart_40 : decode prog_11_method_7_code 40 = .ok (.aload_n 0, 1) := by decide +kernel
theorem d_Text_addPart_41 : decode prog_11_method_7_code 41 = .ok (.getfield 13, 3) := by decide +kernel
theorem d_Text_addPart_44 : decode prog_11_method_7_code 44 = .ok (.aload_n 1, 1) := by decide +kernel
theorem d_Text_addPart_45 : decode prog_11_method_7_code 45 = .ok (.iload 4, 2) := by decide +kernel
theorem d_Text_addPart_47 : decode prog_11_method_7_code 47 = .ok (.invokevirtual 28, 3) := by decide +kernel
theorem d_Text_addPart_50 : decode prog_11_method_7_code 50 = .ok (.castore, 1) := by decide +kernel
theorem d_Text_addPart_51 : decode prog_11_method_7_code 51 = .ok (.aload_n 0, 1) := by decide +kernel
theorem d_Text_addPart_52 : decode prog_11_method_7_code 52 = .ok (.dup, 1) := by decide +kernel
theorem d_Text_addPart_53 : decode prog_11_method_7_code 53 = .ok (.getfield 13, 3) := by decide +kernel
theorem d_Text_addPart_56 : decode prog_11_method_7_code 56 = .ok (.iconst 1, 1) := by decide +kernel
theorem d_Text_addPart_57 : decode prog_11_method_7_code 57 = .ok (.iadd, 1) := by decide +kernel
theorem d_Text_addPart_58 : decode prog_11_method_7_code 58 = .ok (.putfield 13, 3) := by decide +kernel
theorem d_Text_addPart_61 : decode prog_11_method_7_code 61 = .ok (.iinc 4 1, 3) := by decide +kernel
theorem d_Text_addPart_64 : decode prog_11_method_7_code 64 = .ok (.goto (-57), 3) := by decide +kernel
theorem d_Text_addPart_67 : decode prog_11_method_7_code 67 = .ok (.iconst 1, 1) := by decide +kernel
theorem d_Text_addPart_68 : decode prog_11_method_7_code 68 = .ok (.ireturn, 1) := by decide +kernel
noncomputable def f_Text_addPart_j67  (σ : rb_St) : Option rb_Rs :=
  some (some (.int (1 : Int32)), σ)
theorem t_Text_addPart_j67 {E : rb_EV} {d : Nat} {σ0 : rb_St} {res : rb_Rs} (hdd : 4 ≤ d)   (σ : rb_St) : rb_TC (f_Text_addPart_j67  σ) (fun r => r = res) (rb_WK E k_Text_addPart d σ0 res 67 [none, none, none, none, none] [] σ) := by
  unfold f_Text_addPart_j67
  refine rb_TC.mono (rk_iconst (1 : Int32) d_Text_addPart_67 (by decide)) ?_
  exact rt_iret (ty := .boolean) rfl (by decide) (fun h => h) d_Text_addPart_68
noncomputable def f_Text_addPart_b7 (r0 : Option Nat) (r1 : Option Nat) (x3 : Int32) (x4 : Int32) (σ : rb_St) : Option ((Int32 × rb_St) ⊕ rb_Rs) :=
  if x3 ≤ x4 then ((f_Text_addPart_j67  σ).map Sum.inr) else ((rb_fc σ r1 14).bind fun _ => rb_cI (f_Str_length (r1)  σ) fun x_1 σ_2 => if x_1 ≤ x4 then ((f_Text_addPart_j67  σ_2).map Sum.inr) else ((rb_gI σ_2 r0 2 1).bind fun x_3 => (rb_gR σ_2 r0 2 0).bind fun r_4 => (rb_len σ_2 r_4 101).bind fun x_5 => if x_3 = x_5 then ((some (some (.int (0 : Int32)), σ_2)).map Sum.inr) else ((rb_gR σ_2 r0 2 0).bind fun r_6 => (rb_gI σ_2 r0 2 1).bind fun x_7 => (rb_fc σ_2 r1 14).bind fun _ => rb_cI (f_Str_charAt (r1) (x4) σ_2) fun x_8 σ_9 => (rb_sI σ_9 r_6 101 x_7 x_8).bind fun σ_10 => (rb_gI σ_10 r0 2 1).bind fun x_11 => (rb_pI σ_10 r0 2 1 (x_11 + (1 : Int32))).bind fun σ_12 => some (.inl ((x4 + 1), σ_12)))))
theorem t_Text_addPart_b7 {E : rb_EV} {d : Nat} {σ0 : rb_St} {res : rb_Rs} (hdd : 4 ≤ d)  (r0 : Option Nat) (r1 : Option Nat) (x3 : Int32) (x4 : Int32) (σ : rb_St) : rb_TC (f_Text_addPart_b7 r0 r1 x3 x4 σ) (Sum.elim (fun z : (Int32 × rb_St) => rb_WK E k_Text_addPart d σ0 res 7 [some (va_rf r0), some (va_rf r1), none, some (.int x3), some (.int z.1)] [] z.2) (fun r => r = res)) (rb_WK E k_Text_addPart d σ0 res 7 [some (va_rf r0), some (va_rf r1), none, some (.int x3), some (.int x4)] [] σ) := by
  unfold f_Text_addPart_b7
  refine rb_TC.mono (rk_iload d_Text_addPart_7 rfl) ?_
  refine rb_TC.mono (rk_iload_n 3 d_Text_addPart_9 rfl rfl) ?_
  refine rt_icmp_ge 67 d_Text_addPart_10 (by decide) (fun _ => ?_) (fun _ => ?_)
  · refine rb_TC.out ?_
    refine rb_TC.mono (rk_less (lv2 := [none, none, none, none, none]) (rb_le_ok (rb_leN (rb_leN (rb_leN (rb_leN (rb_leN rb_le0))))))) ?_
    exact t_Text_addPart_j67 hdd   σ
  · refine rb_TC.mono (rk_iload d_Text_addPart_13 rfl) ?_
    refine rb_TC.mono (rk_aload_n 1 d_Text_addPart_15 rfl rfl) ?_
    refine rt_vI (As := []) (st := [.int x4]) (r1) vw_Text_23 (s_Str_length (Nat.le_refl _) (r1)  σ) (Nat.le_trans (by decide) hdd) rfl (by simp [rb_cat_r, rb_cat_i, rb_cat_l]) d_Text_addPart_16 (fun x_1 σ_2 => ?_)
    refine rt_icmp_ge 67 d_Text_addPart_19 (by decide) (fun _ => ?_) (fun _ => ?_)
    · refine rb_TC.out ?_
      refine rb_TC.mono (rk_less (lv2 := [none, none, none, none, none]) (rb_le_ok (rb_leN (rb_leN (rb_leN (rb_leN (rb_leN rb_le0))))))) ?_
      exact t_Text_addPart_j67 hdd   σ_2
    · refine rb_TC.mono (rk_aload_n 0 d_Text_addPart_22 rfl rfl) ?_
      refine rt_gI r0 fw_Text_13 d_Text_addPart_23 (fun x_3 => ?_)
      refine rb_TC.mono (rk_aload_n 0 d_Text_addPart_26 rfl rfl) ?_
      refine rt_gR r0 fw_Text_7 d_Text_addPart_27 (fun r_4 => ?_)
      refine rt_len (t := 101) r_4 (by decide) d_Text_addPart_30 (fun x_5 => ?_)
      refine rt_icmp_ne 36 d_Text_addPart_31 (by decide) (fun _ => ?_) (fun _ => ?_)
      · refine rb_TC.out ?_
        refine rb_TC.mono (rk_iconst (0 : Int32) d_Text_addPart_34 (by decide)) ?_
        exact rt_iret (ty := .boolean) rfl (by decide) (fun h => h) d_Text_addPart_35
      · refine rb_TC.mono (rk_aload_n 0 d_Text_addPart_36 rfl rfl) ?_
        refine rt_gR r0 fw_Text_7 d_Text_addPart_37 (fun r_6 => ?_)
        refine rb_TC.mono (rk_aload_n 0 d_Text_addPart_40 rfl rfl) ?_
        refine rt_gI r0 fw_Text_13 d_Text_addPart_41 (fun x_7 => ?_)
        refine rb_TC.mono (rk_aload_n 1 d_Text_addPart_44 rfl rfl) ?_
        refine rb_TC.mono (rk_iload d_Text_addPart_45 rfl) ?_
        refine rt_vI (As := [.int x4]) (st := [.int x_7, va_rf r_6]) (r1) vw_Text_28 (s_Str_charAt (Nat.le_refl _) (r1) (x4) σ_2) (Nat.le_trans (by decide) hdd) rfl (by simp [rb_cat_r, rb_cat_i, rb_cat_l]) d_Text_addPart_47 (fun x_8 σ_9 => ?_)
        refine rt_cast r_6 d_Text_addPart_50 (fun σ_10 => ?_)
        refine rb_TC.mono (rk_aload_n 0 d_Text_addPart_51 rfl rfl) ?_
        refine rb_TC.mono (rk_dupr d_Text_addPart_52) ?_
        refine rt_gI r0 fw_Text_13 d_Text_addPart_53 (fun x_11 => ?_)
        refine rb_TC.mono (rk_iconst (1 : Int32) d_Text_addPart_56 (by decide)) ?_
        refine rb_TC.mono (rk_iadd d_Text_addPart_57) ?_
        refine rt_pI r0 fp_Text_addPart_13 d_Text_addPart_58 (fun σ_12 => ?_)
        refine rb_TC.mono (rk_iinc (lv2 := [some (va_rf r0), some (va_rf r1), none, some (.int x3), some (.int (x4 + 1))]) (x4 + 1) d_Text_addPart_61 rfl rfl (by decide) (fun _ => rb_one_i) rfl) ?_
        refine rb_TC.mono (rk_goto 7 d_Text_addPart_64 (by decide)) ?_
        exact rb_back
noncomputable def f_Text_addPart (r0 : Option Nat) (r1 : Option Nat) (x2 : Int32) (x3 : Int32) (σ : rb_St) : Option rb_Rs :=
  rb_it (fun z : (Int32 × rb_St) => f_Text_addPart_b7 (r0) (r1) (x3) (z.1) z.2) ((rb_mx x2 (0 : Int32)), σ)
theorem s_Text_addPart {E : rb_EV} {d : Nat} (hdd : 4 ≤ d) (r0 : Option Nat) (r1 : Option Nat) (x2 : Int32) (x3 : Int32) (σ : rb_St) : rb_Does E k_Text_addPart d [va_rf r0, va_rf r1, .int x2, .int x3] σ (f_Text_addPart r0 r1 x2 x3 σ) := by
  refine rb_start (lv := [some (va_rf r0), some (va_rf r1), some (.int x2), some (.int x3), none]) (by decide) (by simp [lg_sl, rb_as, lv_args, rb_cat_r, rb_cat_i, rb_cat_l, rb_nL, k_Text_addPart]) (fun res => ?_)
  unfold f_Text_addPart
  refine rb_TC.mono (rk_iload_n 2 d_Text_addPart_0 rfl rfl) ?_
  refine rb_TC.mono (rk_iconst (0 : Int32) d_Text_addPart_1 (by decide)) ?_
  refine rb_TC.mono (rk_mmax w_mmax_Text_17 (Nat.le_trans (by decide) hdd) (by simp [rb_cat_r, rb_cat_i, rb_cat_l]) d_Text_addPart_2) ?_
  refine rb_TC.mono (rk_istore (lv2 := [some (va_rf r0), some (va_rf r1), some (.int x2), some (.int x3), some (.int (rb_mx x2 (0 : Int32)))]) d_Text_addPart_5 (by decide) (fun _ => rb_one_i) rfl) ?_
  refine rb_TC.mono (rk_less (lv2 := [some (va_rf r0), some (va_rf r1), none, some (.int x3), some (.int (rb_mx x2 (0 : Int32)))]) (rb_le_ok (rb_leS (rb_leS (rb_leN (rb_leS (rb_leS rb_le0))))))) ?_
  exact rb_TC.loop2 (A := (fun z : (Int32 × rb_St) => rb_WK E k_Text_addPart d σ res 7 [some (va_rf r0), some (va_rf r1), none, some (.int x3), some (.int z.1)] [] z.2)) ((rb_mx x2 (0 : Int32)), σ) (fun z => t_Text_addPart_b7 hdd  (r0) (r1) (x3) (z.1) z.2)
-- ===== RuleBuilder$Text.addText(LRuleBuilder$Text;II)Z
def k_Text_addText : rb_MK := (⟨"RuleBuilder$Text", "addText", "(LRuleBuilder$Text;II)Z"⟩, prog_11_method_8_code, 5, some (.boolean))
theorem mw_Text_addText : rb_Mw k_Text_addText 3 := ⟨rb_inG 784 (by decide +kernel) rfl, rb_inG 86 (by decide +kernel) rfl, ⟨by decide, by decide, by decide +kernel⟩, by decide⟩
theorem fp_Text_addText_13 : rb_Fp k_Text_addText 13 2 1 .int := ⟨fw_Text_13, rfl, fun q h => by cases h; exact Or.inl rfl⟩
theorem d_Text_addText_0 : decode prog_11_method_8_code 0 = .ok (.iload_n 2, 1) := by decide +kernel
theorem d_Text_addText_1 : decode prog_11_method_8_code 1 = .ok (.iconst 0, 1) := by decide +kernel
theorem d_Text_addText_2 : decode prog_11_method_8_code 2 = .ok (.invokestatic 17, 3) := by decide +kernel
theorem d_Text_addText_5 : decode prog_11_method_8_code 5 = .ok (.istore 4, 2) := by decide +kernel
theorem d_Text_addText_7 : decode prog_11_method_8_code 7 = .ok (.iload 4, 2) := by decide +kernel
theorem d_Text_addText_9 : decode prog_11_method_8_code 9 = .ok (.iload_n 3, 1) := by decide +kernel
theorem d_Text_addText_10 : decode prog_11_method_8_code 10 = .ok (.if_icmp .ge 58, 3) := by decide +kernel
theorem d_Text_addText_13 : decode prog_11_method_8_code 13 = .ok (.iload 4, 2) := by decide +kernel
theorem d_Text_addText_15 : decode prog_11_method_8_code 15 = .ok (.aload_n 1, 1) := by decide +kernel
theorem d_Text_addText_16 : decode prog_11_method_8_code 16 = .ok (.getfield 13, 3) := by decide +kernel
theorem d_Text_addText_19 : decode prog_11_method_8_code 19 = .ok (.if_icmp .ge 49, 3) := by decide +kernel
theorem d_Text_addText_22 : decode prog_11_method_8_code 22 = .ok (.aload_n 0, 1) := by decide +kernel
theorem d_Text_addText_23 : decode prog_11_method_8_code 23 = .ok (.getfield 13, 3) := by decide +kernel
theorem d_Text_addText_26 : decode prog_11_method_8_code 26 = .ok (.aload_n 0, 1) := by decide +kernel
theorem d_Text_addText_27 : decode prog_11_method_8_code 27 = .ok (.getfield 7, 3) := by decide +kernel
theorem d_Text_addText_30 : decode prog_11_method_8_code 30 = .ok (.arraylength, 1) := by decide +kernel
theorem d_Text_addText_31 : decode prog_11_method_8_code 31 = .ok (.if_icmp .ne 5, 3) := by decide +kernel
theorem d_Text_addText_34 : decode prog_11_method_8_code 34 = .ok (.iconst 0, 1) := by decide +kernel
theorem d_Text_addText_35 : decode prog_11_method_8_code 35 = .ok (.ireturn, 1) := by decide +kernel
theorem d_Text_addText_36 : decode prog_11_method_8_code 36 = .ok (.aload_n 0, 1) := by decide +kernel
theorem d_Text_addText_37 : decode prog_11_method_8_code 37 = .ok (.getfield 7, 3) := by decide +kernel
theorem d_Text_addText_40 : decode prog_11_method_8_code 40 = .ok (.aload_n 0, 1) := by decide +kernel
theorem d_Text_addText_41 : decode prog_11_method_8_code 41 = .ok (.getfield 13, 3) := by decide +kernel
theorem d_Text_addText_44 : decode prog_11_method_8_code 44 = .ok (.aload_n 1, 1) := by decide +kernel
theorem d_Text_addText_45 : decode prog_11_method_8_code 45 = .ok (.getfield 7, 3) := by decide +kernel
theorem d_Text_addText_48 : decode prog_11_method_8_code 48 = .ok (.iload 4, 2) := by decide +kernel
theorem d_Text_addText_50 : decode prog_11_method_8_code 50 = .ok (.caload, 1) := by decide +kernel
theorem d_Text_addText_51 : decode prog_11_method_8_code 51 = .ok (.castore, 1) := by decide +kernel
theorem d_Text_addText_52 : decode prog_11_method_8_code 52 = .ok (.aload_n 0, 1) := by decide +kernel
theorem d_Text_addText_53 : decode prog_11_method_8_code 53 = .ok (.dup, 1) := by decide +kernel
theorem d_Text_addText_54 : decode prog_11_method_8_code 54 = .ok (.getfield 13, 3) := by decide +kernel
theorem d_Text_addText_57 : decode prog_11_method_8_code 57 = .ok (.iconst 1, 1) := by decide +kernel
theorem d_Text_addText_58 : decode prog_11_method_8_code 58 = .ok (.iadd, 1) := by decide +kernel
theorem d_Text_addText_59 : decode prog_11_method_8_code 59 = .ok (.putfield 13, 3) := by decide +kernel
theorem d_Text_addText_62 : decode prog_11_method_8_code 62 = .ok (.iinc 4 1, 3) := by decide +kernel
theorem d_Text_addText_65 : decode prog_11_method_8_code 65 = .ok (.goto (-58), 3) := by decide +kernel
theorem d_Text_addText_68 : decode prog_11_method_8_code 68 = .ok (.iconst 1, 1) := by decide +kernel
theorem d_Text_addText_69 : decode prog_11_method_8_code 69 = .ok (.ireturn, 1) := by decide +kernel
noncomputable def f_Text_addText_j68  (σ : rb_St) : Option rb_Rs :=
  some (some (.int (1 : Int32)), σ)
theorem t_Text_addText_j68 {E : rb_EV} {d : Nat} {σ0 : rb_St} {res : rb_Rs} (hdd : 1 ≤ d)   (σ : rb_St) : rb_TC (f_Text_addText_j68  σ) (fun r => r = res) (rb_WK E k_Text_addText d σ0 res 68 [none, none, none, none, none] [] σ) := by
  unfold f_Text_addText_j68
  refine rb_TC.mono (rk_iconst (1 : Int32) d_Text_addText_68 (by decide)) ?_
  exact rt_iret (ty := .boolean) rfl (by decide) (fun h => h) d_Text_addText_69
noncomputable def f_Text_addText_b7 (r0 : Option Nat) (r1 : Option Nat) (x3 : Int32) (x4 : Int32) (σ : rb_St) : Option ((Int32 × rb_St) ⊕ rb_Rs) :=
  if x3 ≤ x4 then ((f_Text_addText_j68  σ).map Sum.inr) else ((rb_gI σ r1 2 1).bind fun x_1 => if x_1 ≤ x4 then ((f_Text_addText_j68  σ).map Sum.inr) else ((rb_gI σ r0 2 1).bind fun x_2 => (rb_gR σ r0 2 0).bind fun r_3 => (rb_len σ r_3 101).bind fun x_4 => if x_2 = x_4 then ((some (some (.int (0 : Int32)), σ)).map Sum.inr) else ((rb_gR σ r0 2 0).bind fun r_5 => (rb_gI σ r0 2 1).bind fun x_6 => (rb_gR σ r1 2 0).bind fun r_7 => (rb_aI σ r_7 101 x4).bind fun x_8 => (rb_sI σ r_5 101 x_6 x_8).bind fun σ_9 => (rb_gI σ_9 r0 2 1).bind fun x_10 => (rb_pI σ_9 r0 2 1 (x_10 + (1 : Int32))).bind fun σ_11 => some (.inl ((x4 + 1), σ_11)))))
theorem t_Text_addText_b7 {E : rb_EV} {d : Nat} {σ0 : rb_St} {res : rb_Rs} (hdd : 1 ≤ d)  (r0 : Option Nat) (r1 : Option Nat) (x3 : Int32) (x4 : Int32) (σ : rb_St) : rb_TC (f_Text_addText_b7 r0 r1 x3 x4 σ) (Sum.elim (fun z : (Int32 × rb_St) => rb_WK E k_Text_addText d σ0 res 7 [some (va_rf r0), some (va_rf r1), none, some (.int x3), some (.int z.1)] [] z.2) (fun r => r = res)) (rb_WK E k_Text_addText d σ0 res 7 [some (va_rf r0), some (va_rf r1), none, some (.int x3), some (.int x4)] [] σ) := by
  unfold f_Text_addText_b7
  refine rb_TC.mono (rk_iload d_Text_addText_7 rfl) ?_
  refine rb_TC.mono (rk_iload_n 3 d_Text_addText_9 rfl rfl) ?_
  refine rt_icmp_ge 68 d_Text_addText_10 (by decide) (fun _ => ?_) (fun _ => ?_)
  · refine rb_TC.out ?_
    refine rb_TC.mono (rk_less (lv2 := [none, none, none, none, none]) (rb_le_ok (rb_leN (rb_leN (rb_leN (rb_leN (rb_leN rb_le0))))))) ?_
    exact t_Text_addText_j68 hdd   σ
  · refine rb_TC.mono (rk_iload d_Text_addText_13 rfl) ?_
    refine rb_TC.mono (rk_aload_n 1 d_Text_addText_15 rfl rfl) ?_
    refine rt_gI r1 fw_Text_13 d_Text_addText_16 (fun x_1 => ?_)
    refine rt_icmp_ge 68 d_Text_addText_19 (by decide) (fun _ => ?_) (fun _ => ?_)
    · refine rb_TC.out ?_
      refine rb_TC.mono (rk_less (lv2 := [none, none, none, none, none]) (rb_le_ok (rb_leN (rb_leN (rb_leN (rb_leN (rb_leN rb_le0))))))) ?_
      exact t_Text_addText_j68 hdd   σ
    · refine rb_TC.mono (rk_aload_n 0 d_Text_addText_22 rfl rfl) ?_
      refine rt_gI r0 fw_Text_13 d_Text_addText_23 (fun x_2 => ?_)
      refine rb_TC.mono (rk_aload_n 0 d_Text_addText_26 rfl rfl) ?_
      refine rt_gR r0 fw_Text_7 d_Text_addText_27 (fun r_3 => ?_)
      refine rt_len (t := 101) r_3 (by decide) d_Text_addText_30 (fun x_4 => ?_)
      refine rt_icmp_ne 36 d_Text_addText_31 (by decide) (fun _ => ?_) (fun _ => ?_)
      · refine rb_TC.out ?_
        refine rb_TC.mono (rk_iconst (0 : Int32) d_Text_addText_34 (by decide)) ?_
        exact rt_iret (ty := .boolean) rfl (by decide) (fun h => h) d_Text_addText_35
      · refine rb_TC.mono (rk_aload_n 0 d_Text_addText_36 rfl rfl) ?_
        refine rt_gR r0 fw_Text_7 d_Text_addText_37 (fun r_5 => ?_)
        refine rb_TC.mono (rk_aload_n 0 d_Text_addText_40 rfl rfl) ?_
        refine rt_gI r0 fw_Text_13 d_Text_addText_41 (fun x_6 => ?_)
        refine rb_TC.mono (rk_aload_n 1 d_Text_addText_44 rfl rfl) ?_
        refine rt_gR r1 fw_Text_7 d_Text_addText_45 (fun r_7 => ?_)
        refine rb_TC.mono (rk_iload d_Text_addText_48 rfl) ?_
        refine rt_cald r_7 d_Text_addText_50 (fun x_8 => ?_)
        refine rt_cast r_5 d_Text_addText_51 (fun σ_9 => ?_)
        refine rb_TC.mono (rk_aload_n 0 d_Text_addText_52 rfl rfl) ?_
        refine rb_TC.mono (rk_dupr d_Text_addText_53) ?_
        refine rt_gI r0 fw_Text_13 d_Text_addText_54 (fun x_10 => ?_)
        refine rb_TC.mono (rk_iconst (1 : Int32) d_Text_addText_57 (by decide)) ?_
        refine rb_TC.mono (rk_iadd d_Text_addText_58) ?_
        refine rt_pI r0 fp_Text_addText_13 d_Text_addText_59 (fun σ_11 => ?_)
        refine rb_TC.mono (rk_iinc (lv2 := [some (va_rf r0), some (va_rf r1), none, some (.int x3), some (.int (x4 + 1))]) (x4 + 1) d_Text_addText_62 rfl rfl (by decide) (fun _ => rb_one_i) rfl) ?_
        refine rb_TC.mono (rk_goto 7 d_Text_addText_65 (by decide)) ?_
        exact rb_back
noncomputable def f_Text_addText (r0 : Option Nat) (r1 : Option Nat) (x2 : Int32) (x3 : Int32) (σ : rb_St) : Option rb_Rs :=
  rb_it (fun z : (Int32 × rb_St) => f_Text_addText_b7 (r0) (r1) (x3) (z.1) z.2) ((rb_mx x2 (0 : Int32)), σ)
theorem s_Text_addText {E : rb_EV} {d : Nat} (hdd : 1 ≤ d) (r0 : Option Nat) (r1 : Option Nat) (x2 : Int32) (x3 : Int32) (σ : rb_St) : rb_Does E k_Text_addText d [va_rf r0, va_rf r1, .int x2, .int x3] σ (f_Text_addText r0 r1 x2 x3 σ) := by
  refine rb_start (lv := [some (va_rf r0), some (va_rf r1), some (.int x2), some (.int x3), none]) (by decide) (by simp [lg_sl, rb_as, lv_args, rb_cat_r, rb_cat_i, rb_cat_l, rb_nL, k_Text_addText]) (fun res => ?_)
  unfold f_Text_addText
  refine rb_TC.mono (rk_iload_n 2 d_Text_addText_0 rfl rfl) ?_
  refine rb_TC.mono (rk_iconst (0 : Int32) d_Text_addText_1 (by decide)) ?_
  refine rb_TC.mono (rk_mmax w_mmax_Text_17 (Nat.le_trans (by decide) hdd) (by simp [rb_cat_r, rb_cat_i, rb_cat_l]) d_Text_addText_2) ?_
  refine rb_TC.mono (rk_istore (lv2 := [some (va_rf r0), some (va_rf r1), some (.int x2), some (.int x3), some (.int (rb_mx x2 (0 : Int32)))]) d_Text_addText_5 (by decide) (fun _ => rb_one_i) rfl) ?_
  refine rb_TC.mono (rk_less (lv2 := [some (va_rf r0), some (va_rf r1), none, some (.int x3), some (.int (rb_mx x2 (0 : Int32)))]) (rb_le_ok (rb_leS (rb_leS (rb_leN (rb_leS (rb_leS rb_le0))))))) ?_
  exact rb_TC.loop2 (A := (fun z : (Int32 × rb_St) => rb_WK E k_Text_addText d σ res 7 [some (va_rf r0), some (va_rf r1), none, some (.int x3), some (.int z.1)] [] z.2)) ((rb_mx x2 (0 : Int32)), σ) (fun z => t_Text_addText_b7 hdd  (r0) (r1) (x3) (z.1) z.2)
-- ===== RuleBuilder$Text.isName(II)Z
def k_Text_isName : rb_MK := (⟨"RuleBuilder$Text", "isName", "(II)Z"⟩, prog_11_method_11_code, 6, some (.boolean))
theorem mw_Text_isName : rb_Mw k_Text_isName 2 := ⟨rb_inG 848 (by decide +kernel) rfl, rb_inG 86 (by decide +kernel) rfl, ⟨by decide, by decide, by decide +kernel⟩, by decide⟩
theorem d_Text_isName_0 : decode prog_11_method_11_code 0 = .ok (.iload_n 2, 1) := by decide +kernel
theorem d_Text_isName_1 : decode prog_11_method_11_code 1 = .ok (.iload_n 1, 1) := by decide +kernel
theorem d_Text_isName_2 : decode prog_11_method_11_code 2 = .ok (.isub, 1) := by decide +kernel
theorem d_Text_isName_3 : decode prog_11_method_11_code 3 = .ok (.iconst 1, 1) := by decide +kernel
theorem d_Text_isName_4 : decode prog_11_method_11_code 4 = .ok (.if_icmp .lt 11, 3) := by decide +kernel
theorem d_Text_isName_7 : decode prog_11_method_11_code 7 = .ok (.iload_n 2, 1) := by decide +kernel
theorem d_Text_isName_8 : decode prog_11_method_11_code 8 = .ok (.iload_n 1, 1) := by decide +kernel
theorem d_Text_isName_9 : decode prog_11_method_11_code 9 = .ok (.isub, 1) := by decide +kernel
theorem d_Text_isName_10 : decode prog_11_method_11_code 10 = .ok (.bipush 8, 2) := by decide +kernel
theorem d_Text_isName_12 : decode prog_11_method_11_code 12 = .ok (.if_icmp .le 5, 3) := by decide +kernel
theorem d_Text_isName_15 : decode prog_11_method_11_code 15 = .ok (.iconst 0, 1) := by decide +kernel
theorem d_Text_isName_16 : decode prog_11_method_11_code 16 = .ok (.ireturn, 1) := by decide +kernel
theorem d_Text_isName_17 : decode prog_11_method_11_code 17 = .ok (.iload_n 1, 1) := by decide +kernel
theorem d_Text_isName_18 : decode prog_11_method_11_code 18 = .ok (.istore_n 3, 1) := by decide +kernel
theorem d_Text_isName_19 : decode prog_11_method_11_code 19 = .ok (.iload_n 3, 1) := by decide +kernel
theorem d_Text_isName_20 : decode prog_11_method_11_code 20 = .ok (.iload_n 2, 1) := by decide +kernel
theorem d_Text_isName_21 : decode prog_11_method_11_code 21 = .ok (.if_icmp .ge 89, 3) := by decide +kernel
theorem d_Text_isName_24 : decode prog_11_method_11_code 24 = .ok (.iload_n 3, 1) := by decide +kernel
theorem d_Text_isName_25 : decode prog_11_method_11_code 25 = .ok (.ifCond .lt 11, 3) := by decide +kernel
theorem d_Text_isName_28 : decode prog_11_method_11_code 28 = .ok (.iload_n 3, 1) := by decide +kernel
theorem d_Text_isName_29 : decode prog_11_method_11_code 29 = .ok (.aload_n 0, 1) := by decide +kernel
theorem d_Text_isName_30 : decode prog_11_method_11_code 30 = .ok (.getfield 13, 3) := by decide +kernel
theorem d_Text_isName_33 : decode prog_11_method_11_code 33 = .ok (.if_icmp .lt 7, 3) := by decide +kernel
theorem d_Text_isName_36 : decode prog_11_method_11_code 36 = .ok (.iconst 0, 1) := by decide +kernel
theorem d_Text_isName_37 : decode prog_11_method_11_code 37 = .ok (.goto 9, 3) := by decide +kernel
theorem d_Text_isName_40 : decode prog_11_method_11_code 40 = .ok (.aload_n 0, 1) := by decide +kernel
theorem d_Text_isName_41 : decode prog_11_method_11_code 41 = .ok (.getfield 7, 3) := by decide +kernel
theorem d_Text_isName_44 : decode prog_11_method_11_code 44 = .ok (.iload_n 3, 1) := by decide +kernel
theorem d_Text_isName_45 : decode prog_11_method_11_code 45 = .ok (.caload, 1) := by decide +kernel
theorem d_Text_isName_46 : decode prog_11_method_11_code 46 = .ok (.istore 4, 2) := by decide +kernel
theorem d_Text_isName_48 : decode prog_11_method_11_code 48 = .ok (.iload 4, 2) := by decide +kernel
theorem d_Text_isName_50 : decode prog_11_method_11_code 50 = .ok (.bipush 97, 2) := by decide +kernel
theorem d_Text_isName_52 : decode prog_11_method_11_code 52 = .ok (.if_icmp .lt 10, 3) := by decide +kernel
theorem d_Text_isName_55 : decode prog_11_method_11_code 55 = .ok (.iload 4, 2) := by decide +kernel
theorem d_Text_isName_57 : decode prog_11_method_11_code 57 = .ok (.bipush 122, 2) := by decide +kernel
theorem d_Text_isName_59 : decode prog_11_method_11_code 59 = .ok (.if_icmp .le 31, 3) := by decide +kernel
theorem d_Text_isName_62 : decode prog_11_method_11_code 62 = .ok (.iload 4, 2) := by decide +kernel
theorem d_Text_isName_64 : decode prog_11_method_11_code 64 = .ok (.bipush 48, 2) := by decide +kernel
theorem d_Text_isName_66 : decode prog_11_method_11_code 66 = .ok (.if_icmp .lt 10, 3) := by decide +kernel
theorem d_Text_isName_69 : decode prog_11_method_11_code 69 = .ok (.iload 4, 2) := by decide +kernel
theorem d_Text_isName_71 : decode prog_11_method_11_code 71 = .ok (.bipush 57, 2) := by decide +kernel
theorem d_Text_isName_73 : decode prog_11_method_11_code 73 = .ok (.if_icmp .le 17, 3) := by decide +kernel
theorem d_Text_isName_76 : decode prog_11_method_11_code 76 = .ok (.iload 4, 2) := by decide +kernel
theorem d_Text_isName_78 : decode prog_11_method_11_code 78 = .ok (.bipush 46, 2) := by decide +kernel
theorem d_Text_isName_80 : decode prog_11_method_11_code 80 = .ok (.if_icmp .eq 10, 3) := by decide +kernel
theorem d_Text_isName_83 : decode prog_11_method_11_code 83 = .ok (.iload 4, 2) := by decide +kernel
theorem d_Text_isName_85 : decode prog_11_method_11_code 85 = .ok (.bipush 95, 2) := by decide +kernel
theorem d_Text_isName_87 : decode prog_11_method_11_code 87 = .ok (.if_icmp .ne 7, 3) := by decide +kernel
theorem d_Text_isName_90 : decode prog_11_method_11_code 90 = .ok (.iconst 1, 1) := by decide +kernel
theorem d_Text_isName_91 : decode prog_11_method_11_code 91 = .ok (.goto 4, 3) := by decide +kernel
theorem d_Text_isName_94 : decode prog_11_method_11_code 94 = .ok (.iconst 0, 1) := by decide +kernel
theorem d_Text_isName_95 : decode prog_11_method_11_code 95 = .ok (.istore 5, 2) := by decide +kernel
theorem d_Text_isName_97 : decode prog_11_method_11_code 97 = .ok (.iload 5, 2) := by decide +kernel
theorem d_Text_isName_99 : decode prog_11_method_11_code 99 = .ok (.ifCond .ne 5, 3) := by decide +kernel
theorem d_Text_isName_102 : decode prog_11_method_11_code 102 = .ok (.iconst 0, 1) := by decide +kernel
theorem d_Text_isName_103 : decode prog_11_method_11_code 103 = .ok (.ireturn, 1) := by decide +kernel
theorem d_Text_isName_104 : decode prog_11_method_11_code 104 = .ok (.iinc 3 1, 3) := by decide +kernel
theorem d_Text_isName_107 : decode prog_11_method_11_code 107 = .ok (.goto (-88), 3) := by decide +kernel
theorem d_Text_isName_110 : decode prog_11_method_11_code 110 = .ok (.iconst 1, 1) := by decide +kernel
theorem d_Text_isName_111 : decode prog_11_method_11_code 111 = .ok (.ireturn, 1) := by decide +kernel
noncomputable def f_Text_isName_j95 (r0 : Option Nat) (x2 : Int32) (x3 : Int32) (sx0 : Int32) (σ : rb_St) : Option ((Int32) ⊕ rb_Rs) :=
  if sx0 = 0 then ((some (some (.int (0 : Int32)), σ)).map Sum.inr) else (some (.inl (x3 + 1)))
theorem t_Text_isName_j95 {E : rb_EV} {d : Nat} {σ0 : rb_St} {res : rb_Rs} (hdd : 0 ≤ d)  (r0 : Option Nat) (x2 : Int32) (x3 : Int32) (sx0 : Int32) (σ : rb_St) : rb_TC (f_Text_isName_j95 r0 x2 x3 sx0 σ) (Sum.elim (fun z : (Int32) => rb_WK E k_Text_isName d σ0 res 19 [some (va_rf r0), none, some (.int x2), some (.int z), none, none] [] σ) (fun r => r = res)) (rb_WK E k_Text_isName d σ0 res 95 [some (va_rf r0), none, some (.int x2), some (.int x3), none, none] [.int sx0] σ) := by
  unfold f_Text_isName_j95
  refine rb_TC.mono (rk_istore (lv2 := [some (va_rf r0), none, some (.int x2), some (.int x3), none, some (.int sx0)]) d_Text_isName_95 (by decide) (fun _ => rb_one_n) rfl) ?_
  refine rb_TC.mono (rk_iload d_Text_isName_97 rfl) ?_
  refine rt_if_ne 104 d_Text_isName_99 (by decide) (fun _ => ?_) (fun _ => ?_)
  · refine rb_TC.out ?_
    refine rb_TC.mono (rk_iconst (0 : Int32) d_Text_isName_102 (by decide)) ?_
    exact rt_iret (ty := .boolean) rfl (by decide) (fun h => h) d_Text_isName_103
  · refine rb_TC.mono (rk_iinc (lv2 := [some (va_rf r0), none, some (.int x2), some (.int (x3 + 1)), none, some (.int sx0)]) (x3 + 1) d_Text_isName_104 rfl rfl (by decide) (fun _ => rb_one_i) rfl) ?_
    refine rb_TC.mono (rk_goto 19 d_Text_isName_107 (by decide)) ?_
    refine rb_TC.mono (rk_less (lv2 := [some (va_rf r0), none, some (.int x2), some (.int (x3 + 1)), none, none]) (rb_le_ok (rb_leS (rb_leN (rb_leS (rb_leS (rb_leN (rb_leN rb_le0)))))))) ?_
    exact rb_back
noncomputable def f_Text_isName_j90 (r0 : Option Nat) (x2 : Int32) (x3 : Int32) (σ : rb_St) : Option ((Int32) ⊕ rb_Rs) :=
  f_Text_isName_j95 (r0) (x2) (x3) ((1 : Int32)) σ
theorem t_Text_isName_j90 {E : rb_EV} {d : Nat} {σ0 : rb_St} {res : rb_Rs} (hdd : 0 ≤ d)  (r0 : Option Nat) (x2 : Int32) (x3 : Int32) (σ : rb_St) : rb_TC (f_Text_isName_j90 r0 x2 x3 σ) (Sum.elim (fun z : (Int32) => rb_WK E k_Text_isName d σ0 res 19 [some (va_rf r0), none, some (.int x2), some (.int z), none, none] [] σ) (fun r => r = res)) (rb_WK E k_Text_isName d σ0 res 90 [some (va_rf r0), none, some (.int x2), some (.int x3), none, none] [] σ) := by
  unfold f_Text_isName_j90
  refine rb_TC.mono (rk_iconst (1 : Int32) d_Text_isName_90 (by decide)) ?_
  refine rb_TC.mono (rk_goto 95 d_Text_isName_91 (by decide)) ?_
  exact t_Text_isName_j95 hdd  (r0) (x2) (x3) ((1 : Int32)) σ
noncomputable def f_Text_isName_j76 (r0 : Option Nat) (x2 : Int32) (x3 : Int32) (x4 : Int32) (σ : rb_St) : Option ((Int32) ⊕ rb_Rs) :=
  if x4 = (46 : Int32) then (f_Text_isName_j90 (r0) (x2) (x3) σ) else (if x4 = (95 : Int32) then (f_Text_isName_j90 (r0) (x2) (x3) σ) else (f_Text_isName_j95 (r0) (x2) (x3) ((0 : Int32)) σ))
theorem t_Text_isName_j76 {E : rb_EV} {d : Nat} {σ0 : rb_St} {res : rb_Rs} (hdd : 0 ≤ d)  (r0 : Option Nat) (x2 : Int32) (x3 : Int32) (x4 : Int32) (σ : rb_St) : rb_TC (f_Text_isName_j76 r0 x2 x3 x4 σ) (Sum.elim (fun z : (Int32) => rb_WK E k_Text_isName d σ0 res 19 [some (va_rf r0), none, some (.int x2), some (.int z), none, none] [] σ) (fun r => r = res)) (rb_WK E k_Text_isName d σ0 res 76 [some (va_rf r0), none, some (.int x2), some (.int x3), some (.int x4), none] [] σ) := by
  unfold f_Text_isName_j76
  refine rb_TC.mono (rk_iload d_Text_isName_76 rfl) ?_
  refine rb_TC.mono (rk_bipush (46 : Int32) d_Text_isName_78 (by decide)) ?_
  refine rt_icmp_eq 90 d_Text_isName_80 (by decide) (fun _ => ?_) (fun _ => ?_)
  · refine rb_TC.mono (rk_less (lv2 := [some (va_rf r0), none, some (.int x2), some (.int x3), none, none]) (rb_le_ok (rb_leS (rb_leN (rb_leS (rb_leS (rb_leN (rb_leN rb_le0)))))))) ?_
    exact t_Text_isName_j90 hdd  (r0) (x2) (x3) σ
  · refine rb_TC.mono (rk_iload d_Text_isName_83 rfl) ?_
    refine rb_TC.mono (rk_bipush (95 : Int32) d_Text_isName_85 (by decide)) ?_
    refine rt_icmp_ne 94 d_Text_isName_87 (by decide) (fun _ => ?_) (fun _ => ?_)
    · refine rb_TC.mono (rk_less (lv2 := [some (va_rf r0), none, some (.int x2), some (.int x3), none, none]) (rb_le_ok (rb_leS (rb_leN (rb_leS (rb_leS (rb_leN (rb_leN rb_le0)))))))) ?_
      exact t_Text_isName_j90 hdd  (r0) (x2) (x3) σ
    · refine rb_TC.mono (rk_iconst (0 : Int32) d_Text_isName_94 (by decide)) ?_
      refine rb_TC.mono (rk_less (lv2 := [some (va_rf r0), none, some (.int x2), some (.int x3), none, none]) (rb_le_ok (rb_leS (rb_leN (rb_leS (rb_leS (rb_leN (rb_leN rb_le0)))))))) ?_
      exact t_Text_isName_j95 hdd  (r0) (x2) (x3) ((0 : Int32)) σ
noncomputable def f_Text_isName_j62 (r0 : Option Nat) (x2 : Int32) (x3 : Int32) (x4 : Int32) (σ : rb_St) : Option ((Int32) ⊕ rb_Rs) :=
  if x4 < (48 : Int32) then (f_Text_isName_j76 (r0) (x2) (x3) (x4) σ) else (if x4 ≤ (57 : Int32) then (f_Text_isName_j90 (r0) (x2) (x3) σ) else (f_Text_isName_j76 (r0) (x2) (x3) (x4) σ))
theorem t_Text_isName_j62 {E : rb_EV} {d : Nat} {σ0 : rb_St} {res : rb_Rs} (hdd : 0 ≤ d)  (r0 : Option Nat) (x2 : Int32) (x3 : Int32) (x4 : Int32) (σ : rb_St) : rb_TC (f_Text_isName_j62 r0 x2 x3 x4 σ) (Sum.elim (fun z : (Int32) => rb_WK E k_Text_isName d σ0 res 19 [some (va_rf r0), none, some (.int x2), some (.int z), none, none] [] σ) (fun r => r = res)) (rb_WK E k_Text_isName d σ0 res 62 [some (va_rf r0), none, some (.int x2), some (.int x3), some (.int x4), none] [] σ) := by
  unfold f_Text_isName_j62
  refine rb_TC.mono (rk_iload d_Text_isName_62 rfl) ?_
  refine rb_TC.mono (rk_bipush (48 : Int32) d_Text_isName_64 (by decide)) ?_
  refine rt_icmp_lt 76 d_Text_isName_66 (by decide) (fun _ => ?_) (fun _ => ?_)
  · exact t_Text_isName_j76 hdd  (r0) (x2) (x3) (x4) σ
  · refine rb_TC.mono (rk_iload d_Text_isName_69 rfl) ?_
    refine rb_TC.mono (rk_bipush (57 : Int32) d_Text_isName_71 (by decide)) ?_
    refine rt_icmp_le 90 d_Text_isName_73 (by decide) (fun _ => ?_) (fun _ => ?_)
    · refine rb_TC.mono (rk_less (lv2 := [some (va_rf r0), none, some (.int x2), some (.int x3), none, none]) (rb_le_ok (rb_leS (rb_leN (rb_leS (rb_leS (rb_leN (rb_leN rb_le0)))))))) ?_
      exact t_Text_isName_j90 hdd  (r0) (x2) (x3) σ
    · exact t_Text_isName_j76 hdd  (r0) (x2) (x3) (x4) σ
noncomputable def f_Text_isName_j46 (r0 : Option Nat) (x2 : Int32) (x3 : Int32) (sx0 : Int32) (σ : rb_St) : Option ((Int32) ⊕ rb_Rs) :=
  if sx0 < (97 : Int32) then (f_Text_isName_j62 (r0) (x2) (x3) (sx0) σ) else (if sx0 ≤ (122 : Int32) then (f_Text_isName_j90 (r0) (x2) (x3) σ) else (f_Text_isName_j62 (r0) (x2) (x3) (sx0) σ))
theorem t_Text_isName_j46 {E : rb_EV} {d : Nat} {σ0 : rb_St} {res : rb_Rs} (hdd : 0 ≤ d)  (r0 : Option Nat) (x2 : Int32) (x3 : Int32) (sx0 : Int32) (σ : rb_St) : rb_TC (f_Text_isName_j46 r0 x2 x3 sx0 σ) (Sum.elim (fun z : (Int32) => rb_WK E k_Text_isName d σ0 res 19 [some (va_rf r0), none, some (.int x2), some (.int z), none, none] [] σ) (fun r => r = res)) (rb_WK E k_Text_isName d σ0 res 46 [some (va_rf r0), none, some (.int x2), some (.int x3), none, none] [.int sx0] σ) := by
  unfold f_Text_isName_j46
  refine rb_TC.mono (rk_istore (lv2 := [some (va_rf r0), none, some (.int x2), some (.int x3), some (.int sx0), none]) d_Text_isName_46 (by decide) (fun _ => rb_one_i) rfl) ?_
  refine rb_TC.mono (rk_iload d_Text_isName_48 rfl) ?_
  refine rb_TC.mono (rk_bipush (97 : Int32) d_Text_isName_50 (by decide)) ?_
  refine rt_icmp_lt 62 d_Text_isName_52 (by decide) (fun _ => ?_) (fun _ => ?_)
  · exact t_Text_isName_j62 hdd  (r0) (x2) (x3) (sx0) σ
  · refine rb_TC.mono (rk_iload d_Text_isName_55 rfl) ?_
    refine rb_TC.mono (rk_bipush (122 : Int32) d_Text_isName_57 (by decide)) ?_
    refine rt_icmp_le 90 d_Text_isName_59 (by decide) (fun _ => ?_) (fun _ => ?_)
    · refine rb_TC.mono (rk_less (lv2 := [some (va_rf r0), none, some (.int x2), some (.int x3), none, none]) (rb_le_ok (rb_leS (rb_leN (rb_leS (rb_leS (rb_leN (rb_leN rb_le0)))))))) ?_
      exact t_Text_isName_j90 hdd  (r0) (x2) (x3) σ
    · exact t_Text_isName_j62 hdd  (r0) (x2) (x3) (sx0) σ
noncomputable def f_Text_isName_j36 (r0 : Option Nat) (x2 : Int32) (x3 : Int32) (σ : rb_St) : Option ((Int32) ⊕ rb_Rs) :=
  f_Text_isName_j46 (r0) (x2) (x3) ((0 : Int32)) σ
theorem t_Text_isName_j36 {E : rb_EV} {d : Nat} {σ0 : rb_St} {res : rb_Rs} (hdd : 0 ≤ d)  (r0 : Option Nat) (x2 : Int32) (x3 : Int32) (σ : rb_St) : rb_TC (f_Text_isName_j36 r0 x2 x3 σ) (Sum.elim (fun z : (Int32) => rb_WK E k_Text_isName d σ0 res 19 [some (va_rf r0), none, some (.int x2), some (.int z), none, none] [] σ) (fun r => r = res)) (rb_WK E k_Text_isName d σ0 res 36 [some (va_rf r0), none, some (.int x2), some (.int x3), none, none] [] σ) := by
  unfold f_Text_isName_j36
  refine rb_TC.mono (rk_iconst (0 : Int32) d_Text_isName_36 (by decide)) ?_
  refine rb_TC.mono (rk_goto 46 d_Text_isName_37 (by decide)) ?_
  exact t_Text_isName_j46 hdd  (r0) (x2) (x3) ((0 : Int32)) σ
noncomputable def f_Text_isName_b19 (r0 : Option Nat) (x2 : Int32) (x3 : Int32) (σ : rb_St) : Option ((Int32) ⊕ rb_Rs) :=
  if x2 ≤ x3 then ((some (some (.int (1 : Int32)), σ)).map Sum.inr) else (if x3 < 0 then (f_Text_isName_j36 (r0) (x2) (x3) σ) else ((rb_gI σ r0 2 1).bind fun x_1 => if x3 < x_1 then ((rb_gR σ r0 2 0).bind fun r_2 => (rb_aI σ r_2 101 x3).bind fun x_3 => f_Text_isName_j46 (r0) (x2) (x3) (x_3) σ) else (f_Text_isName_j36 (r0) (x2) (x3) σ)))
theorem t_Text_isName_b19 {E : rb_EV} {d : Nat} {σ0 : rb_St} {res : rb_Rs} (hdd : 0 ≤ d)  (r0 : Option Nat) (x2 : Int32) (x3 : Int32) (σ : rb_St) : rb_TC (f_Text_isName_b19 r0 x2 x3 σ) (Sum.elim (fun z : (Int32) => rb_WK E k_Text_isName d σ0 res 19 [some (va_rf r0), none, some (.int x2), some (.int z), none, none] [] σ) (fun r => r = res)) (rb_WK E k_Text_isName d σ0 res 19 [some (va_rf r0), none, some (.int x2), some (.int x3), none, none] [] σ) := by
  unfold f_Text_isName_b19
  refine rb_TC.mono (rk_iload_n 3 d_Text_isName_19 rfl rfl) ?_
  refine rb_TC.mono (rk_iload_n 2 d_Text_isName_20 rfl rfl) ?_
  refine rt_icmp_ge 110 d_Text_isName_21 (by decide) (fun _ => ?_) (fun _ => ?_)
  · refine rb_TC.out ?_
    refine rb_TC.mono (rk_iconst (1 : Int32) d_Text_isName_110 (by decide)) ?_
    exact rt_iret (ty := .boolean) rfl (by decide) (fun h => h) d_Text_isName_111
  · refine rb_TC.mono (rk_iload_n 3 d_Text_isName_24 rfl rfl) ?_
    refine rt_if_lt 36 d_Text_isName_25 (by decide) (fun _ => ?_) (fun _ => ?_)
    · exact t_Text_isName_j36 hdd  (r0) (x2) (x3) σ
    · refine rb_TC.mono (rk_iload_n 3 d_Text_isName_28 rfl rfl) ?_
      refine rb_TC.mono (rk_aload_n 0 d_Text_isName_29 rfl rfl) ?_
      refine rt_gI r0 fw_Text_13 d_Text_isName_30 (fun x_1 => ?_)
      refine rt_icmp_lt 40 d_Text_isName_33 (by decide) (fun _ => ?_) (fun _ => ?_)
      · refine rb_TC.mono (rk_aload_n 0 d_Text_isName_40 rfl rfl) ?_
        refine rt_gR r0 fw_Text_7 d_Text_isName_41 (fun r_2 => ?_)
        refine rb_TC.mono (rk_iload_n 3 d_Text_isName_44 rfl rfl) ?_
        refine rt_cald r_2 d_Text_isName_45 (fun x_3 => ?_)
        exact t_Text_isName_j46 hdd  (r0) (x2) (x3) (x_3) σ
      · exact t_Text_isName_j36 hdd  (r0) (x2) (x3) σ
noncomputable def f_Text_isName (r0 : Option Nat) (x1 : Int32) (x2 : Int32) (σ : rb_St) : Option rb_Rs :=
  if (x2 - x1) < (1 : Int32) then (some (some (.int (0 : Int32)), σ)) else (if (x2 - x1) ≤ (8 : Int32) then (rb_it (fun z : (Int32) => f_Text_isName_b19 (r0) (x2) (z) σ) x1) else (some (some (.int (0 : Int32)), σ)))
theorem s_Text_isName {E : rb_EV} {d : Nat} (hdd : 0 ≤ d) (r0 : Option Nat) (x1 : Int32) (x2 : Int32) (σ : rb_St) : rb_Does E k_Text_isName d [va_rf r0, .int x1, .int x2] σ (f_Text_isName r0 x1 x2 σ) := by
  refine rb_start (lv := [some (va_rf r0), some (.int x1), some (.int x2), none, none, none]) (by decide) (by simp [lg_sl, rb_as, lv_args, rb_cat_r, rb_cat_i, rb_cat_l, rb_nL, k_Text_isName]) (fun res => ?_)
  unfold f_Text_isName
  refine rb_TC.mono (rk_iload_n 2 d_Text_isName_0 rfl rfl) ?_
  refine rb_TC.mono (rk_iload_n 1 d_Text_isName_1 rfl rfl) ?_
  refine rb_TC.mono (rk_isub d_Text_isName_2) ?_
  refine rb_TC.mono (rk_iconst (1 : Int32) d_Text_isName_3 (by decide)) ?_
  refine rt_icmp_lt 15 d_Text_isName_4 (by decide) (fun _ => ?_) (fun _ => ?_)
  · refine rb_TC.mono (rk_iconst (0 : Int32) d_Text_isName_15 (by decide)) ?_
    exact rt_iret (ty := .boolean) rfl (by decide) (fun h => h) d_Text_isName_16
  · refine rb_TC.mono (rk_iload_n 2 d_Text_isName_7 rfl rfl) ?_
    refine rb_TC.mono (rk_iload_n 1 d_Text_isName_8 rfl rfl) ?_
    refine rb_TC.mono (rk_isub d_Text_isName_9) ?_
    refine rb_TC.mono (rk_bipush (8 : Int32) d_Text_isName_10 (by decide)) ?_
    refine rt_icmp_le 17 d_Text_isName_12 (by decide) (fun _ => ?_) (fun _ => ?_)
    · refine rb_TC.mono (rk_iload_n 1 d_Text_isName_17 rfl rfl) ?_
      refine rb_TC.mono (rk_istore_n (lv2 := [some (va_rf r0), some (.int x1), some (.int x2), some (.int x1), none, none]) 3 d_Text_isName_18 rfl (by decide) (fun _ => rb_one_i) rfl) ?_
      refine rb_TC.mono (rk_less (lv2 := [some (va_rf r0), none, some (.int x2), some (.int x1), none, none]) (rb_le_ok (rb_leS (rb_leN (rb_leS (rb_leS (rb_leN (rb_leN rb_le0)))))))) ?_
      exact rb_TC.loop2 (A := (fun z : (Int32) => rb_WK E k_Text_isName d σ res 19 [some (va_rf r0), none, some (.int x2), some (.int z), none, none] [] σ)) x1 (fun z => t_Text_isName_b19 hdd  (r0) (x2) (z) σ)
    · refine rb_TC.mono (rk_iconst (0 : Int32) d_Text_isName_15 (by decide)) ?_
      exact rt_iret (ty := .boolean) rfl (by decide) (fun h => h) d_Text_isName_16
-- ===== RuleBuilder$Phrase.<init>(Ljava/lang/String;)V
def k_Phrase_init : rb_MK := (⟨"RuleBuilder$Phrase", "<init>", "(Ljava/lang/String;)V"⟩, prog_6_method_1_code, 2, none)
theorem mw_Phrase_init : rb_Mw k_Phrase_init 1 := ⟨rb_inG 514 (by decide +kernel) rfl, rb_inG 99 (by decide +kernel) rfl, ⟨by decide, by decide, by decide +kernel⟩, by decide⟩
theorem fw_Phrase_7 : rb_Fw "RuleBuilder$Phrase" 7 10 0 := ⟨_, rfl, by decide, by decide, by decide, rfl, rb_inG 516 (by decide +kernel) rfl⟩
theorem fp_Phrase_init_7 : rb_Fp k_Phrase_init 7 10 0 (.object "java/lang/String") ∧ ((∃ n, (.object "java/lang/String" : FieldType) = .object n) ∨ ∃ t, (.object "java/lang/String" : FieldType) = .array t) := ⟨⟨fw_Phrase_7, rfl, fun q h => by cases h; exact Or.inr ⟨rfl, rfl, rfl⟩⟩, Or.inl ⟨_, rfl⟩⟩
theorem w_ml_Phrase_1 : Cond.methodLink "RuleBuilder$Phrase" 1 Lib.objectInit ∈ rb_G := rb_inG 515 (by decide +kernel) rfl
theorem d_Phrase_init_0 : decode prog_6_method_1_code 0 = .ok (.aload_n 0, 1) := by decide +kernel
theorem d_Phrase_init_1 : decode prog_6_method_1_code 1 = .ok (.invokespecial 1, 3) := by decide +kernel
theorem d_Phrase_init_4 : decode prog_6_method_1_code 4 = .ok (.aload_n 0, 1) := by decide +kernel
theorem d_Phrase_init_5 : decode prog_6_method_1_code 5 = .ok (.aload_n 1, 1) := by decide +kernel
theorem d_Phrase_init_6 : decode prog_6_method_1_code 6 = .ok (.putfield 7, 3) := by decide +kernel
theorem d_Phrase_init_9 : decode prog_6_method_1_code 9 = .ok (.return_, 1) := by decide +kernel
noncomputable def f_Phrase_init (a0 : Nat) (r1 : Option Nat) (σ : rb_St) : Option rb_Rs :=
  (rb_pR σ (some a0) 10 0 r1).bind fun σ_1 => some (none, σ_1)
theorem s_Phrase_init {E : rb_EV} {d : Nat} (hdd : 1 ≤ d) (a0 : Nat) (r1 : Option Nat) (σ : rb_St) : rb_Does E k_Phrase_init d [va_rf (some a0), va_rf r1] σ (f_Phrase_init a0 r1 σ) := by
  refine rb_start (lv := [some (va_rf (some a0)), some (va_rf r1)]) (by decide) (by simp [lg_sl, rb_as, lv_args, rb_cat_r, rb_cat_i, rb_cat_l, rb_nL, k_Phrase_init]) (fun res => ?_)
  unfold f_Phrase_init
  refine rb_TC.mono (rk_aload_n 0 d_Phrase_init_0 rfl rfl) ?_
  refine rb_TC.mono (rk_objInit w_ml_Phrase_1 w_oi w_oc (Nat.le_trans (by decide) hdd) (by simp [rb_cat_r, rb_cat_i, rb_cat_l]) d_Phrase_init_1 rfl) ?_
  refine rb_TC.mono (rk_aload_n 0 d_Phrase_init_4 rfl rfl) ?_
  refine rb_TC.mono (rk_aload_n 1 d_Phrase_init_5 rfl rfl) ?_
  refine rt_pR (some a0) fp_Phrase_init_7 d_Phrase_init_6 (fun σ_1 => ?_)
  exact rt_vret rfl (fun h => h) d_Phrase_init_9
-- ===== RuleBuilder$Name.forgetRules()V
def k_Name_forgetRules : rb_MK := (⟨"RuleBuilder$Name", "forgetRules", "()V"⟩, prog_5_method_4_code, 1, none)
theorem mw_Name_forgetRules : rb_Mw k_Name_forgetRules 0 := ⟨rb_inG 550 (by decide +kernel) rfl, rb_inG 104 (by decide +kernel) rfl, ⟨by decide, by decide, by decide +kernel⟩, by decide⟩
theorem fw_Name_31 : rb_Fw "RuleBuilder$Name" 31 12 4 := ⟨_, rfl, by decide, by decide, by decide, rfl, rb_inG 894 (by decide +kernel) rfl⟩
theorem fp_Name_forgetRules_31 : rb_Fp k_Name_forgetRules 31 12 4 .boolean := ⟨fw_Name_31, rfl, fun q h => by cases h; exact Or.inl rfl⟩
theorem fw_Name_35 : rb_Fw "RuleBuilder$Name" 35 12 5 := ⟨_, rfl, by decide, by decide, by decide, rfl, rb_inG 897 (by decide +kernel) rfl⟩
theorem fp_Name_forgetRules_35 : rb_Fp k_Name_forgetRules 35 12 5 .boolean := ⟨fw_Name_35, rfl, fun q h => by cases h; exact Or.inl rfl⟩
theorem fw_Name_38 : rb_Fw "RuleBuilder$Name" 38 12 6 := ⟨_, rfl, by decide, by decide, by decide, rfl, rb_inG 900 (by decide +kernel) rfl⟩
theorem fp_Name_forgetRules_38 : rb_Fp k_Name_forgetRules 38 12 6 .boolean := ⟨fw_Name_38, rfl, fun q h => by cases h; exact Or.inl rfl⟩
theorem fw_Name_41 : rb_Fw "RuleBuilder$Name" 41 12 7 := ⟨_, rfl, by decide, by decide, by decide, rfl, rb_inG 903 (by decide +kernel) rfl⟩
theorem fp_Name_forgetRules_41 : rb_Fp k_Name_forgetRules 41 12 7 .boolean := ⟨fw_Name_41, rfl, fun q h => by cases h; exact Or.inl rfl⟩
theorem fw_Name_44 : rb_Fw "RuleBuilder$Name" 44 12 10 := ⟨_, rfl, by decide, by decide, by decide, rfl, rb_inG 911 (by decide +kernel) rfl⟩
theorem fp_Name_forgetRules_44 : rb_Fp k_Name_forgetRules 44 12 10 .int := ⟨fw_Name_44, rfl, fun q h => by cases h; exact Or.inl rfl⟩
theorem fw_Name_9 : rb_Fw "RuleBuilder$Name" 9 12 9 := ⟨_, rfl, by decide, by decide, by decide, rfl, rb_inG 908 (by decide +kernel) rfl⟩
theorem fp_Name_forgetRules_9 : rb_Fp k_Name_forgetRules 9 12 9 .int := ⟨fw_Name_9, rfl, fun q h => by cases h; exact Or.inl rfl⟩
theorem d_Name_forgetRules_0 : decode prog_5_method_4_code 0 = .ok (.aload_n 0, 1) := by decide +kernel
theorem d_Name_forgetRules_1 : decode prog_5_method_4_code 1 = .ok (.iconst 0, 1) := by decide +kernel
theorem d_Name_forgetRules_2 : decode prog_5_method_4_code 2 = .ok (.putfield 31, 3) := by decide +kernel
theorem d_Name_forgetRules_5 : decode prog_5_method_4_code 5 = .ok (.aload_n 0, 1) := by decide +kernel
theorem d_Name_forgetRules_6 : decode prog_5_method_4_code 6 = .ok (.iconst 0, 1) := by decide +kernel
theorem d_Name_forgetRules_7 : decode prog_5_method_4_code 7 = .ok (.putfield 35, 3) := by decide +kernel
theorem d_Name_forgetRules_10 : decode prog_5_method_4_code 10 = .ok (.aload_n 0, 1) := by decide +kernel
theorem d_Name_forgetRules_11 : decode prog_5_method_4_code 11 = .ok (.iconst 0, 1) := by decide +kernel
theorem d_Name_forgetRules_12 : decode prog_5_method_4_code 12 = .ok (.putfield 38, 3) := by decide +kernel
theorem d_Name_forgetRules_15 : decode prog_5_method_4_code 15 = .ok (.aload_n 0, 1) := by decide +kernel
theorem d_Name_forgetRules_16 : decode prog_5_method_4_code 16 = .ok (.iconst 0, 1) := by decide +kernel
theorem d_Name_forgetRules_17 : decode prog_5_method_4_code 17 = .ok (.putfield 41, 3) := by decide +kernel
theorem d_Name_forgetRules_20 : decode prog_5_method_4_code 20 = .ok (.aload_n 0, 1) := by decide +kernel
theorem d_Name_forgetRules_21 : decode prog_5_method_4_code 21 = .ok (.iconst (-1), 1) := by decide +kernel
theorem d_Name_forgetRules_22 : decode prog_5_method_4_code 22 = .ok (.putfield 9, 3) := by decide +kernel
theorem d_Name_forgetRules_25 : decode prog_5_method_4_code 25 = .ok (.aload_n 0, 1) := by decide +kernel
theorem d_Name_forgetRules_26 : decode prog_5_method_4_code 26 = .ok (.iconst 0, 1) := by decide +kernel
theorem d_Name_forgetRules_27 : decode prog_5_method_4_code 27 = .ok (.putfield 44, 3) := by decide +kernel
theorem d_Name_forgetRules_30 : decode prog_5_method_4_code 30 = .ok (.return_, 1) := by decide +kernel
noncomputable def f_Name_forgetRules (r0 : Option Nat) (σ : rb_St) : Option rb_Rs :=
  (rb_pZ σ r0 12 4 (0 : Int32)).bind fun σ_1 => (rb_pZ σ_1 r0 12 5 (0 : Int32)).bind fun σ_2 => (rb_pZ σ_2 r0 12 6 (0 : Int32)).bind fun σ_3 => (rb_pZ σ_3 r0 12 7 (0 : Int32)).bind fun σ_4 => (rb_pI σ_4 r0 12 9 (-1 : Int32)).bind fun σ_5 => (rb_pI σ_5 r0 12 10 (0 : Int32)).bind fun σ_6 => some (none, σ_6)
theorem s_Name_forgetRules {E : rb_EV} {d : Nat} (hdd : 0 ≤ d) (r0 : Option Nat) (σ : rb_St) : rb_Does E k_Name_forgetRules d [va_rf r0] σ (f_Name_forgetRules r0 σ) := by
  refine rb_start (lv := [some (va_rf r0)]) (by decide) (by simp [lg_sl, rb_as, lv_args, rb_cat_r, rb_cat_i, rb_cat_l, rb_nL, k_Name_forgetRules]) (fun res => ?_)
  unfold f_Name_forgetRules
  refine rb_TC.mono (rk_aload_n 0 d_Name_forgetRules_0 rfl rfl) ?_
  refine rb_TC.mono (rk_iconst (0 : Int32) d_Name_forgetRules_1 (by decide)) ?_
  refine rt_pZ r0 fp_Name_forgetRules_31 d_Name_forgetRules_2 (fun σ_1 => ?_)
  refine rb_TC.mono (rk_aload_n 0 d_Name_forgetRules_5 rfl rfl) ?_
  refine rb_TC.mono (rk_iconst (0 : Int32) d_Name_forgetRules_6 (by decide)) ?_
  refine rt_pZ r0 fp_Name_forgetRules_35 d_Name_forgetRules_7 (fun σ_2 => ?_)
  refine rb_TC.mono (rk_aload_n 0 d_Name_forgetRules_10 rfl rfl) ?_
  refine rb_TC.mono (rk_iconst (0 : Int32) d_Name_forgetRules_11 (by decide)) ?_
  refine rt_pZ r0 fp_Name_forgetRules_38 d_Name_forgetRules_12 (fun σ_3 => ?_)
  refine rb_TC.mono (rk_aload_n 0 d_Name_forgetRules_15 rfl rfl) ?_
  refine rb_TC.mono (rk_iconst (0 : Int32) d_Name_forgetRules_16 (by decide)) ?_
  refine rt_pZ r0 fp_Name_forgetRules_41 d_Name_forgetRules_17 (fun σ_4 => ?_)
  refine rb_TC.mono (rk_aload_n 0 d_Name_forgetRules_20 rfl rfl) ?_
  refine rb_TC.mono (rk_iconst (-1 : Int32) d_Name_forgetRules_21 (by decide)) ?_
  refine rt_pI r0 fp_Name_forgetRules_9 d_Name_forgetRules_22 (fun σ_5 => ?_)
  refine rb_TC.mono (rk_aload_n 0 d_Name_forgetRules_25 rfl rfl) ?_
  refine rb_TC.mono (rk_iconst (0 : Int32) d_Name_forgetRules_26 (by decide)) ?_
  refine rt_pI r0 fp_Name_forgetRules_44 d_Name_forgetRules_27 (fun σ_6 => ?_)
  exact rt_vret rfl (fun h => h) d_Name_forgetRules_30
-- ===== RuleBuilder$Name.<init>(ILjava/lang/String;)V
def k_Name_init : rb_MK := (⟨"RuleBuilder$Name", "<init>", "(ILjava/lang/String;)V"⟩, prog_5_method_1_code, 3, none)
theorem mw_Name_init : rb_Mw k_Name_init 2 := ⟨rb_inG 876 (by decide +kernel) rfl, rb_inG 104 (by decide +kernel) rfl, ⟨by decide, by decide, by decide +kernel⟩, by decide⟩
theorem fw_Name_15 : rb_Fw "RuleBuilder$Name" 15 12 12 := ⟨_, rfl, by decide, by decide, by decide, rfl, rb_inG 916 (by decide +kernel) rfl⟩
theorem fp_Name_init_15 : rb_Fp k_Name_init 15 12 12 .int := ⟨fw_Name_15, rfl, fun q h => by cases h; exact Or.inl rfl⟩
theorem fw_Name_18 : rb_Fw "RuleBuilder$Name" 18 12 0 := ⟨_, rfl, by decide, by decide, by decide, rfl, rb_inG 878 (by decide +kernel) rfl⟩
theorem fp_Name_init_18 : rb_Fp k_Name_init 18 12 0 .int := ⟨fw_Name_18, rfl, fun q h => by cases h; exact Or.inr ⟨rfl, rfl, rfl⟩⟩
theorem fw_Name_21 : rb_Fw "RuleBuilder$Name" 21 12 1 := ⟨_, rfl, by decide, by decide, by decide, rfl, rb_inG 880 (by decide +kernel) rfl⟩
theorem fp_Name_init_21 : rb_Fp k_Name_init 21 12 1 (.object "java/lang/String") ∧ ((∃ n, (.object "java/lang/String" : FieldType) = .object n) ∨ ∃ t, (.object "java/lang/String" : FieldType) = .array t) := ⟨⟨fw_Name_21, rfl, fun q h => by cases h; exact Or.inr ⟨rfl, rfl, rfl⟩⟩, Or.inl ⟨_, rfl⟩⟩
theorem fp_Name_init_9 : rb_Fp k_Name_init 9 12 9 .int := ⟨fw_Name_9, rfl, fun q h => by cases h; exact Or.inl rfl⟩
theorem w_ml_Name_3 : Cond.methodLink "RuleBuilder$Name" 3 Lib.objectInit ∈ rb_G := rb_inG 877 (by decide +kernel) rfl
theorem d_Name_init_0 : decode prog_5_method_1_code 0 = .ok (.aload_n 0, 1) := by decide +kernel
theorem d_Name_init_1 : decode prog_5_method_1_code 1 = .ok (.invokespecial 3, 3) := by decide +kernel
theorem d_Name_init_4 : decode prog_5_method_1_code 4 = .ok (.aload_n 0, 1) := by decide +kernel
theorem d_Name_init_5 : decode prog_5_method_1_code 5 = .ok (.iconst (-1), 1) := by decide +kernel
theorem d_Name_init_6 : decode prog_5_method_1_code 6 = .ok (.putfield 9, 3) := by decide +kernel
theorem d_Name_init_9 : decode prog_5_method_1_code 9 = .ok (.aload_n 0, 1) := by decide +kernel
theorem d_Name_init_10 : decode prog_5_method_1_code 10 = .ok (.iconst (-1), 1) := by decide +kernel
theorem d_Name_init_11 : decode prog_5_method_1_code 11 = .ok (.putfield 15, 3) := by decide +kernel
theorem d_Name_init_14 : decode prog_5_method_1_code 14 = .ok (.aload_n 0, 1) := by decide +kernel
theorem d_Name_init_15 : decode prog_5_method_1_code 15 = .ok (.iload_n 1, 1) := by decide +kernel
theorem d_Name_init_16 : decode prog_5_method_1_code 16 = .ok (.putfield 18, 3) := by decide +kernel
theorem d_Name_init_19 : decode prog_5_method_1_code 19 = .ok (.aload_n 0, 1) := by decide +kernel
theorem d_Name_init_20 : decode prog_5_method_1_code 20 = .ok (.aload_n 2, 1) := by decide +kernel
theorem d_Name_init_21 : decode prog_5_method_1_code 21 = .ok (.putfield 21, 3) := by decide +kernel
theorem d_Name_init_24 : decode prog_5_method_1_code 24 = .ok (.return_, 1) := by decide +kernel
noncomputable def f_Name_init (a0 : Nat) (x1 : Int32) (r2 : Option Nat) (σ : rb_St) : Option rb_Rs :=
  (rb_pI σ (some a0) 12 9 (-1 : Int32)).bind fun σ_1 => (rb_pI σ_1 (some a0) 12 12 (-1 : Int32)).bind fun σ_2 => (rb_pI σ_2 (some a0) 12 0 x1).bind fun σ_3 => (rb_pR σ_3 (some a0) 12 1 r2).bind fun σ_4 => some (none, σ_4)
theorem s_Name_init {E : rb_EV} {d : Nat} (hdd : 1 ≤ d) (a0 : Nat) (x1 : Int32) (r2 : Option Nat) (σ : rb_St) : rb_Does E k_Name_init d [va_rf (some a0), .int x1, va_rf r2] σ (f_Name_init a0 x1 r2 σ) := by
  refine rb_start (lv := [some (va_rf (some a0)), some (.int x1), some (va_rf r2)]) (by decide) (by simp [lg_sl, rb_as, lv_args, rb_cat_r, rb_cat_i, rb_cat_l, rb_nL, k_Name_init]) (fun res => ?_)
  unfold f_Name_init
  refine rb_TC.mono (rk_aload_n 0 d_Name_init_0 rfl rfl) ?_
  refine rb_TC.mono (rk_objInit w_ml_Name_3 w_oi w_oc (Nat.le_trans (by decide) hdd) (by simp [rb_cat_r, rb_cat_i, rb_cat_l]) d_Name_init_1 rfl) ?_
  refine rb_TC.mono (rk_aload_n 0 d_Name_init_4 rfl rfl) ?_
  refine rb_TC.mono (rk_iconst (-1 : Int32) d_Name_init_5 (by decide)) ?_
  refine rt_pI (some a0) fp_Name_init_9 d_Name_init_6 (fun σ_1 => ?_)
  refine rb_TC.mono (rk_aload_n 0 d_Name_init_9 rfl rfl) ?_
  refine rb_TC.mono (rk_iconst (-1 : Int32) d_Name_init_10 (by decide)) ?_
  refine rt_pI (some a0) fp_Name_init_15 d_Name_init_11 (fun σ_2 => ?_)
  refine rb_TC.mono (rk_aload_n 0 d_Name_init_14 rfl rfl) ?_
  refine rb_TC.mono (rk_iload_n 1 d_Name_init_15 rfl rfl) ?_
  refine rt_pI (some a0) fp_Name_init_18 d_Name_init_16 (fun σ_3 => ?_)
  refine rb_TC.mono (rk_aload_n 0 d_Name_init_19 rfl rfl) ?_
  refine rb_TC.mono (rk_aload_n 2 d_Name_init_20 rfl rfl) ?_
  refine rt_pR (some a0) fp_Name_init_21 d_Name_init_21 (fun σ_4 => ?_)
  exact rt_vret rfl (fun h => h) d_Name_init_24
-- ===== RuleBuilder$Name.isFile()Z
def k_Name_isFile : rb_MK := (⟨"RuleBuilder$Name", "isFile", "()Z"⟩, prog_5_method_2_code, 1, some (.boolean))
theorem mw_Name_isFile : rb_Mw k_Name_isFile 0 := ⟨rb_inG 1009 (by decide +kernel) rfl, rb_inG 104 (by decide +kernel) rfl, ⟨by decide, by decide, by decide +kernel⟩, by decide⟩
theorem fw_Name_25 : rb_Fw "RuleBuilder$Name" 25 12 2 := ⟨_, rfl, by decide, by decide, by decide, rfl, rb_inG 885 (by decide +kernel) rfl⟩
theorem d_Name_isFile_0 : decode prog_5_method_2_code 0 = .ok (.aload_n 0, 1) := by decide +kernel
theorem d_Name_isFile_1 : decode prog_5_method_2_code 1 = .ok (.getfield 25, 3) := by decide +kernel
theorem d_Name_isFile_4 : decode prog_5_method_2_code 4 = .ok (.ifCond .le 7, 3) := by decide +kernel
theorem d_Name_isFile_7 : decode prog_5_method_2_code 7 = .ok (.iconst 1, 1) := by decide +kernel
theorem d_Name_isFile_8 : decode prog_5_method_2_code 8 = .ok (.goto 4, 3) := by decide +kernel
theorem d_Name_isFile_11 : decode prog_5_method_2_code 11 = .ok (.iconst 0, 1) := by decide +kernel
theorem d_Name_isFile_12 : decode prog_5_method_2_code 12 = .ok (.ireturn, 1) := by decide +kernel
noncomputable def f_Name_isFile (r0 : Option Nat) (σ : rb_St) : Option rb_Rs :=
  (rb_gI σ r0 12 2).bind fun x_1 => if x_1 ≤ 0 then (some (some (.int (0 : Int32)), σ)) else (some (some (.int (1 : Int32)), σ))
theorem s_Name_isFile {E : rb_EV} {d : Nat} (hdd : 0 ≤ d) (r0 : Option Nat) (σ : rb_St) : rb_Does E k_Name_isFile d [va_rf r0] σ (f_Name_isFile r0 σ) := by
  refine rb_start (lv := [some (va_rf r0)]) (by decide) (by simp [lg_sl, rb_as, lv_args, rb_cat_r, rb_cat_i, rb_cat_l, rb_nL, k_Name_isFile]) (fun res => ?_)
  unfold f_Name_isFile
  refine rb_TC.mono (rk_aload_n 0 d_Name_isFile_0 rfl rfl) ?_
  refine rt_gI r0 fw_Name_25 d_Name_isFile_1 (fun x_1 => ?_)
  refine rt_if_le 11 d_Name_isFile_4 (by decide) (fun _ => ?_) (fun _ => ?_)
  · refine rb_TC.mono (rk_iconst (0 : Int32) d_Name_isFile_11 (by decide)) ?_
    exact rt_iret (ty := .boolean) rfl (by decide) (fun h => h) d_Name_isFile_12
  · refine rb_TC.mono (rk_iconst (1 : Int32) d_Name_isFile_7 (by decide)) ?_
    refine rb_TC.mono (rk_goto 12 d_Name_isFile_8 (by decide)) ?_
    exact rt_iret (ty := .boolean) rfl (by decide) (fun h => h) d_Name_isFile_12
-- ===== RuleBuilder$Name.remove()V
def k_Name_remove : rb_MK := (⟨"RuleBuilder$Name", "remove", "()V"⟩, prog_5_method_3_code, 1, none)
theorem mw_Name_remove : rb_Mw k_Name_remove 0 := ⟨rb_inG 1013 (by decide +kernel) rfl, rb_inG 104 (by decide +kernel) rfl, ⟨by decide, by decide, by decide +kernel⟩, by decide⟩
theorem fp_Name_remove_25 : rb_Fp k_Name_remove 25 12 2 .int := ⟨fw_Name_25, rfl, fun q h => by cases h; exact Or.inl rfl⟩
theorem fw_Name_28 : rb_Fw "RuleBuilder$Name" 28 12 3 := ⟨_, rfl, by decide, by decide, by decide, rfl, rb_inG 889 (by decide +kernel) rfl⟩
theorem fp_Name_remove_28 : rb_Fp k_Name_remove 28 12 3 .int := ⟨fw_Name_28, rfl, fun q h => by cases h; exact Or.inl rfl⟩
theorem d_Name_remove_0 : decode prog_5_method_3_code 0 = .ok (.aload_n 0, 1) := by decide +kernel
theorem d_Name_remove_1 : decode prog_5_method_3_code 1 = .ok (.iconst 0, 1) := by decide +kernel
theorem d_Name_remove_2 : decode prog_5_method_3_code 2 = .ok (.putfield 25, 3) := by decide +kernel
theorem d_Name_remove_5 : decode prog_5_method_3_code 5 = .ok (.aload_n 0, 1) := by decide +kernel
theorem d_Name_remove_6 : decode prog_5_method_3_code 6 = .ok (.iconst 0, 1) := by decide +kernel
theorem d_Name_remove_7 : decode prog_5_method_3_code 7 = .ok (.putfield 28, 3) := by decide +kernel
theorem d_Name_remove_10 : decode prog_5_method_3_code 10 = .ok (.return_, 1) := by decide +kernel
noncomputable def f_Name_remove (r0 : Option Nat) (σ : rb_St) : Option rb_Rs :=
  (rb_pI σ r0 12 2 (0 : Int32)).bind fun σ_1 => (rb_pI σ_1 r0 12 3 (0 : Int32)).bind fun σ_2 => some (none, σ_2)
theorem s_Name_remove {E : rb_EV} {d : Nat} (hdd : 0 ≤ d) (r0 : Option Nat) (σ : rb_St) : rb_Does E k_Name_remove d [va_rf r0] σ (f_Name_remove r0 σ) := by
  refine rb_start (lv := [some (va_rf r0)]) (by decide) (by simp [lg_sl, rb_as, lv_args, rb_cat_r, rb_cat_i, rb_cat_l, rb_nL, k_Name_remove]) (fun res => ?_)
  unfold f_Name_remove
  refine rb_TC.mono (rk_aload_n 0 d_Name_remove_0 rfl rfl) ?_
  refine rb_TC.mono (rk_iconst (0 : Int32) d_Name_remove_1 (by decide)) ?_
  refine rt_pI r0 fp_Name_remove_25 d_Name_remove_2 (fun σ_1 => ?_)
  refine rb_TC.mono (rk_aload_n 0 d_Name_remove_5 rfl rfl) ?_
  refine rb_TC.mono (rk_iconst (0 : Int32) d_Name_remove_6 (by decide)) ?_
  refine rt_pI r0 fp_Name_remove_28 d_Name_remove_7 (fun σ_2 => ?_)
  exact rt_vret rfl (fun h => h) d_Name_remove_10
-- ===== RuleBuilder$Name.endsWith(Ljava/lang/String;)Z
def k_Name_endsWith : rb_MK := (⟨"RuleBuilder$Name", "endsWith", "(Ljava/lang/String;)Z"⟩, prog_5_method_5_code, 4, some (.boolean))
theorem mw_Name_endsWith : rb_Mw k_Name_endsWith 1 := ⟨rb_inG 1047 (by decide +kernel) rfl, rb_inG 104 (by decide +kernel) rfl, ⟨by decide, by decide, by decide +kernel⟩, by decide⟩
theorem vw_Name_47 : rb_Vw "RuleBuilder$Name" 47 k_Str_length 14 0 := ⟨mw_Str_length, rb_inG 1048 (by decide +kernel) rfl, rb_inG 590 (by decide +kernel) rfl, rb_inG 591 (by decide +kernel) rfl, by decide, by decide, _, rfl, rfl⟩
theorem vw_Name_53 : rb_Vw "RuleBuilder$Name" 53 k_Str_charAt 14 1 := ⟨mw_Str_charAt, rb_inG 1049 (by decide +kernel) rfl, rb_inG 598 (by decide +kernel) rfl, rb_inG 599 (by decide +kernel) rfl, by decide, by decide, _, rfl, rfl⟩
theorem d_Name_endsWith_0 : decode prog_5_method_5_code 0 = .ok (.aload_n 0, 1) := by decide +kernel
theorem d_Name_endsWith_1 : decode prog_5_method_5_code 1 = .ok (.getfield 21, 3) := by decide +kernel
theorem d_Name_endsWith_4 : decode prog_5_method_5_code 4 = .ok (.invokevirtual 47, 3) := by decide +kernel
theorem d_Name_endsWith_7 : decode prog_5_method_5_code 7 = .ok (.aload_n 1, 1) := by decide +kernel
theorem d_Name_endsWith_8 : decode prog_5_method_5_code 8 = .ok (.invokevirtual 47, 3) := by decide +kernel
theorem d_Name_endsWith_11 : decode prog_5_method_5_code 11 = .ok (.isub, 1) := by decide +kernel
theorem d_Name_endsWith_12 : decode prog_5_method_5_code 12 = .ok (.istore_n 2, 1) := by decide +kernel
theorem d_Name_endsWith_13 : decode prog_5_method_5_code 13 = .ok (.iload_n 2, 1) := by decide +kernel
theorem d_Name_endsWith_14 : decode prog_5_method_5_code 14 = .ok (.ifCond .ge 5, 3) := by decide +kernel
theorem d_Name_endsWith_17 : decode prog_5_method_5_code 17 = .ok (.iconst 0, 1) := by decide +kernel
theorem d_Name_endsWith_18 : decode prog_5_method_5_code 18 = .ok (.ireturn, 1) := by decide +kernel
theorem d_Name_endsWith_19 : decode prog_5_method_5_code 19 = .ok (.iconst 0, 1) := by decide +kernel
theorem d_Name_endsWith_20 : decode prog_5_method_5_code 20 = .ok (.istore_n 3, 1) := by decide +kernel
theorem d_Name_endsWith_21 : decode prog_5_method_5_code 21 = .ok (.iload_n 3, 1) := by decide +kernel
theorem d_Name_endsWith_22 : decode prog_5_method_5_code 22 = .ok (.aload_n 1, 1) := by decide +kernel
theorem d_Name_endsWith_23 : decode prog_5_method_5_code 23 = .ok (.invokevirtual 47, 3) := by decide +kernel
theorem d_Name_endsWith_26 : decode prog_5_method_5_code 26 = .ok (.if_icmp .ge 29, 3) := by decide +kernel
theorem d_Name_endsWith_29 : decode prog_5_method_5_code 29 = .ok (.aload_n 0, 1) := by decide +kernel
theorem d_Name_endsWith_30 : decode prog_5_method_5_code 30 = .ok (.getfield 21, 3) := by decide +kernel
theorem d_Name_endsWith_33 : decode prog_5_method_5_code 33 = .ok (.iload_n 2, 1) := by decide +kernel
theorem d_Name_endsWith_34 : decode prog_5_method_5_code 34 = .ok (.iload_n 3, 1) := by decide +kernel
theorem d_Name_endsWith_35 : decode prog_5_method_5_code 35 = .ok (.iadd, 1) := by decide +kernel
theorem d_Name_endsWith_36 : decode prog_5_method_5_code 36 = .ok (.invokevirtual 53, 3) := by decide +kernel
theorem d_Name_endsWith_39 : decode prog_5_method_5_code 39 = .ok (.aload_n 1, 1) := by decide +kernel
theorem d_Name_endsWith_40 : decode prog_5_method_5_code 40 = .ok (.iload_n 3, 1) := by decide +kernel
theorem d_Name_endsWith_41 : decode prog_5_method_5_code 41 = .ok (.invokevirtual 53, 3) := by decide +kernel
theorem d_Name_endsWith_44 : decode prog_5_method_5_code 44 = .ok (.if_icmp .eq 5, 3) := by decide +kernel
theorem d_Name_endsWith_47 : decode prog_5_method_5_code 47 = .ok (.iconst 0, 1) := by decide +kernel
theorem d_Name_endsWith_48 : decode prog_5_method_5_code 48 = .ok (.ireturn, 1) := by decide +kernel
theorem d_Name_endsWith_49 : decode prog_5_method_5_code 49 = .ok (.iinc 3 1, 3) := by decide +kernel
theorem d_Name_endsWith_52 : decode prog_5_method_5_code 52 = .ok (.goto (-31), 3) := by decide +kernel
theorem d_Name_endsWith_55 : decode prog_5_method_5_code 55 = .ok (.iconst 1, 1) := by decide +kernel
theorem d_Name_endsWith_56 : decode prog_5_method_5_code 56 = .ok (.ireturn, 1) := by decide +kernel
noncomputable def f_Name_endsWith_b21 (r0 : Option Nat) (r1 : Option Nat) (x2 : Int32) (x3 : Int32) (σ : rb_St) : Option ((Int32 × rb_St) ⊕ rb_Rs) :=
  (rb_fc σ r1 14).bind fun _ => rb_cI (f_Str_length (r1)  σ) fun x_6 σ_7 => if x_6 ≤ x3 then ((some (some (.int (1 : Int32)), σ_7)).map Sum.inr) else ((rb_gR σ_7 r0 12 1).bind fun r_8 => (rb_fc σ_7 r_8 14).bind fun _ => rb_cI (f_Str_charAt (r_8) ((x2 + x3)) σ_7) fun x_9 σ_10 => (rb_fc σ_10 r1 14).bind fun _ => rb_cI (f_Str_charAt (r1) (x3) σ_10) fun x_11 σ_12 => if x_9 = x_11 then (some (.inl ((x3 + 1), σ_12))) else ((some (some (.int (0 : Int32)), σ_12)).map Sum.inr))
theorem t_Name_endsWith_b21 {E : rb_EV} {d : Nat} {σ0 : rb_St} {res : rb_Rs} (hdd : 4 ≤ d)  (r0 : Option Nat) (r1 : Option Nat) (x2 : Int32) (x3 : Int32) (σ : rb_St) : rb_TC (f_Name_endsWith_b21 r0 r1 x2 x3 σ) (Sum.elim (fun z : (Int32 × rb_St) => rb_WK E k_Name_endsWith d σ0 res 21 [some (va_rf r0), some (va_rf r1), some (.int x2), some (.int z.1)] [] z.2) (fun r => r = res)) (rb_WK E k_Name_endsWith d σ0 res 21 [some (va_rf r0), some (va_rf r1), some (.int x2), some (.int x3)] [] σ) := by
  unfold f_Name_endsWith_b21
  refine rb_TC.mono (rk_iload_n 3 d_Name_endsWith_21 rfl rfl) ?_
  refine rb_TC.mono (rk_aload_n 1 d_Name_endsWith_22 rfl rfl) ?_
  refine rt_vI (As := []) (st := [.int x3]) (r1) vw_Name_47 (s_Str_length (Nat.le_refl _) (r1)  σ) (Nat.le_trans (by decide) hdd) rfl (by simp [rb_cat_r, rb_cat_i, rb_cat_l]) d_Name_endsWith_23 (fun x_6 σ_7 => ?_)
  refine rt_icmp_ge 55 d_Name_endsWith_26 (by decide) (fun _ => ?_) (fun _ => ?_)
  · refine rb_TC.out ?_
    refine rb_TC.mono (rk_iconst (1 : Int32) d_Name_endsWith_55 (by decide)) ?_
    exact rt_iret (ty := .boolean) rfl (by decide) (fun h => h) d_Name_endsWith_56
  · refine rb_TC.mono (rk_aload_n 0 d_Name_endsWith_29 rfl rfl) ?_
    refine rt_gR r0 fw_Name_21 d_Name_endsWith_30 (fun r_8 => ?_)
    refine rb_TC.mono (rk_iload_n 2 d_Name_endsWith_33 rfl rfl) ?_
    refine rb_TC.mono (rk_iload_n 3 d_Name_endsWith_34 rfl rfl) ?_
    refine rb_TC.mono (rk_iadd d_Name_endsWith_35) ?_
    refine rt_vI (As := [.int (x2 + x3)]) (st := []) (r_8) vw_Name_53 (s_Str_charAt (Nat.le_refl _) (r_8) ((x2 + x3)) σ_7) (Nat.le_trans (by decide) hdd) rfl (by simp [rb_cat_r, rb_cat_i, rb_cat_l]) d_Name_endsWith_36 (fun x_9 σ_10 => ?_)
    refine rb_TC.mono (rk_aload_n 1 d_Name_endsWith_39 rfl rfl) ?_
    refine rb_TC.mono (rk_iload_n 3 d_Name_endsWith_40 rfl rfl) ?_
    refine rt_vI (As := [.int x3]) (st := [.int x_9]) (r1) vw_Name_53 (s_Str_charAt (Nat.le_refl _) (r1) (x3) σ_10) (Nat.le_trans (by decide) hdd) rfl (by simp [rb_cat_r, rb_cat_i, rb_cat_l]) d_Name_endsWith_41 (fun x_11 σ_12 => ?_)
    refine rt_icmp_eq 49 d_Name_endsWith_44 (by decide) (fun _ => ?_) (fun _ => ?_)
    · refine rb_TC.mono (rk_iinc (lv2 := [some (va_rf r0), some (va_rf r1), some (.int x2), some (.int (x3 + 1))]) (x3 + 1) d_Name_endsWith_49 rfl rfl (by decide) (fun _ => rb_one_i) rfl) ?_
      refine rb_TC.mono (rk_goto 21 d_Name_endsWith_52 (by decide)) ?_
      exact rb_back
    · refine rb_TC.out ?_
      refine rb_TC.mono (rk_iconst (0 : Int32) d_Name_endsWith_47 (by decide)) ?_
      exact rt_iret (ty := .boolean) rfl (by decide) (fun h => h) d_Name_endsWith_48
noncomputable def f_Name_endsWith (r0 : Option Nat) (r1 : Option Nat) (σ : rb_St) : Option rb_Rs :=
  (rb_gR σ r0 12 1).bind fun r_1 => (rb_fc σ r_1 14).bind fun _ => rb_cI (f_Str_length (r_1)  σ) fun x_2 σ_3 => (rb_fc σ_3 r1 14).bind fun _ => rb_cI (f_Str_length (r1)  σ_3) fun x_4 σ_5 => if 0 ≤ (x_2 - x_4) then (rb_it (fun z : (Int32 × rb_St) => f_Name_endsWith_b21 (r0) (r1) ((x_2 - x_4)) (z.1) z.2) ((0 : Int32), σ_5)) else (some (some (.int (0 : Int32)), σ_5))
theorem s_Name_endsWith {E : rb_EV} {d : Nat} (hdd : 4 ≤ d) (r0 : Option Nat) (r1 : Option Nat) (σ : rb_St) : rb_Does E k_Name_endsWith d [va_rf r0, va_rf r1] σ (f_Name_endsWith r0 r1 σ) := by
  refine rb_start (lv := [some (va_rf r0), some (va_rf r1), none, none]) (by decide) (by simp [lg_sl, rb_as, lv_args, rb_cat_r, rb_cat_i, rb_cat_l, rb_nL, k_Name_endsWith]) (fun res => ?_)
  unfold f_Name_endsWith
  refine rb_TC.mono (rk_aload_n 0 d_Name_endsWith_0 rfl rfl) ?_
  refine rt_gR r0 fw_Name_21 d_Name_endsWith_1 (fun r_1 => ?_)
  refine rt_vI (As := []) (st := []) (r_1) vw_Name_47 (s_Str_length (Nat.le_refl _) (r_1)  σ) (Nat.le_trans (by decide) hdd) rfl (by simp [rb_cat_r, rb_cat_i, rb_cat_l]) d_Name_endsWith_4 (fun x_2 σ_3 => ?_)
  refine rb_TC.mono (rk_aload_n 1 d_Name_endsWith_7 rfl rfl) ?_
  refine rt_vI (As := []) (st := [.int x_2]) (r1) vw_Name_47 (s_Str_length (Nat.le_refl _) (r1)  σ_3) (Nat.le_trans (by decide) hdd) rfl (by simp [rb_cat_r, rb_cat_i, rb_cat_l]) d_Name_endsWith_8 (fun x_4 σ_5 => ?_)
  refine rb_TC.mono (rk_isub d_Name_endsWith_11) ?_
  refine rb_TC.mono (rk_istore_n (lv2 := [some (va_rf r0), some (va_rf r1), some (.int (x_2 - x_4)), none]) 2 d_Name_endsWith_12 rfl (by decide) (fun _ => rb_one_r) rfl) ?_
  refine rb_TC.mono (rk_iload_n 2 d_Name_endsWith_13 rfl rfl) ?_
  refine rt_if_ge 19 d_Name_endsWith_14 (by decide) (fun _ => ?_) (fun _ => ?_)
  · refine rb_TC.mono (rk_iconst (0 : Int32) d_Name_endsWith_19 (by decide)) ?_
    refine rb_TC.mono (rk_istore_n (lv2 := [some (va_rf r0), some (va_rf r1), some (.int (x_2 - x_4)), some (.int (0 : Int32))]) 3 d_Name_endsWith_20 rfl (by decide) (fun _ => rb_one_i) rfl) ?_
    exact rb_TC.loop2 (A := (fun z : (Int32 × rb_St) => rb_WK E k_Name_endsWith d σ res 21 [some (va_rf r0), some (va_rf r1), some (.int (x_2 - x_4)), some (.int z.1)] [] z.2)) ((0 : Int32), σ_5) (fun z => t_Name_endsWith_b21 hdd  (r0) (r1) ((x_2 - x_4)) (z.1) z.2)
  · refine rb_TC.mono (rk_iconst (0 : Int32) d_Name_endsWith_17 (by decide)) ?_
    exact rt_iret (ty := .boolean) rfl (by decide) (fun h => h) d_Name_endsWith_18
