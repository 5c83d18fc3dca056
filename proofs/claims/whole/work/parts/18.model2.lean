-- ===== RuleBuilderModel.copyText()V
def k_M_copyText : rb_MK := (⟨"RuleBuilderModel", "copyText", "()V"⟩, prog_14_method_31_code, 4, none)
theorem mw_M_copyText : rb_Mw k_M_copyText 0 := ⟨rb_inG 1500 (by decide +kernel) rfl, rb_inG 94 (by decide +kernel) rfl, ⟨by decide, by decide, by decide +kernel⟩, by decide⟩
theorem fp_M_copyText_159 : rb_Fp k_M_copyText 159 13 1 .int := ⟨fw_M_159, rfl, fun q h => by cases h; exact Or.inl rfl⟩
theorem fw_M_292 : rb_Fw "RuleBuilderModel" 292 13 16 := ⟨_, rfl, by decide, by decide, by decide, rfl, rb_inG 1236 (by decide +kernel) rfl⟩
theorem fp_M_copyText_292 : rb_Fp k_M_copyText 292 13 16 .int := ⟨fw_M_292, rfl, fun q h => by cases h; exact Or.inl rfl⟩
theorem d_M_copyText_0 : decode prog_14_method_31_code 0 = .ok (.aload_n 0, 1) := by decide +kernel
theorem d_M_copyText_1 : decode prog_14_method_31_code 1 = .ok (.iconst 0, 1) := by decide +kernel
theorem d_M_copyText_2 : decode prog_14_method_31_code 2 = .ok (.putfield 292, 3) := by decide +kernel
theorem d_M_copyText_5 : decode prog_14_method_31_code 5 = .ok (.iconst 0, 1) := by decide +kernel
theorem d_M_copyText_6 : decode prog_14_method_31_code 6 = .ok (.istore_n 1, 1) := by decide +kernel
theorem d_M_copyText_7 : decode prog_14_method_31_code 7 = .ok (.iconst 0, 1) := by decide +kernel
theorem d_M_copyText_8 : decode prog_14_method_31_code 8 = .ok (.istore_n 2, 1) := by decide +kernel
theorem d_M_copyText_9 : decode prog_14_method_31_code 9 = .ok (.iload_n 2, 1) := by decide +kernel
theorem d_M_copyText_10 : decode prog_14_method_31_code 10 = .ok (.aload_n 0, 1) := by decide +kernel
theorem d_M_copyText_11 : decode prog_14_method_31_code 11 = .ok (.getfield 159, 3) := by decide +kernel
theorem d_M_copyText_14 : decode prog_14_method_31_code 14 = .ok (.if_icmp .ge 127, 3) := by decide +kernel
theorem d_M_copyText_17 : decode prog_14_method_31_code 17 = .ok (.aload_n 0, 1) := by decide +kernel
theorem d_M_copyText_18 : decode prog_14_method_31_code 18 = .ok (.getfield 48, 3) := by decide +kernel
theorem d_M_copyText_21 : decode prog_14_method_31_code 21 = .ok (.aload_n 0, 1) := by decide +kernel
theorem d_M_copyText_22 : decode prog_14_method_31_code 22 = .ok (.getfield 292, 3) := by decide +kernel
theorem d_M_copyText_25 : decode prog_14_method_31_code 25 = .ok (.iload_n 1, 1) := by decide +kernel
theorem d_M_copyText_26 : decode prog_14_method_31_code 26 = .ok (.iastore, 1) := by decide +kernel
theorem d_M_copyText_27 : decode prog_14_method_31_code 27 = .ok (.aload_n 0, 1) := by decide +kernel
theorem d_M_copyText_28 : decode prog_14_method_31_code 28 = .ok (.getfield 7, 3) := by decide +kernel
theorem d_M_copyText_31 : decode prog_14_method_31_code 31 = .ok (.iload_n 2, 1) := by decide +kernel
theorem d_M_copyText_32 : decode prog_14_method_31_code 32 = .ok (.iaload, 1) := by decide +kernel
theorem d_M_copyText_33 : decode prog_14_method_31_code 33 = .ok (.bipush 92, 2) := by decide +kernel
theorem d_M_copyText_35 : decode prog_14_method_31_code 35 = .ok (.if_icmp .ne 30, 3) := by decide +kernel
theorem d_M_copyText_38 : decode prog_14_method_31_code 38 = .ok (.iload_n 2, 1) := by decide +kernel
theorem d_M_copyText_39 : decode prog_14_method_31_code 39 = .ok (.iconst 1, 1) := by decide +kernel
theorem d_M_copyText_40 : decode prog_14_method_31_code 40 = .ok (.iadd, 1) := by decide +kernel
theorem d_M_copyText_41 : decode prog_14_method_31_code 41 = .ok (.aload_n 0, 1) := by decide +kernel
theorem d_M_copyText_42 : decode prog_14_method_31_code 42 = .ok (.getfield 159, 3) := by decide +kernel
theorem d_M_copyText_45 : decode prog_14_method_31_code 45 = .ok (.if_icmp .ge 20, 3) := by decide +kernel
theorem d_M_copyText_48 : decode prog_14_method_31_code 48 = .ok (.aload_n 0, 1) := by decide +kernel
theorem d_M_copyText_49 : decode prog_14_method_31_code 49 = .ok (.getfield 7, 3) := by decide +kernel
theorem d_M_copyText_52 : decode prog_14_method_31_code 52 = .ok (.iload_n 2, 1) := by decide +kernel
theorem d_M_copyText_53 : decode prog_14_method_31_code 53 = .ok (.iconst 1, 1) := by decide +kernel
theorem d_M_copyText_54 : decode prog_14_method_31_code 54 = .ok (.iadd, 1) := by decide +kernel
theorem d_M_copyText_55 : decode prog_14_method_31_code 55 = .ok (.iaload, 1) := by decide +kernel
theorem d_M_copyText_56 : decode prog_14_method_31_code 56 = .ok (.bipush 10, 2) := by decide +kernel
theorem d_M_copyText_58 : decode prog_14_method_31_code 58 = .ok (.if_icmp .ne 7, 3) := by decide +kernel
theorem d_M_copyText_61 : decode prog_14_method_31_code 61 = .ok (.iconst 1, 1) := by decide +kernel
theorem d_M_copyText_62 : decode prog_14_method_31_code 62 = .ok (.goto 4, 3) := by decide +kernel
theorem d_M_copyText_65 : decode prog_14_method_31_code 65 = .ok (.iconst 0, 1) := by decide +kernel
theorem d_M_copyText_66 : decode prog_14_method_31_code 66 = .ok (.istore_n 3, 1) := by decide +kernel
theorem d_M_copyText_67 : decode prog_14_method_31_code 67 = .ok (.aload_n 0, 1) := by decide +kernel
theorem d_M_copyText_68 : decode prog_14_method_31_code 68 = .ok (.getfield 45, 3) := by decide +kernel
theorem d_M_copyText_71 : decode prog_14_method_31_code 71 = .ok (.aload_n 0, 1) := by decide +kernel
theorem d_M_copyText_72 : decode prog_14_method_31_code 72 = .ok (.getfield 292, 3) := by decide +kernel
theorem d_M_copyText_75 : decode prog_14_method_31_code 75 = .ok (.iload_n 3, 1) := by decide +kernel
theorem d_M_copyText_76 : decode prog_14_method_31_code 76 = .ok (.ifCond .eq 8, 3) := by decide +kernel
theorem d_M_copyText_79 : decode prog_14_method_31_code 79 = .ok (.bipush 32, 2) := by decide +kernel
theorem d_M_copyText_81 : decode prog_14_method_31_code 81 = .ok (.goto 9, 3) := by decide +kernel
theorem d_M_copyText_84 : decode prog_14_method_31_code 84 = .ok (.aload_n 0, 1) := by decide +kernel
theorem d_M_copyText_85 : decode prog_14_method_31_code 85 = .ok (.getfield 7, 3) := by decide +kernel
theorem d_M_copyText_88 : decode prog_14_method_31_code 88 = .ok (.iload_n 2, 1) := by decide +kernel
theorem d_M_copyText_89 : decode prog_14_method_31_code 89 = .ok (.iaload, 1) := by decide +kernel
theorem d_M_copyText_90 : decode prog_14_method_31_code 90 = .ok (.iastore, 1) := by decide +kernel
theorem d_M_copyText_91 : decode prog_14_method_31_code 91 = .ok (.iload_n 3, 1) := by decide +kernel
theorem d_M_copyText_92 : decode prog_14_method_31_code 92 = .ok (.ifCond .ne 14, 3) := by decide +kernel
theorem d_M_copyText_95 : decode prog_14_method_31_code 95 = .ok (.aload_n 0, 1) := by decide +kernel
theorem d_M_copyText_96 : decode prog_14_method_31_code 96 = .ok (.getfield 7, 3) := by decide +kernel
theorem d_M_copyText_99 : decode prog_14_method_31_code 99 = .ok (.iload_n 2, 1) := by decide +kernel
theorem d_M_copyText_100 : decode prog_14_method_31_code 100 = .ok (.iaload, 1) := by decide +kernel
theorem d_M_copyText_101 : decode prog_14_method_31_code 101 = .ok (.bipush 10, 2) := by decide +kernel
theorem d_M_copyText_103 : decode prog_14_method_31_code 103 = .ok (.if_icmp .ne 9, 3) := by decide +kernel
theorem d_M_copyText_106 : decode prog_14_method_31_code 106 = .ok (.iload_n 1, 1) := by decide +kernel
theorem d_M_copyText_107 : decode prog_14_method_31_code 107 = .ok (.iconst 1, 1) := by decide +kernel
theorem d_M_copyText_108 : decode prog_14_method_31_code 108 = .ok (.iadd, 1) := by decide +kernel
theorem d_M_copyText_109 : decode prog_14_method_31_code 109 = .ok (.goto 4, 3) := by decide +kernel
theorem d_M_copyText_112 : decode prog_14_method_31_code 112 = .ok (.iload_n 1, 1) := by decide +kernel
theorem d_M_copyText_113 : decode prog_14_method_31_code 113 = .ok (.istore_n 1, 1) := by decide +kernel
theorem d_M_copyText_114 : decode prog_14_method_31_code 114 = .ok (.iload_n 3, 1) := by decide +kernel
theorem d_M_copyText_115 : decode prog_14_method_31_code 115 = .ok (.ifCond .eq 9, 3) := by decide +kernel
theorem d_M_copyText_118 : decode prog_14_method_31_code 118 = .ok (.iload_n 2, 1) := by decide +kernel
theorem d_M_copyText_119 : decode prog_14_method_31_code 119 = .ok (.iconst 2, 1) := by decide +kernel
theorem d_M_copyText_120 : decode prog_14_method_31_code 120 = .ok (.iadd, 1) := by decide +kernel
theorem d_M_copyText_121 : decode prog_14_method_31_code 121 = .ok (.goto 6, 3) := by decide +kernel
theorem d_M_copyText_124 : decode prog_14_method_31_code 124 = .ok (.iload_n 2, 1) := by decide +kernel
theorem d_M_copyText_125 : decode prog_14_method_31_code 125 = .ok (.iconst 1, 1) := by decide +kernel
theorem d_M_copyText_126 : decode prog_14_method_31_code 126 = .ok (.iadd, 1) := by decide +kernel
theorem d_M_copyText_127 : decode prog_14_method_31_code 127 = .ok (.istore_n 2, 1) := by decide +kernel
theorem d_M_copyText_128 : decode prog_14_method_31_code 128 = .ok (.aload_n 0, 1) := by decide +kernel
theorem d_M_copyText_129 : decode prog_14_method_31_code 129 = .ok (.dup, 1) := by decide +kernel
theorem d_M_copyText_130 : decode prog_14_method_31_code 130 = .ok (.getfield 292, 3) := by decide +kernel
theorem d_M_copyText_133 : decode prog_14_method_31_code 133 = .ok (.iconst 1, 1) := by decide +kernel
theorem d_M_copyText_134 : decode prog_14_method_31_code 134 = .ok (.iadd, 1) := by decide +kernel
theorem d_M_copyText_135 : decode prog_14_method_31_code 135 = .ok (.putfield 292, 3) := by decide +kernel
theorem d_M_copyText_138 : decode prog_14_method_31_code 138 = .ok (.goto (-129), 3) := by decide +kernel
theorem d_M_copyText_141 : decode prog_14_method_31_code 141 = .ok (.aload_n 0, 1) := by decide +kernel
theorem d_M_copyText_142 : decode prog_14_method_31_code 142 = .ok (.getfield 48, 3) := by decide +kernel
theorem d_M_copyText_145 : decode prog_14_method_31_code 145 = .ok (.aload_n 0, 1) := by decide +kernel
theorem d_M_copyText_146 : decode prog_14_method_31_code 146 = .ok (.getfield 292, 3) := by decide +kernel
theorem d_M_copyText_149 : decode prog_14_method_31_code 149 = .ok (.iload_n 1, 1) := by decide +kernel
theorem d_M_copyText_150 : decode prog_14_method_31_code 150 = .ok (.iastore, 1) := by decide +kernel
theorem d_M_copyText_151 : decode prog_14_method_31_code 151 = .ok (.aload_n 0, 1) := by decide +kernel
theorem d_M_copyText_152 : decode prog_14_method_31_code 152 = .ok (.iconst 0, 1) := by decide +kernel
theorem d_M_copyText_153 : decode prog_14_method_31_code 153 = .ok (.putfield 159, 3) := by decide +kernel
theorem d_M_copyText_156 : decode prog_14_method_31_code 156 = .ok (.return_, 1) := by decide +kernel
noncomputable def f_M_copyText_j127 (r0 : Option Nat) (x1 : Int32) (sx0 : Int32) (σ : rb_St) : Option ((Int32 × Int32 × rb_St) ⊕ rb_Rs) :=
  (rb_gI σ r0 13 16).bind fun x_20 => (rb_pI σ r0 13 16 (x_20 + (1 : Int32))).bind fun σ_21 => some (.inl (x1, sx0, σ_21))
theorem t_M_copyText_j127 {E : rb_EV} {d : Nat} {σ0 : rb_St} {res : rb_Rs} (hdd : 0 ≤ d)  (r0 : Option Nat) (x1 : Int32) (sx0 : Int32) (σ : rb_St) : rb_TC (f_M_copyText_j127 r0 x1 sx0 σ) (Sum.elim (fun z : (Int32 × Int32 × rb_St) => rb_WK E k_M_copyText d σ0 res 9 [some (va_rf r0), some (.int z.1), some (.int z.2.1), none] [] z.2.2) (fun r => r = res)) (rb_WK E k_M_copyText d σ0 res 127 [some (va_rf r0), some (.int x1), none, none] [.int sx0] σ) := by
  unfold f_M_copyText_j127
  refine rb_TC.mono (rk_istore_n (lv2 := [some (va_rf r0), some (.int x1), some (.int sx0), none]) 2 d_M_copyText_127 rfl (by decide) (fun _ => rb_one_i) rfl) ?_
  refine rb_TC.mono (rk_aload_n 0 d_M_copyText_128 rfl rfl) ?_
  refine rb_TC.mono (rk_dupr d_M_copyText_129) ?_
  refine rt_gI r0 fw_M_292 d_M_copyText_130 (fun x_20 => ?_)
  refine rb_TC.mono (rk_iconst (1 : Int32) d_M_copyText_133 (by decide)) ?_
  refine rb_TC.mono (rk_iadd d_M_copyText_134) ?_
  refine rt_pI r0 fp_M_copyText_292 d_M_copyText_135 (fun σ_21 => ?_)
  refine rb_TC.mono (rk_goto 9 d_M_copyText_138 (by decide)) ?_
  exact rb_back
noncomputable def f_M_copyText_j113 (r0 : Option Nat) (x2 : Int32) (x3 : Int32) (sx0 : Int32) (σ : rb_St) : Option ((Int32 × Int32 × rb_St) ⊕ rb_Rs) :=
  if x3 = 0 then (f_M_copyText_j127 (r0) (sx0) ((x2 + (1 : Int32))) σ) else (f_M_copyText_j127 (r0) (sx0) ((x2 + (2 : Int32))) σ)
theorem t_M_copyText_j113 {E : rb_EV} {d : Nat} {σ0 : rb_St} {res : rb_Rs} (hdd : 0 ≤ d)  (r0 : Option Nat) (x2 : Int32) (x3 : Int32) (sx0 : Int32) (σ : rb_St) : rb_TC (f_M_copyText_j113 r0 x2 x3 sx0 σ) (Sum.elim (fun z : (Int32 × Int32 × rb_St) => rb_WK E k_M_copyText d σ0 res 9 [some (va_rf r0), some (.int z.1), some (.int z.2.1), none] [] z.2.2) (fun r => r = res)) (rb_WK E k_M_copyText d σ0 res 113 [some (va_rf r0), none, some (.int x2), some (.int x3)] [.int sx0] σ) := by
  unfold f_M_copyText_j113
  refine rb_TC.mono (rk_istore_n (lv2 := [some (va_rf r0), some (.int sx0), some (.int x2), some (.int x3)]) 1 d_M_copyText_113 rfl (by decide) (fun _ => rb_one_r) rfl) ?_
  refine rb_TC.mono (rk_iload_n 3 d_M_copyText_114 rfl rfl) ?_
  refine rt_if_eq 124 d_M_copyText_115 (by decide) (fun _ => ?_) (fun _ => ?_)
  · refine rb_TC.mono (rk_iload_n 2 d_M_copyText_124 rfl rfl) ?_
    refine rb_TC.mono (rk_iconst (1 : Int32) d_M_copyText_125 (by decide)) ?_
    refine rb_TC.mono (rk_iadd d_M_copyText_126) ?_
    refine rb_TC.mono (rk_less (lv2 := [some (va_rf r0), some (.int sx0), none, none]) (rb_le_ok (rb_leS (rb_leS (rb_leN (rb_leN rb_le0)))))) ?_
    exact t_M_copyText_j127 hdd  (r0) (sx0) ((x2 + (1 : Int32))) σ
  · refine rb_TC.mono (rk_iload_n 2 d_M_copyText_118 rfl rfl) ?_
    refine rb_TC.mono (rk_iconst (2 : Int32) d_M_copyText_119 (by decide)) ?_
    refine rb_TC.mono (rk_iadd d_M_copyText_120) ?_
    refine rb_TC.mono (rk_goto 127 d_M_copyText_121 (by decide)) ?_
    refine rb_TC.mono (rk_less (lv2 := [some (va_rf r0), some (.int sx0), none, none]) (rb_le_ok (rb_leS (rb_leS (rb_leN (rb_leN rb_le0)))))) ?_
    exact t_M_copyText_j127 hdd  (r0) (sx0) ((x2 + (2 : Int32))) σ
noncomputable def f_M_copyText_j106 (r0 : Option Nat) (x1 : Int32) (x2 : Int32) (x3 : Int32) (σ : rb_St) : Option ((Int32 × Int32 × rb_St) ⊕ rb_Rs) :=
  f_M_copyText_j113 (r0) (x2) (x3) ((x1 + (1 : Int32))) σ
theorem t_M_copyText_j106 {E : rb_EV} {d : Nat} {σ0 : rb_St} {res : rb_Rs} (hdd : 0 ≤ d)  (r0 : Option Nat) (x1 : Int32) (x2 : Int32) (x3 : Int32) (σ : rb_St) : rb_TC (f_M_copyText_j106 r0 x1 x2 x3 σ) (Sum.elim (fun z : (Int32 × Int32 × rb_St) => rb_WK E k_M_copyText d σ0 res 9 [some (va_rf r0), some (.int z.1), some (.int z.2.1), none] [] z.2.2) (fun r => r = res)) (rb_WK E k_M_copyText d σ0 res 106 [some (va_rf r0), some (.int x1), some (.int x2), some (.int x3)] [] σ) := by
  unfold f_M_copyText_j106
  refine rb_TC.mono (rk_iload_n 1 d_M_copyText_106 rfl rfl) ?_
  refine rb_TC.mono (rk_iconst (1 : Int32) d_M_copyText_107 (by decide)) ?_
  refine rb_TC.mono (rk_iadd d_M_copyText_108) ?_
  refine rb_TC.mono (rk_goto 113 d_M_copyText_109 (by decide)) ?_
  refine rb_TC.mono (rk_less (lv2 := [some (va_rf r0), none, some (.int x2), some (.int x3)]) (rb_le_ok (rb_leS (rb_leN (rb_leS (rb_leS rb_le0)))))) ?_
  exact t_M_copyText_j113 hdd  (r0) (x2) (x3) ((x1 + (1 : Int32))) σ
noncomputable def f_M_copyText_j90 (r0 : Option Nat) (x1 : Int32) (x2 : Int32) (x3 : Int32) (sx0 : Int32) (sx1 : Int32) (sr2 : Option Nat) (σ : rb_St) : Option ((Int32 × Int32 × rb_St) ⊕ rb_Rs) :=
  (rb_sI σ sr2 102 sx1 sx0).bind fun σ_17 => if x3 = 0 then ((rb_gR σ_17 r0 13 0).bind fun r_18 => (rb_aI σ_17 r_18 102 x2).bind fun x_19 => if x_19 = (10 : Int32) then (f_M_copyText_j106 (r0) (x1) (x2) (x3) σ_17) else (f_M_copyText_j113 (r0) (x2) (x3) (x1) σ_17)) else (f_M_copyText_j106 (r0) (x1) (x2) (x3) σ_17)
theorem t_M_copyText_j90 {E : rb_EV} {d : Nat} {σ0 : rb_St} {res : rb_Rs} (hdd : 0 ≤ d)  (r0 : Option Nat) (x1 : Int32) (x2 : Int32) (x3 : Int32) (sx0 : Int32) (sx1 : Int32) (sr2 : Option Nat) (σ : rb_St) : rb_TC (f_M_copyText_j90 r0 x1 x2 x3 sx0 sx1 sr2 σ) (Sum.elim (fun z : (Int32 × Int32 × rb_St) => rb_WK E k_M_copyText d σ0 res 9 [some (va_rf r0), some (.int z.1), some (.int z.2.1), none] [] z.2.2) (fun r => r = res)) (rb_WK E k_M_copyText d σ0 res 90 [some (va_rf r0), some (.int x1), some (.int x2), some (.int x3)] [.int sx0, .int sx1, va_rf sr2] σ) := by
  unfold f_M_copyText_j90
  refine rt_iast sr2 d_M_copyText_90 (fun σ_17 => ?_)
  refine rb_TC.mono (rk_iload_n 3 d_M_copyText_91 rfl rfl) ?_
  refine rt_if_ne 106 d_M_copyText_92 (by decide) (fun _ => ?_) (fun _ => ?_)
  · refine rb_TC.mono (rk_aload_n 0 d_M_copyText_95 rfl rfl) ?_
    refine rt_gR r0 fw_M_7 d_M_copyText_96 (fun r_18 => ?_)
    refine rb_TC.mono (rk_iload_n 2 d_M_copyText_99 rfl rfl) ?_
    refine rt_iald r_18 d_M_copyText_100 (fun x_19 => ?_)
    refine rb_TC.mono (rk_bipush (10 : Int32) d_M_copyText_101 (by decide)) ?_
    refine rt_icmp_ne 112 d_M_copyText_103 (by decide) (fun _ => ?_) (fun _ => ?_)
    · exact t_M_copyText_j106 hdd  (r0) (x1) (x2) (x3) σ_17
    · refine rb_TC.mono (rk_iload_n 1 d_M_copyText_112 rfl rfl) ?_
      refine rb_TC.mono (rk_less (lv2 := [some (va_rf r0), none, some (.int x2), some (.int x3)]) (rb_le_ok (rb_leS (rb_leN (rb_leS (rb_leS rb_le0)))))) ?_
      exact t_M_copyText_j113 hdd  (r0) (x2) (x3) (x1) σ_17
  · exact t_M_copyText_j106 hdd  (r0) (x1) (x2) (x3) σ_17
noncomputable def f_M_copyText_j66 (r0 : Option Nat) (x1 : Int32) (x2 : Int32) (sx0 : Int32) (σ : rb_St) : Option ((Int32 × Int32 × rb_St) ⊕ rb_Rs) :=
  (rb_gR σ r0 13 14).bind fun r_13 => (rb_gI σ r0 13 16).bind fun x_14 => if sx0 = 0 then ((rb_gR σ r0 13 0).bind fun r_15 => (rb_aI σ r_15 102 x2).bind fun x_16 => f_M_copyText_j90 (r0) (x1) (x2) (sx0) (x_16) (x_14) (r_13) σ) else (f_M_copyText_j90 (r0) (x1) (x2) (sx0) ((32 : Int32)) (x_14) (r_13) σ)
theorem t_M_copyText_j66 {E : rb_EV} {d : Nat} {σ0 : rb_St} {res : rb_Rs} (hdd : 0 ≤ d)  (r0 : Option Nat) (x1 : Int32) (x2 : Int32) (sx0 : Int32) (σ : rb_St) : rb_TC (f_M_copyText_j66 r0 x1 x2 sx0 σ) (Sum.elim (fun z : (Int32 × Int32 × rb_St) => rb_WK E k_M_copyText d σ0 res 9 [some (va_rf r0), some (.int z.1), some (.int z.2.1), none] [] z.2.2) (fun r => r = res)) (rb_WK E k_M_copyText d σ0 res 66 [some (va_rf r0), some (.int x1), some (.int x2), none] [.int sx0] σ) := by
  unfold f_M_copyText_j66
  refine rb_TC.mono (rk_istore_n (lv2 := [some (va_rf r0), some (.int x1), some (.int x2), some (.int sx0)]) 3 d_M_copyText_66 rfl (by decide) (fun _ => rb_one_i) rfl) ?_
  refine rb_TC.mono (rk_aload_n 0 d_M_copyText_67 rfl rfl) ?_
  refine rt_gR r0 fw_M_45 d_M_copyText_68 (fun r_13 => ?_)
  refine rb_TC.mono (rk_aload_n 0 d_M_copyText_71 rfl rfl) ?_
  refine rt_gI r0 fw_M_292 d_M_copyText_72 (fun x_14 => ?_)
  refine rb_TC.mono (rk_iload_n 3 d_M_copyText_75 rfl rfl) ?_
  refine rt_if_eq 84 d_M_copyText_76 (by decide) (fun _ => ?_) (fun _ => ?_)
  · refine rb_TC.mono (rk_aload_n 0 d_M_copyText_84 rfl rfl) ?_
    refine rt_gR r0 fw_M_7 d_M_copyText_85 (fun r_15 => ?_)
    refine rb_TC.mono (rk_iload_n 2 d_M_copyText_88 rfl rfl) ?_
    refine rt_iald r_15 d_M_copyText_89 (fun x_16 => ?_)
    exact t_M_copyText_j90 hdd  (r0) (x1) (x2) (sx0) (x_16) (x_14) (r_13) σ
  · refine rb_TC.mono (rk_bipush (32 : Int32) d_M_copyText_79 (by decide)) ?_
    refine rb_TC.mono (rk_goto 90 d_M_copyText_81 (by decide)) ?_
    exact t_M_copyText_j90 hdd  (r0) (x1) (x2) (sx0) ((32 : Int32)) (x_14) (r_13) σ
noncomputable def f_M_copyText_j65 (r0 : Option Nat) (x1 : Int32) (x2 : Int32) (σ : rb_St) : Option ((Int32 × Int32 × rb_St) ⊕ rb_Rs) :=
  f_M_copyText_j66 (r0) (x1) (x2) ((0 : Int32)) σ
theorem t_M_copyText_j65 {E : rb_EV} {d : Nat} {σ0 : rb_St} {res : rb_Rs} (hdd : 0 ≤ d)  (r0 : Option Nat) (x1 : Int32) (x2 : Int32) (σ : rb_St) : rb_TC (f_M_copyText_j65 r0 x1 x2 σ) (Sum.elim (fun z : (Int32 × Int32 × rb_St) => rb_WK E k_M_copyText d σ0 res 9 [some (va_rf r0), some (.int z.1), some (.int z.2.1), none] [] z.2.2) (fun r => r = res)) (rb_WK E k_M_copyText d σ0 res 65 [some (va_rf r0), some (.int x1), some (.int x2), none] [] σ) := by
  unfold f_M_copyText_j65
  refine rb_TC.mono (rk_iconst (0 : Int32) d_M_copyText_65 (by decide)) ?_
  exact t_M_copyText_j66 hdd  (r0) (x1) (x2) ((0 : Int32)) σ
noncomputable def f_M_copyText_b9 (r0 : Option Nat) (x1 : Int32) (x2 : Int32) (σ : rb_St) : Option ((Int32 × Int32 × rb_St) ⊕ rb_Rs) :=
  (rb_gI σ r0 13 1).bind fun x_2 => if x_2 ≤ x2 then (((rb_gR σ r0 13 15).bind fun r_3 => (rb_gI σ r0 13 16).bind fun x_4 => (rb_sI σ r_3 102 x_4 x1).bind fun σ_5 => (rb_pI σ_5 r0 13 1 (0 : Int32)).bind fun σ_6 => some (none, σ_6)).map Sum.inr) else ((rb_gR σ r0 13 15).bind fun r_7 => (rb_gI σ r0 13 16).bind fun x_8 => (rb_sI σ r_7 102 x_8 x1).bind fun σ_9 => (rb_gR σ_9 r0 13 0).bind fun r_10 => (rb_aI σ_9 r_10 102 x2).bind fun x_11 => if x_11 = (92 : Int32) then ((rb_gI σ_9 r0 13 1).bind fun x_12 => if x_12 ≤ (x2 + (1 : Int32)) then (f_M_copyText_j65 (r0) (x1) (x2) σ_9) else ((rb_gR σ_9 r0 13 0).bind fun r_22 => (rb_aI σ_9 r_22 102 (x2 + (1 : Int32))).bind fun x_23 => if x_23 = (10 : Int32) then (f_M_copyText_j66 (r0) (x1) (x2) ((1 : Int32)) σ_9) else (f_M_copyText_j65 (r0) (x1) (x2) σ_9))) else (f_M_copyText_j65 (r0) (x1) (x2) σ_9))
theorem t_M_copyText_b9 {E : rb_EV} {d : Nat} {σ0 : rb_St} {res : rb_Rs} (hdd : 0 ≤ d)  (r0 : Option Nat) (x1 : Int32) (x2 : Int32) (σ : rb_St) : rb_TC (f_M_copyText_b9 r0 x1 x2 σ) (Sum.elim (fun z : (Int32 × Int32 × rb_St) => rb_WK E k_M_copyText d σ0 res 9 [some (va_rf r0), some (.int z.1), some (.int z.2.1), none] [] z.2.2) (fun r => r = res)) (rb_WK E k_M_copyText d σ0 res 9 [some (va_rf r0), some (.int x1), some (.int x2), none] [] σ) := by
  unfold f_M_copyText_b9
  refine rb_TC.mono (rk_iload_n 2 d_M_copyText_9 rfl rfl) ?_
  refine rb_TC.mono (rk_aload_n 0 d_M_copyText_10 rfl rfl) ?_
  refine rt_gI r0 fw_M_159 d_M_copyText_11 (fun x_2 => ?_)
  refine rt_icmp_ge 141 d_M_copyText_14 (by decide) (fun _ => ?_) (fun _ => ?_)
  · refine rb_TC.out ?_
    refine rb_TC.mono (rk_aload_n 0 d_M_copyText_141 rfl rfl) ?_
    refine rt_gR r0 fw_M_48 d_M_copyText_142 (fun r_3 => ?_)
    refine rb_TC.mono (rk_aload_n 0 d_M_copyText_145 rfl rfl) ?_
    refine rt_gI r0 fw_M_292 d_M_copyText_146 (fun x_4 => ?_)
    refine rb_TC.mono (rk_iload_n 1 d_M_copyText_149 rfl rfl) ?_
    refine rt_iast r_3 d_M_copyText_150 (fun σ_5 => ?_)
    refine rb_TC.mono (rk_aload_n 0 d_M_copyText_151 rfl rfl) ?_
    refine rb_TC.mono (rk_iconst (0 : Int32) d_M_copyText_152 (by decide)) ?_
    refine rt_pI r0 fp_M_copyText_159 d_M_copyText_153 (fun σ_6 => ?_)
    exact rt_vret rfl (fun h => h) d_M_copyText_156
  · refine rb_TC.mono (rk_aload_n 0 d_M_copyText_17 rfl rfl) ?_
    refine rt_gR r0 fw_M_48 d_M_copyText_18 (fun r_7 => ?_)
    refine rb_TC.mono (rk_aload_n 0 d_M_copyText_21 rfl rfl) ?_
    refine rt_gI r0 fw_M_292 d_M_copyText_22 (fun x_8 => ?_)
    refine rb_TC.mono (rk_iload_n 1 d_M_copyText_25 rfl rfl) ?_
    refine rt_iast r_7 d_M_copyText_26 (fun σ_9 => ?_)
    refine rb_TC.mono (rk_aload_n 0 d_M_copyText_27 rfl rfl) ?_
    refine rt_gR r0 fw_M_7 d_M_copyText_28 (fun r_10 => ?_)
    refine rb_TC.mono (rk_iload_n 2 d_M_copyText_31 rfl rfl) ?_
    refine rt_iald r_10 d_M_copyText_32 (fun x_11 => ?_)
    refine rb_TC.mono (rk_bipush (92 : Int32) d_M_copyText_33 (by decide)) ?_
    refine rt_icmp_ne 65 d_M_copyText_35 (by decide) (fun _ => ?_) (fun _ => ?_)
    · refine rb_TC.mono (rk_iload_n 2 d_M_copyText_38 rfl rfl) ?_
      refine rb_TC.mono (rk_iconst (1 : Int32) d_M_copyText_39 (by decide)) ?_
      refine rb_TC.mono (rk_iadd d_M_copyText_40) ?_
      refine rb_TC.mono (rk_aload_n 0 d_M_copyText_41 rfl rfl) ?_
      refine rt_gI r0 fw_M_159 d_M_copyText_42 (fun x_12 => ?_)
      refine rt_icmp_ge 65 d_M_copyText_45 (by decide) (fun _ => ?_) (fun _ => ?_)
      · exact t_M_copyText_j65 hdd  (r0) (x1) (x2) σ_9
      · refine rb_TC.mono (rk_aload_n 0 d_M_copyText_48 rfl rfl) ?_
        refine rt_gR r0 fw_M_7 d_M_copyText_49 (fun r_22 => ?_)
        refine rb_TC.mono (rk_iload_n 2 d_M_copyText_52 rfl rfl) ?_
        refine rb_TC.mono (rk_iconst (1 : Int32) d_M_copyText_53 (by decide)) ?_
        refine rb_TC.mono (rk_iadd d_M_copyText_54) ?_
        refine rt_iald r_22 d_M_copyText_55 (fun x_23 => ?_)
        refine rb_TC.mono (rk_bipush (10 : Int32) d_M_copyText_56 (by decide)) ?_
        refine rt_icmp_ne 65 d_M_copyText_58 (by decide) (fun _ => ?_) (fun _ => ?_)
        · refine rb_TC.mono (rk_iconst (1 : Int32) d_M_copyText_61 (by decide)) ?_
          refine rb_TC.mono (rk_goto 66 d_M_copyText_62 (by decide)) ?_
          exact t_M_copyText_j66 hdd  (r0) (x1) (x2) ((1 : Int32)) σ_9
        · exact t_M_copyText_j65 hdd  (r0) (x1) (x2) σ_9
    · exact t_M_copyText_j65 hdd  (r0) (x1) (x2) σ_9
noncomputable def f_M_copyText (r0 : Option Nat) (σ : rb_St) : Option rb_Rs :=
  (rb_pI σ r0 13 16 (0 : Int32)).bind fun σ_1 => rb_it (fun z : (Int32 × Int32 × rb_St) => f_M_copyText_b9 (r0) (z.1) (z.2.1) z.2.2) ((0 : Int32), (0 : Int32), σ_1)
theorem s_M_copyText {E : rb_EV} {d : Nat} (hdd : 0 ≤ d) (r0 : Option Nat) (σ : rb_St) : rb_Does E k_M_copyText d [va_rf r0] σ (f_M_copyText r0 σ) := by
  refine rb_start (lv := [some (va_rf r0), none, none, none]) (by decide) (by simp [lg_sl, rb_as, lv_args, rb_cat_r, rb_cat_i, rb_cat_l, rb_nL, k_M_copyText]) (fun res => ?_)
  unfold f_M_copyText
  refine rb_TC.mono (rk_aload_n 0 d_M_copyText_0 rfl rfl) ?_
  refine rb_TC.mono (rk_iconst (0 : Int32) d_M_copyText_1 (by decide)) ?_
  refine rt_pI r0 fp_M_copyText_292 d_M_copyText_2 (fun σ_1 => ?_)
  refine rb_TC.mono (rk_iconst (0 : Int32) d_M_copyText_5 (by decide)) ?_
  refine rb_TC.mono (rk_istore_n (lv2 := [some (va_rf r0), some (.int (0 : Int32)), none, none]) 1 d_M_copyText_6 rfl (by decide) (fun _ => rb_one_r) rfl) ?_
  refine rb_TC.mono (rk_iconst (0 : Int32) d_M_copyText_7 (by decide)) ?_
  refine rb_TC.mono (rk_istore_n (lv2 := [some (va_rf r0), some (.int (0 : Int32)), some (.int (0 : Int32)), none]) 2 d_M_copyText_8 rfl (by decide) (fun _ => rb_one_i) rfl) ?_
  exact rb_TC.loop2 (A := (fun z : (Int32 × Int32 × rb_St) => rb_WK E k_M_copyText d σ res 9 [some (va_rf r0), some (.int z.1), some (.int z.2.1), none] [] z.2.2)) ((0 : Int32), (0 : Int32), σ_1) (fun z => t_M_copyText_b9 hdd  (r0) (z.1) (z.2.1) z.2.2)
-- ===== RuleBuilderModel.command(II)Z
def k_M_command : rb_MK := (⟨"RuleBuilderModel", "command", "(II)Z"⟩, prog_14_method_34_code, 5, some (.boolean))
theorem mw_M_command : rb_Mw k_M_command 2 := ⟨rb_inG 1508 (by decide +kernel) rfl, rb_inG 94 (by decide +kernel) rfl, ⟨by decide, by decide, by decide +kernel⟩, by decide⟩
theorem fp_M_command_277 : rb_Fp k_M_command 277 13 33 .int := ⟨fw_M_277, rfl, fun q h => by cases h; exact Or.inl rfl⟩
theorem fp_M_command_283 : rb_Fp k_M_command 283 13 38 .int := ⟨fw_M_283, rfl, fun q h => by cases h; exact Or.inl rfl⟩
theorem fw_M_307 : rb_Fw "RuleBuilderModel" 307 13 41 := ⟨_, rfl, by decide, by decide, by decide, rfl, rb_inG 1261 (by decide +kernel) rfl⟩
theorem fw_M_310 : rb_Fw "RuleBuilderModel" 310 13 42 := ⟨_, rfl, by decide, by decide, by decide, rfl, rb_inG 1262 (by decide +kernel) rfl⟩
theorem d_M_command_0 : decode prog_14_method_34_code 0 = .ok (.aload_n 0, 1) := by decide +kernel
theorem d_M_command_1 : decode prog_14_method_34_code 1 = .ok (.getfield 289, 3) := by decide +kernel
theorem d_M_command_4 : decode prog_14_method_34_code 4 = .ok (.iconst 2, 1) := by decide +kernel
theorem d_M_command_5 : decode prog_14_method_34_code 5 = .ok (.if_icmp .lt 12, 3) := by decide +kernel
theorem d_M_command_8 : decode prog_14_method_34_code 8 = .ok (.aload_n 0, 1) := by decide +kernel
theorem d_M_command_9 : decode prog_14_method_34_code 9 = .ok (.getfield 277, 3) := by decide +kernel
theorem d_M_command_12 : decode prog_14_method_34_code 12 = .ok (.bipush 30, 2) := by decide +kernel
theorem d_M_command_14 : decode prog_14_method_34_code 14 = .ok (.if_icmp .ne 5, 3) := by decide +kernel
theorem d_M_command_17 : decode prog_14_method_34_code 17 = .ok (.iconst 0, 1) := by decide +kernel
theorem d_M_command_18 : decode prog_14_method_34_code 18 = .ok (.ireturn, 1) := by decide +kernel
theorem d_M_command_19 : decode prog_14_method_34_code 19 = .ok (.aload_n 0, 1) := by decide +kernel
theorem d_M_command_20 : decode prog_14_method_34_code 20 = .ok (.getfield 289, 3) := by decide +kernel
theorem d_M_command_23 : decode prog_14_method_34_code 23 = .ok (.iconst 2, 1) := by decide +kernel
theorem d_M_command_24 : decode prog_14_method_34_code 24 = .ok (.if_icmp .ne 25, 3) := by decide +kernel
theorem d_M_command_27 : decode prog_14_method_34_code 27 = .ok (.aload_n 0, 1) := by decide +kernel
theorem d_M_command_28 : decode prog_14_method_34_code 28 = .ok (.getfield 283, 3) := by decide +kernel
theorem d_M_command_31 : decode prog_14_method_34_code 31 = .ok (.ifCond .lt 18, 3) := by decide +kernel
theorem d_M_command_34 : decode prog_14_method_34_code 34 = .ok (.aload_n 0, 1) := by decide +kernel
theorem d_M_command_35 : decode prog_14_method_34_code 35 = .ok (.getfield 283, 3) := by decide +kernel
theorem d_M_command_38 : decode prog_14_method_34_code 38 = .ok (.aload_n 0, 1) := by decide +kernel
theorem d_M_command_39 : decode prog_14_method_34_code 39 = .ok (.getfield 286, 3) := by decide +kernel
theorem d_M_command_42 : decode prog_14_method_34_code 42 = .ok (.if_icmp .eq 7, 3) := by decide +kernel
theorem d_M_command_45 : decode prog_14_method_34_code 45 = .ok (.iconst 1, 1) := by decide +kernel
theorem d_M_command_46 : decode prog_14_method_34_code 46 = .ok (.goto 4, 3) := by decide +kernel
theorem d_M_command_49 : decode prog_14_method_34_code 49 = .ok (.iconst 0, 1) := by decide +kernel
theorem d_M_command_50 : decode prog_14_method_34_code 50 = .ok (.istore_n 3, 1) := by decide +kernel
theorem d_M_command_51 : decode prog_14_method_34_code 51 = .ok (.iconst 0, 1) := by decide +kernel
theorem d_M_command_52 : decode prog_14_method_34_code 52 = .ok (.istore 4, 2) := by decide +kernel
theorem d_M_command_54 : decode prog_14_method_34_code 54 = .ok (.iload 4, 2) := by decide +kernel
theorem d_M_command_56 : decode prog_14_method_34_code 56 = .ok (.aload_n 0, 1) := by decide +kernel
theorem d_M_command_57 : decode prog_14_method_34_code 57 = .ok (.getfield 173, 3) := by decide +kernel
theorem d_M_command_60 : decode prog_14_method_34_code 60 = .ok (.if_icmp .ge 64, 3) := by decide +kernel
theorem d_M_command_63 : decode prog_14_method_34_code 63 = .ok (.aload_n 0, 1) := by decide +kernel
theorem d_M_command_64 : decode prog_14_method_34_code 64 = .ok (.getfield 289, 3) := by decide +kernel
theorem d_M_command_67 : decode prog_14_method_34_code 67 = .ok (.iconst 4, 1) := by decide +kernel
theorem d_M_command_68 : decode prog_14_method_34_code 68 = .ok (.if_icmp .ne 56, 3) := by decide +kernel
theorem d_M_command_71 : decode prog_14_method_34_code 71 = .ok (.iload_n 3, 1) := by decide +kernel
theorem d_M_command_72 : decode prog_14_method_34_code 72 = .ok (.ifCond .ne 40, 3) := by decide +kernel
theorem d_M_command_75 : decode prog_14_method_34_code 75 = .ok (.aload_n 0, 1) := by decide +kernel
theorem d_M_command_76 : decode prog_14_method_34_code 76 = .ok (.getfield 307, 3) := by decide +kernel
theorem d_M_command_79 : decode prog_14_method_34_code 79 = .ok (.iload 4, 2) := by decide +kernel
theorem d_M_command_81 : decode prog_14_method_34_code 81 = .ok (.ishr, 1) := by decide +kernel
theorem d_M_command_82 : decode prog_14_method_34_code 82 = .ok (.iconst 1, 1) := by decide +kernel
theorem d_M_command_83 : decode prog_14_method_34_code 83 = .ok (.iand, 1) := by decide +kernel
theorem d_M_command_84 : decode prog_14_method_34_code 84 = .ok (.iconst 1, 1) := by decide +kernel
theorem d_M_command_85 : decode prog_14_method_34_code 85 = .ok (.if_icmp .ne 31, 3) := by decide +kernel
theorem d_M_command_88 : decode prog_14_method_34_code 88 = .ok (.aload_n 0, 1) := by decide +kernel
theorem d_M_command_89 : decode prog_14_method_34_code 89 = .ok (.getfield 66, 3) := by decide +kernel
theorem d_M_command_92 : decode prog_14_method_34_code 92 = .ok (.iload 4, 2) := by decide +kernel
theorem d_M_command_94 : decode prog_14_method_34_code 94 = .ok (.iaload, 1) := by decide +kernel
theorem d_M_command_95 : decode prog_14_method_34_code 95 = .ok (.ifCond .lt 21, 3) := by decide +kernel
theorem d_M_command_98 : decode prog_14_method_34_code 98 = .ok (.aload_n 0, 1) := by decide +kernel
theorem d_M_command_99 : decode prog_14_method_34_code 99 = .ok (.getfield 66, 3) := by decide +kernel
theorem d_M_command_102 : decode prog_14_method_34_code 102 = .ok (.iload 4, 2) := by decide +kernel
theorem d_M_command_104 : decode prog_14_method_34_code 104 = .ok (.iaload, 1) := by decide +kernel
theorem d_M_command_105 : decode prog_14_method_34_code 105 = .ok (.aload_n 0, 1) := by decide +kernel
theorem d_M_command_106 : decode prog_14_method_34_code 106 = .ok (.getfield 286, 3) := by decide +kernel
theorem d_M_command_109 : decode prog_14_method_34_code 109 = .ok (.if_icmp .eq 7, 3) := by decide +kernel
theorem d_M_command_112 : decode prog_14_method_34_code 112 = .ok (.iconst 1, 1) := by decide +kernel
theorem d_M_command_113 : decode prog_14_method_34_code 113 = .ok (.goto 4, 3) := by decide +kernel
theorem d_M_command_116 : decode prog_14_method_34_code 116 = .ok (.iconst 0, 1) := by decide +kernel
theorem d_M_command_117 : decode prog_14_method_34_code 117 = .ok (.istore_n 3, 1) := by decide +kernel
theorem d_M_command_118 : decode prog_14_method_34_code 118 = .ok (.iinc 4 1, 3) := by decide +kernel
theorem d_M_command_121 : decode prog_14_method_34_code 121 = .ok (.goto (-67), 3) := by decide +kernel
theorem d_M_command_124 : decode prog_14_method_34_code 124 = .ok (.iload_n 3, 1) := by decide +kernel
theorem d_M_command_125 : decode prog_14_method_34_code 125 = .ok (.ifCond .eq 5, 3) := by decide +kernel
theorem d_M_command_128 : decode prog_14_method_34_code 128 = .ok (.iconst 0, 1) := by decide +kernel
theorem d_M_command_129 : decode prog_14_method_34_code 129 = .ok (.ireturn, 1) := by decide +kernel
theorem d_M_command_130 : decode prog_14_method_34_code 130 = .ok (.aload_n 0, 1) := by decide +kernel
theorem d_M_command_131 : decode prog_14_method_34_code 131 = .ok (.getfield 289, 3) := by decide +kernel
theorem d_M_command_134 : decode prog_14_method_34_code 134 = .ok (.iconst 2, 1) := by decide +kernel
theorem d_M_command_135 : decode prog_14_method_34_code 135 = .ok (.if_icmp .ne 14, 3) := by decide +kernel
theorem d_M_command_138 : decode prog_14_method_34_code 138 = .ok (.aload_n 0, 1) := by decide +kernel
theorem d_M_command_139 : decode prog_14_method_34_code 139 = .ok (.aload_n 0, 1) := by decide +kernel
theorem d_M_command_140 : decode prog_14_method_34_code 140 = .ok (.getfield 286, 3) := by decide +kernel
theorem d_M_command_143 : decode prog_14_method_34_code 143 = .ok (.putfield 283, 3) := by decide +kernel
theorem d_M_command_146 : decode prog_14_method_34_code 146 = .ok (.goto 24, 3) := by decide +kernel
theorem d_M_command_149 : decode prog_14_method_34_code 149 = .ok (.aload_n 0, 1) := by decide +kernel
theorem d_M_command_150 : decode prog_14_method_34_code 150 = .ok (.getfield 289, 3) := by decide +kernel
theorem d_M_command_153 : decode prog_14_method_34_code 153 = .ok (.iconst 3, 1) := by decide +kernel
theorem d_M_command_154 : decode prog_14_method_34_code 154 = .ok (.if_icmp .ne 16, 3) := by decide +kernel
theorem d_M_command_157 : decode prog_14_method_34_code 157 = .ok (.aload_n 0, 1) := by decide +kernel
theorem d_M_command_158 : decode prog_14_method_34_code 158 = .ok (.getfield 90, 3) := by decide +kernel
theorem d_M_command_161 : decode prog_14_method_34_code 161 = .ok (.aload_n 0, 1) := by decide +kernel
theorem d_M_command_162 : decode prog_14_method_34_code 162 = .ok (.getfield 310, 3) := by decide +kernel
theorem d_M_command_165 : decode prog_14_method_34_code 165 = .ok (.aload_n 0, 1) := by decide +kernel
theorem d_M_command_166 : decode prog_14_method_34_code 166 = .ok (.getfield 286, 3) := by decide +kernel
theorem d_M_command_169 : decode prog_14_method_34_code 169 = .ok (.iastore, 1) := by decide +kernel
theorem d_M_command_170 : decode prog_14_method_34_code 170 = .ok (.iconst 0, 1) := by decide +kernel
theorem d_M_command_171 : decode prog_14_method_34_code 171 = .ok (.istore 4, 2) := by decide +kernel
theorem d_M_command_173 : decode prog_14_method_34_code 173 = .ok (.iload 4, 2) := by decide +kernel
theorem d_M_command_175 : decode prog_14_method_34_code 175 = .ok (.aload_n 0, 1) := by decide +kernel
theorem d_M_command_176 : decode prog_14_method_34_code 176 = .ok (.getfield 173, 3) := by decide +kernel
theorem d_M_command_179 : decode prog_14_method_34_code 179 = .ok (.if_icmp .ge 51, 3) := by decide +kernel
theorem d_M_command_182 : decode prog_14_method_34_code 182 = .ok (.aload_n 0, 1) := by decide +kernel
theorem d_M_command_183 : decode prog_14_method_34_code 183 = .ok (.getfield 289, 3) := by decide +kernel
theorem d_M_command_186 : decode prog_14_method_34_code 186 = .ok (.iconst 4, 1) := by decide +kernel
theorem d_M_command_187 : decode prog_14_method_34_code 187 = .ok (.if_icmp .ne 43, 3) := by decide +kernel
theorem d_M_command_190 : decode prog_14_method_34_code 190 = .ok (.aload_n 0, 1) := by decide +kernel
theorem d_M_command_191 : decode prog_14_method_34_code 191 = .ok (.getfield 66, 3) := by decide +kernel
theorem d_M_command_194 : decode prog_14_method_34_code 194 = .ok (.iload 4, 2) := by decide +kernel
theorem d_M_command_196 : decode prog_14_method_34_code 196 = .ok (.aload_n 0, 1) := by decide +kernel
theorem d_M_command_197 : decode prog_14_method_34_code 197 = .ok (.getfield 307, 3) := by decide +kernel
theorem d_M_command_200 : decode prog_14_method_34_code 200 = .ok (.iload 4, 2) := by decide +kernel
theorem d_M_command_202 : decode prog_14_method_34_code 202 = .ok (.ishr, 1) := by decide +kernel
theorem d_M_command_203 : decode prog_14_method_34_code 203 = .ok (.iconst 1, 1) := by decide +kernel
theorem d_M_command_204 : decode prog_14_method_34_code 204 = .ok (.iand, 1) := by decide +kernel
theorem d_M_command_205 : decode prog_14_method_34_code 205 = .ok (.iconst 1, 1) := by decide +kernel
theorem d_M_command_206 : decode prog_14_method_34_code 206 = .ok (.if_icmp .ne 10, 3) := by decide +kernel
theorem d_M_command_209 : decode prog_14_method_34_code 209 = .ok (.aload_n 0, 1) := by decide +kernel
theorem d_M_command_210 : decode prog_14_method_34_code 210 = .ok (.getfield 286, 3) := by decide +kernel
theorem d_M_command_213 : decode prog_14_method_34_code 213 = .ok (.goto 10, 3) := by decide +kernel
theorem d_M_command_216 : decode prog_14_method_34_code 216 = .ok (.aload_n 0, 1) := by decide +kernel
theorem d_M_command_217 : decode prog_14_method_34_code 217 = .ok (.getfield 66, 3) := by decide +kernel
theorem d_M_command_220 : decode prog_14_method_34_code 220 = .ok (.iload 4, 2) := by decide +kernel
theorem d_M_command_222 : decode prog_14_method_34_code 222 = .ok (.iaload, 1) := by decide +kernel
theorem d_M_command_223 : decode prog_14_method_34_code 223 = .ok (.iastore, 1) := by decide +kernel
theorem d_M_command_224 : decode prog_14_method_34_code 224 = .ok (.iinc 4 1, 3) := by decide +kernel
theorem d_M_command_227 : decode prog_14_method_34_code 227 = .ok (.goto (-54), 3) := by decide +kernel
theorem d_M_command_230 : decode prog_14_method_34_code 230 = .ok (.aload_n 0, 1) := by decide +kernel
theorem d_M_command_231 : decode prog_14_method_34_code 231 = .ok (.getfield 75, 3) := by decide +kernel
theorem d_M_command_234 : decode prog_14_method_34_code 234 = .ok (.aload_n 0, 1) := by decide +kernel
theorem d_M_command_235 : decode prog_14_method_34_code 235 = .ok (.getfield 277, 3) := by decide +kernel
theorem d_M_command_238 : decode prog_14_method_34_code 238 = .ok (.iload_n 1, 1) := by decide +kernel
theorem d_M_command_239 : decode prog_14_method_34_code 239 = .ok (.iastore, 1) := by decide +kernel
theorem d_M_command_240 : decode prog_14_method_34_code 240 = .ok (.aload_n 0, 1) := by decide +kernel
theorem d_M_command_241 : decode prog_14_method_34_code 241 = .ok (.getfield 78, 3) := by decide +kernel
theorem d_M_command_244 : decode prog_14_method_34_code 244 = .ok (.aload_n 0, 1) := by decide +kernel
theorem d_M_command_245 : decode prog_14_method_34_code 245 = .ok (.getfield 277, 3) := by decide +kernel
theorem d_M_command_248 : decode prog_14_method_34_code 248 = .ok (.iload_n 2, 1) := by decide +kernel
theorem d_M_command_249 : decode prog_14_method_34_code 249 = .ok (.iastore, 1) := by decide +kernel
theorem d_M_command_250 : decode prog_14_method_34_code 250 = .ok (.aload_n 0, 1) := by decide +kernel
theorem d_M_command_251 : decode prog_14_method_34_code 251 = .ok (.getfield 81, 3) := by decide +kernel
theorem d_M_command_254 : decode prog_14_method_34_code 254 = .ok (.aload_n 0, 1) := by decide +kernel
theorem d_M_command_255 : decode prog_14_method_34_code 255 = .ok (.getfield 277, 3) := by decide +kernel
theorem d_M_command_258 : decode prog_14_method_34_code 258 = .ok (.aload_n 0, 1) := by decide +kernel
theorem d_M_command_259 : decode prog_14_method_34_code 259 = .ok (.getfield 286, 3) := by decide +kernel
theorem d_M_command_262 : decode prog_14_method_34_code 262 = .ok (.iastore, 1) := by decide +kernel
theorem d_M_command_263 : decode prog_14_method_34_code 263 = .ok (.aload_n 0, 1) := by decide +kernel
theorem d_M_command_264 : decode prog_14_method_34_code 264 = .ok (.dup, 1) := by decide +kernel
theorem d_M_command_265 : decode prog_14_method_34_code 265 = .ok (.getfield 277, 3) := by decide +kernel
theorem d_M_command_268 : decode prog_14_method_34_code 268 = .ok (.iconst 1, 1) := by decide +kernel
theorem d_M_command_269 : decode prog_14_method_34_code 269 = .ok (.iadd, 1) := by decide +kernel
theorem d_M_command_270 : decode prog_14_method_34_code 270 = .ok (.putfield 277, 3) := by decide +kernel
theorem d_M_command_273 : decode prog_14_method_34_code 273 = .ok (.iconst 1, 1) := by decide +kernel
theorem d_M_command_274 : decode prog_14_method_34_code 274 = .ok (.ireturn, 1) := by decide +kernel
noncomputable def f_M_command_j230 (r0 : Option Nat) (x1 : Int32) (x2 : Int32) (σ : rb_St) : Option rb_Rs :=
  (rb_gR σ r0 13 30).bind fun r_10 => (rb_gI σ r0 13 33).bind fun x_11 => (rb_sI σ r_10 102 x_11 x1).bind fun σ_12 => (rb_gR σ_12 r0 13 31).bind fun r_13 => (rb_gI σ_12 r0 13 33).bind fun x_14 => (rb_sI σ_12 r_13 102 x_14 x2).bind fun σ_15 => (rb_gR σ_15 r0 13 32).bind fun r_16 => (rb_gI σ_15 r0 13 33).bind fun x_17 => (rb_gI σ_15 r0 13 39).bind fun x_18 => (rb_sI σ_15 r_16 102 x_17 x_18).bind fun σ_19 => (rb_gI σ_19 r0 13 33).bind fun x_20 => (rb_pI σ_19 r0 13 33 (x_20 + (1 : Int32))).bind fun σ_21 => some (some (.int (1 : Int32)), σ_21)
theorem t_M_command_j230 {E : rb_EV} {d : Nat} {σ0 : rb_St} {res : rb_Rs} (hdd : 0 ≤ d)  (r0 : Option Nat) (x1 : Int32) (x2 : Int32) (σ : rb_St) : rb_TC (f_M_command_j230 r0 x1 x2 σ) (fun r => r = res) (rb_WK E k_M_command d σ0 res 230 [some (va_rf r0), some (.int x1), some (.int x2), none, none] [] σ) := by
  unfold f_M_command_j230
  refine rb_TC.mono (rk_aload_n 0 d_M_command_230 rfl rfl) ?_
  refine rt_gR r0 fw_M_75 d_M_command_231 (fun r_10 => ?_)
  refine rb_TC.mono (rk_aload_n 0 d_M_command_234 rfl rfl) ?_
  refine rt_gI r0 fw_M_277 d_M_command_235 (fun x_11 => ?_)
  refine rb_TC.mono (rk_iload_n 1 d_M_command_238 rfl rfl) ?_
  refine rt_iast r_10 d_M_command_239 (fun σ_12 => ?_)
  refine rb_TC.mono (rk_aload_n 0 d_M_command_240 rfl rfl) ?_
  refine rt_gR r0 fw_M_78 d_M_command_241 (fun r_13 => ?_)
  refine rb_TC.mono (rk_aload_n 0 d_M_command_244 rfl rfl) ?_
  refine rt_gI r0 fw_M_277 d_M_command_245 (fun x_14 => ?_)
  refine rb_TC.mono (rk_iload_n 2 d_M_command_248 rfl rfl) ?_
  refine rt_iast r_13 d_M_command_249 (fun σ_15 => ?_)
  refine rb_TC.mono (rk_aload_n 0 d_M_command_250 rfl rfl) ?_
  refine rt_gR r0 fw_M_81 d_M_command_251 (fun r_16 => ?_)
  refine rb_TC.mono (rk_aload_n 0 d_M_command_254 rfl rfl) ?_
  refine rt_gI r0 fw_M_277 d_M_command_255 (fun x_17 => ?_)
  refine rb_TC.mono (rk_aload_n 0 d_M_command_258 rfl rfl) ?_
  refine rt_gI r0 fw_M_286 d_M_command_259 (fun x_18 => ?_)
  refine rt_iast r_16 d_M_command_262 (fun σ_19 => ?_)
  refine rb_TC.mono (rk_aload_n 0 d_M_command_263 rfl rfl) ?_
  refine rb_TC.mono (rk_dupr d_M_command_264) ?_
  refine rt_gI r0 fw_M_277 d_M_command_265 (fun x_20 => ?_)
  refine rb_TC.mono (rk_iconst (1 : Int32) d_M_command_268 (by decide)) ?_
  refine rb_TC.mono (rk_iadd d_M_command_269) ?_
  refine rt_pI r0 fp_M_command_277 d_M_command_270 (fun σ_21 => ?_)
  refine rb_TC.mono (rk_iconst (1 : Int32) d_M_command_273 (by decide)) ?_
  exact rt_iret (ty := .boolean) rfl (by decide) (fun h => h) d_M_command_274
noncomputable def f_M_command_b173 (r0 : Option Nat) (x1 : Int32) (x2 : Int32) (x4 : Int32) (σ : rb_St) : Option ((Int32 × rb_St) ⊕ rb_Rs) :=
  (rb_gI σ r0 13 2).bind fun x_9 => if x_9 ≤ x4 then ((f_M_command_j230 (r0) (x1) (x2) σ).map Sum.inr) else ((rb_gI σ r0 13 40).bind fun x_22 => if x_22 = (4 : Int32) then ((rb_gR σ r0 13 25).bind fun r_23 => (rb_gI σ r0 13 41).bind fun x_24 => if ((x_24 >>> (x4 &&& 31)) &&& (1 : Int32)) = (1 : Int32) then ((rb_gI σ r0 13 39).bind fun x_25 => (rb_sI σ r_23 102 x4 x_25).bind fun σ_26 => some (.inl ((x4 + 1), σ_26))) else ((rb_gR σ r0 13 25).bind fun r_27 => (rb_aI σ r_27 102 x4).bind fun x_28 => (rb_sI σ r_23 102 x4 x_28).bind fun σ_29 => some (.inl ((x4 + 1), σ_29)))) else ((f_M_command_j230 (r0) (x1) (x2) σ).map Sum.inr))
theorem t_M_command_b173 {E : rb_EV} {d : Nat} {σ0 : rb_St} {res : rb_Rs} (hdd : 0 ≤ d)  (r0 : Option Nat) (x1 : Int32) (x2 : Int32) (x4 : Int32) (σ : rb_St) : rb_TC (f_M_command_b173 r0 x1 x2 x4 σ) (Sum.elim (fun z : (Int32 × rb_St) => rb_WK E k_M_command d σ0 res 173 [some (va_rf r0), some (.int x1), some (.int x2), none, some (.int z.1)] [] z.2) (fun r => r = res)) (rb_WK E k_M_command d σ0 res 173 [some (va_rf r0), some (.int x1), some (.int x2), none, some (.int x4)] [] σ) := by
  unfold f_M_command_b173
  refine rb_TC.mono (rk_iload d_M_command_173 rfl) ?_
  refine rb_TC.mono (rk_aload_n 0 d_M_command_175 rfl rfl) ?_
  refine rt_gI r0 fw_M_173 d_M_command_176 (fun x_9 => ?_)
  refine rt_icmp_ge 230 d_M_command_179 (by decide) (fun _ => ?_) (fun _ => ?_)
  · refine rb_TC.out ?_
    refine rb_TC.mono (rk_less (lv2 := [some (va_rf r0), some (.int x1), some (.int x2), none, none]) (rb_le_ok (rb_leS (rb_leS (rb_leS (rb_leN (rb_leN rb_le0))))))) ?_
    exact t_M_command_j230 hdd  (r0) (x1) (x2) σ
  · refine rb_TC.mono (rk_aload_n 0 d_M_command_182 rfl rfl) ?_
    refine rt_gI r0 fw_M_289 d_M_command_183 (fun x_22 => ?_)
    refine rb_TC.mono (rk_iconst (4 : Int32) d_M_command_186 (by decide)) ?_
    refine rt_icmp_ne 230 d_M_command_187 (by decide) (fun _ => ?_) (fun _ => ?_)
    · refine rb_TC.mono (rk_aload_n 0 d_M_command_190 rfl rfl) ?_
      refine rt_gR r0 fw_M_66 d_M_command_191 (fun r_23 => ?_)
      refine rb_TC.mono (rk_iload d_M_command_194 rfl) ?_
      refine rb_TC.mono (rk_aload_n 0 d_M_command_196 rfl rfl) ?_
      refine rt_gI r0 fw_M_307 d_M_command_197 (fun x_24 => ?_)
      refine rb_TC.mono (rk_iload d_M_command_200 rfl) ?_
      refine rb_TC.mono (rk_ishr d_M_command_202) ?_
      refine rb_TC.mono (rk_iconst (1 : Int32) d_M_command_203 (by decide)) ?_
      refine rb_TC.mono (rk_iand d_M_command_204) ?_
      refine rb_TC.mono (rk_iconst (1 : Int32) d_M_command_205 (by decide)) ?_
      refine rt_icmp_ne 216 d_M_command_206 (by decide) (fun _ => ?_) (fun _ => ?_)
      · refine rb_TC.mono (rk_aload_n 0 d_M_command_209 rfl rfl) ?_
        refine rt_gI r0 fw_M_286 d_M_command_210 (fun x_25 => ?_)
        refine rb_TC.mono (rk_goto 223 d_M_command_213 (by decide)) ?_
        refine rt_iast r_23 d_M_command_223 (fun σ_26 => ?_)
        refine rb_TC.mono (rk_iinc (lv2 := [some (va_rf r0), some (.int x1), some (.int x2), none, some (.int (x4 + 1))]) (x4 + 1) d_M_command_224 rfl rfl (by decide) (fun _ => rb_one_n) rfl) ?_
        refine rb_TC.mono (rk_goto 173 d_M_command_227 (by decide)) ?_
        exact rb_back
      · refine rb_TC.mono (rk_aload_n 0 d_M_command_216 rfl rfl) ?_
        refine rt_gR r0 fw_M_66 d_M_command_217 (fun r_27 => ?_)
        refine rb_TC.mono (rk_iload d_M_command_220 rfl) ?_
        refine rt_iald r_27 d_M_command_222 (fun x_28 => ?_)
        refine rt_iast r_23 d_M_command_223 (fun σ_29 => ?_)
        refine rb_TC.mono (rk_iinc (lv2 := [some (va_rf r0), some (.int x1), some (.int x2), none, some (.int (x4 + 1))]) (x4 + 1) d_M_command_224 rfl rfl (by decide) (fun _ => rb_one_n) rfl) ?_
        refine rb_TC.mono (rk_goto 173 d_M_command_227 (by decide)) ?_
        exact rb_back
    · refine rb_TC.out ?_
      refine rb_TC.mono (rk_less (lv2 := [some (va_rf r0), some (.int x1), some (.int x2), none, none]) (rb_le_ok (rb_leS (rb_leS (rb_leS (rb_leN (rb_leN rb_le0))))))) ?_
      exact t_M_command_j230 hdd  (r0) (x1) (x2) σ
noncomputable def f_M_command_j124 (r0 : Option Nat) (x1 : Int32) (x2 : Int32) (x3 : Int32) (σ : rb_St) : Option rb_Rs :=
  if x3 = 0 then ((rb_gI σ r0 13 40).bind fun x_6 => if x_6 = (2 : Int32) then ((rb_gI σ r0 13 39).bind fun x_7 => (rb_pI σ r0 13 38 x_7).bind fun σ_8 => rb_it (fun z : (Int32 × rb_St) => f_M_command_b173 (r0) (x1) (x2) (z.1) z.2) ((0 : Int32), σ_8)) else ((rb_gI σ r0 13 40).bind fun x_30 => if x_30 = (3 : Int32) then ((rb_gR σ r0 13 36).bind fun r_31 => (rb_gI σ r0 13 42).bind fun x_32 => (rb_gI σ r0 13 39).bind fun x_33 => (rb_sI σ r_31 102 x_32 x_33).bind fun σ_34 => rb_it (fun z : (Int32 × rb_St) => f_M_command_b173 (r0) (x1) (x2) (z.1) z.2) ((0 : Int32), σ_34)) else (rb_it (fun z : (Int32 × rb_St) => f_M_command_b173 (r0) (x1) (x2) (z.1) z.2) ((0 : Int32), σ)))) else (some (some (.int (0 : Int32)), σ))
theorem t_M_command_j124 {E : rb_EV} {d : Nat} {σ0 : rb_St} {res : rb_Rs} (hdd : 0 ≤ d)  (r0 : Option Nat) (x1 : Int32) (x2 : Int32) (x3 : Int32) (σ : rb_St) : rb_TC (f_M_command_j124 r0 x1 x2 x3 σ) (fun r => r = res) (rb_WK E k_M_command d σ0 res 124 [some (va_rf r0), some (.int x1), some (.int x2), some (.int x3), none] [] σ) := by
  unfold f_M_command_j124
  refine rb_TC.mono (rk_iload_n 3 d_M_command_124 rfl rfl) ?_
  refine rt_if_eq 130 d_M_command_125 (by decide) (fun _ => ?_) (fun _ => ?_)
  · refine rb_TC.mono (rk_aload_n 0 d_M_command_130 rfl rfl) ?_
    refine rt_gI r0 fw_M_289 d_M_command_131 (fun x_6 => ?_)
    refine rb_TC.mono (rk_iconst (2 : Int32) d_M_command_134 (by decide)) ?_
    refine rt_icmp_ne 149 d_M_command_135 (by decide) (fun _ => ?_) (fun _ => ?_)
    · refine rb_TC.mono (rk_aload_n 0 d_M_command_138 rfl rfl) ?_
      refine rb_TC.mono (rk_aload_n 0 d_M_command_139 rfl rfl) ?_
      refine rt_gI r0 fw_M_286 d_M_command_140 (fun x_7 => ?_)
      refine rt_pI r0 fp_M_command_283 d_M_command_143 (fun σ_8 => ?_)
      refine rb_TC.mono (rk_goto 170 d_M_command_146 (by decide)) ?_
      refine rb_TC.mono (rk_iconst (0 : Int32) d_M_command_170 (by decide)) ?_
      refine rb_TC.mono (rk_istore (lv2 := [some (va_rf r0), some (.int x1), some (.int x2), some (.int x3), some (.int (0 : Int32))]) d_M_command_171 (by decide) (fun _ => rb_one_i) rfl) ?_
      refine rb_TC.mono (rk_less (lv2 := [some (va_rf r0), some (.int x1), some (.int x2), none, some (.int (0 : Int32))]) (rb_le_ok (rb_leS (rb_leS (rb_leS (rb_leN (rb_leS rb_le0))))))) ?_
      exact rb_TC.loop2 (A := (fun z : (Int32 × rb_St) => rb_WK E k_M_command d σ0 res 173 [some (va_rf r0), some (.int x1), some (.int x2), none, some (.int z.1)] [] z.2)) ((0 : Int32), σ_8) (fun z => t_M_command_b173 hdd  (r0) (x1) (x2) (z.1) z.2)
    · refine rb_TC.mono (rk_aload_n 0 d_M_command_149 rfl rfl) ?_
      refine rt_gI r0 fw_M_289 d_M_command_150 (fun x_30 => ?_)
      refine rb_TC.mono (rk_iconst (3 : Int32) d_M_command_153 (by decide)) ?_
      refine rt_icmp_ne 170 d_M_command_154 (by decide) (fun _ => ?_) (fun _ => ?_)
      · refine rb_TC.mono (rk_aload_n 0 d_M_command_157 rfl rfl) ?_
        refine rt_gR r0 fw_M_90 d_M_command_158 (fun r_31 => ?_)
        refine rb_TC.mono (rk_aload_n 0 d_M_command_161 rfl rfl) ?_
        refine rt_gI r0 fw_M_310 d_M_command_162 (fun x_32 => ?_)
        refine rb_TC.mono (rk_aload_n 0 d_M_command_165 rfl rfl) ?_
        refine rt_gI r0 fw_M_286 d_M_command_166 (fun x_33 => ?_)
        refine rt_iast r_31 d_M_command_169 (fun σ_34 => ?_)
        refine rb_TC.mono (rk_iconst (0 : Int32) d_M_command_170 (by decide)) ?_
        refine rb_TC.mono (rk_istore (lv2 := [some (va_rf r0), some (.int x1), some (.int x2), some (.int x3), some (.int (0 : Int32))]) d_M_command_171 (by decide) (fun _ => rb_one_i) rfl) ?_
        refine rb_TC.mono (rk_less (lv2 := [some (va_rf r0), some (.int x1), some (.int x2), none, some (.int (0 : Int32))]) (rb_le_ok (rb_leS (rb_leS (rb_leS (rb_leN (rb_leS rb_le0))))))) ?_
        exact rb_TC.loop2 (A := (fun z : (Int32 × rb_St) => rb_WK E k_M_command d σ0 res 173 [some (va_rf r0), some (.int x1), some (.int x2), none, some (.int z.1)] [] z.2)) ((0 : Int32), σ_34) (fun z => t_M_command_b173 hdd  (r0) (x1) (x2) (z.1) z.2)
      · refine rb_TC.mono (rk_iconst (0 : Int32) d_M_command_170 (by decide)) ?_
        refine rb_TC.mono (rk_istore (lv2 := [some (va_rf r0), some (.int x1), some (.int x2), some (.int x3), some (.int (0 : Int32))]) d_M_command_171 (by decide) (fun _ => rb_one_i) rfl) ?_
        refine rb_TC.mono (rk_less (lv2 := [some (va_rf r0), some (.int x1), some (.int x2), none, some (.int (0 : Int32))]) (rb_le_ok (rb_leS (rb_leS (rb_leS (rb_leN (rb_leS rb_le0))))))) ?_
        exact rb_TC.loop2 (A := (fun z : (Int32 × rb_St) => rb_WK E k_M_command d σ0 res 173 [some (va_rf r0), some (.int x1), some (.int x2), none, some (.int z.1)] [] z.2)) ((0 : Int32), σ) (fun z => t_M_command_b173 hdd  (r0) (x1) (x2) (z.1) z.2)
  · refine rb_TC.mono (rk_iconst (0 : Int32) d_M_command_128 (by decide)) ?_
    exact rt_iret (ty := .boolean) rfl (by decide) (fun h => h) d_M_command_129
noncomputable def f_M_command_b54 (r0 : Option Nat) (x1 : Int32) (x2 : Int32) (x3 : Int32) (x4 : Int32) (σ : rb_St) : Option ((Int32 × Int32) ⊕ rb_Rs) :=
  (rb_gI σ r0 13 2).bind fun x_5 => if x_5 ≤ x4 then ((f_M_command_j124 (r0) (x1) (x2) (x3) σ).map Sum.inr) else ((rb_gI σ r0 13 40).bind fun x_35 => if x_35 = (4 : Int32) then (if x3 = 0 then ((rb_gI σ r0 13 41).bind fun x_36 => if ((x_36 >>> (x4 &&& 31)) &&& (1 : Int32)) = (1 : Int32) then ((rb_gR σ r0 13 25).bind fun r_37 => (rb_aI σ r_37 102 x4).bind fun x_38 => if x_38 < 0 then (some (.inl ((0 : Int32), (x4 + 1)))) else ((rb_gR σ r0 13 25).bind fun r_39 => (rb_aI σ r_39 102 x4).bind fun x_40 => (rb_gI σ r0 13 39).bind fun x_41 => if x_40 = x_41 then (some (.inl ((0 : Int32), (x4 + 1)))) else (some (.inl ((1 : Int32), (x4 + 1)))))) else (some (.inl ((0 : Int32), (x4 + 1))))) else (some (.inl ((1 : Int32), (x4 + 1))))) else ((f_M_command_j124 (r0) (x1) (x2) (x3) σ).map Sum.inr))
theorem t_M_command_b54 {E : rb_EV} {d : Nat} {σ0 : rb_St} {res : rb_Rs} (hdd : 0 ≤ d)  (r0 : Option Nat) (x1 : Int32) (x2 : Int32) (x3 : Int32) (x4 : Int32) (σ : rb_St) : rb_TC (f_M_command_b54 r0 x1 x2 x3 x4 σ) (Sum.elim (fun z : (Int32 × Int32) => rb_WK E k_M_command d σ0 res 54 [some (va_rf r0), some (.int x1), some (.int x2), some (.int z.1), some (.int z.2)] [] σ) (fun r => r = res)) (rb_WK E k_M_command d σ0 res 54 [some (va_rf r0), some (.int x1), some (.int x2), some (.int x3), some (.int x4)] [] σ) := by
  unfold f_M_command_b54
  refine rb_TC.mono (rk_iload d_M_command_54 rfl) ?_
  refine rb_TC.mono (rk_aload_n 0 d_M_command_56 rfl rfl) ?_
  refine rt_gI r0 fw_M_173 d_M_command_57 (fun x_5 => ?_)
  refine rt_icmp_ge 124 d_M_command_60 (by decide) (fun _ => ?_) (fun _ => ?_)
  · refine rb_TC.out ?_
    refine rb_TC.mono (rk_less (lv2 := [some (va_rf r0), some (.int x1), some (.int x2), some (.int x3), none]) (rb_le_ok (rb_leS (rb_leS (rb_leS (rb_leS (rb_leN rb_le0))))))) ?_
    exact t_M_command_j124 hdd  (r0) (x1) (x2) (x3) σ
  · refine rb_TC.mono (rk_aload_n 0 d_M_command_63 rfl rfl) ?_
    refine rt_gI r0 fw_M_289 d_M_command_64 (fun x_35 => ?_)
    refine rb_TC.mono (rk_iconst (4 : Int32) d_M_command_67 (by decide)) ?_
    refine rt_icmp_ne 124 d_M_command_68 (by decide) (fun _ => ?_) (fun _ => ?_)
    · refine rb_TC.mono (rk_iload_n 3 d_M_command_71 rfl rfl) ?_
      refine rt_if_ne 112 d_M_command_72 (by decide) (fun _ => ?_) (fun _ => ?_)
      · refine rb_TC.mono (rk_aload_n 0 d_M_command_75 rfl rfl) ?_
        refine rt_gI r0 fw_M_307 d_M_command_76 (fun x_36 => ?_)
        refine rb_TC.mono (rk_iload d_M_command_79 rfl) ?_
        refine rb_TC.mono (rk_ishr d_M_command_81) ?_
        refine rb_TC.mono (rk_iconst (1 : Int32) d_M_command_82 (by decide)) ?_
        refine rb_TC.mono (rk_iand d_M_command_83) ?_
        refine rb_TC.mono (rk_iconst (1 : Int32) d_M_command_84 (by decide)) ?_
        refine rt_icmp_ne 116 d_M_command_85 (by decide) (fun _ => ?_) (fun _ => ?_)
        · refine rb_TC.mono (rk_aload_n 0 d_M_command_88 rfl rfl) ?_
          refine rt_gR r0 fw_M_66 d_M_command_89 (fun r_37 => ?_)
          refine rb_TC.mono (rk_iload d_M_command_92 rfl) ?_
          refine rt_iald r_37 d_M_command_94 (fun x_38 => ?_)
          refine rt_if_lt 116 d_M_command_95 (by decide) (fun _ => ?_) (fun _ => ?_)
          · refine rb_TC.mono (rk_iconst (0 : Int32) d_M_command_116 (by decide)) ?_
            refine rb_TC.mono (rk_istore_n (lv2 := [some (va_rf r0), some (.int x1), some (.int x2), some (.int (0 : Int32)), some (.int x4)]) 3 d_M_command_117 rfl (by decide) (fun _ => rb_one_i) rfl) ?_
            refine rb_TC.mono (rk_iinc (lv2 := [some (va_rf r0), some (.int x1), some (.int x2), some (.int (0 : Int32)), some (.int (x4 + 1))]) (x4 + 1) d_M_command_118 rfl rfl (by decide) (fun _ => rb_one_i) rfl) ?_
            refine rb_TC.mono (rk_goto 54 d_M_command_121 (by decide)) ?_
            exact rb_back
          · refine rb_TC.mono (rk_aload_n 0 d_M_command_98 rfl rfl) ?_
            refine rt_gR r0 fw_M_66 d_M_command_99 (fun r_39 => ?_)
            refine rb_TC.mono (rk_iload d_M_command_102 rfl) ?_
            refine rt_iald r_39 d_M_command_104 (fun x_40 => ?_)
            refine rb_TC.mono (rk_aload_n 0 d_M_command_105 rfl rfl) ?_
            refine rt_gI r0 fw_M_286 d_M_command_106 (fun x_41 => ?_)
            refine rt_icmp_eq 116 d_M_command_109 (by decide) (fun _ => ?_) (fun _ => ?_)
            · refine rb_TC.mono (rk_iconst (0 : Int32) d_M_command_116 (by decide)) ?_
              refine rb_TC.mono (rk_istore_n (lv2 := [some (va_rf r0), some (.int x1), some (.int x2), some (.int (0 : Int32)), some (.int x4)]) 3 d_M_command_117 rfl (by decide) (fun _ => rb_one_i) rfl) ?_
              refine rb_TC.mono (rk_iinc (lv2 := [some (va_rf r0), some (.int x1), some (.int x2), some (.int (0 : Int32)), some (.int (x4 + 1))]) (x4 + 1) d_M_command_118 rfl rfl (by decide) (fun _ => rb_one_i) rfl) ?_
              refine rb_TC.mono (rk_goto 54 d_M_command_121 (by decide)) ?_
              exact rb_back
            · refine rb_TC.mono (rk_iconst (1 : Int32) d_M_command_112 (by decide)) ?_
              refine rb_TC.mono (rk_goto 117 d_M_command_113 (by decide)) ?_
              refine rb_TC.mono (rk_istore_n (lv2 := [some (va_rf r0), some (.int x1), some (.int x2), some (.int (1 : Int32)), some (.int x4)]) 3 d_M_command_117 rfl (by decide) (fun _ => rb_one_i) rfl) ?_
              refine rb_TC.mono (rk_iinc (lv2 := [some (va_rf r0), some (.int x1), some (.int x2), some (.int (1 : Int32)), some (.int (x4 + 1))]) (x4 + 1) d_M_command_118 rfl rfl (by decide) (fun _ => rb_one_i) rfl) ?_
              refine rb_TC.mono (rk_goto 54 d_M_command_121 (by decide)) ?_
              exact rb_back
        · refine rb_TC.mono (rk_iconst (0 : Int32) d_M_command_116 (by decide)) ?_
          refine rb_TC.mono (rk_istore_n (lv2 := [some (va_rf r0), some (.int x1), some (.int x2), some (.int (0 : Int32)), some (.int x4)]) 3 d_M_command_117 rfl (by decide) (fun _ => rb_one_i) rfl) ?_
          refine rb_TC.mono (rk_iinc (lv2 := [some (va_rf r0), some (.int x1), some (.int x2), some (.int (0 : Int32)), some (.int (x4 + 1))]) (x4 + 1) d_M_command_118 rfl rfl (by decide) (fun _ => rb_one_i) rfl) ?_
          refine rb_TC.mono (rk_goto 54 d_M_command_121 (by decide)) ?_
          exact rb_back
      · refine rb_TC.mono (rk_iconst (1 : Int32) d_M_command_112 (by decide)) ?_
        refine rb_TC.mono (rk_goto 117 d_M_command_113 (by decide)) ?_
        refine rb_TC.mono (rk_istore_n (lv2 := [some (va_rf r0), some (.int x1), some (.int x2), some (.int (1 : Int32)), some (.int x4)]) 3 d_M_command_117 rfl (by decide) (fun _ => rb_one_i) rfl) ?_
        refine rb_TC.mono (rk_iinc (lv2 := [some (va_rf r0), some (.int x1), some (.int x2), some (.int (1 : Int32)), some (.int (x4 + 1))]) (x4 + 1) d_M_command_118 rfl rfl (by decide) (fun _ => rb_one_i) rfl) ?_
        refine rb_TC.mono (rk_goto 54 d_M_command_121 (by decide)) ?_
        exact rb_back
    · refine rb_TC.out ?_
      refine rb_TC.mono (rk_less (lv2 := [some (va_rf r0), some (.int x1), some (.int x2), some (.int x3), none]) (rb_le_ok (rb_leS (rb_leS (rb_leS (rb_leS (rb_leN rb_le0))))))) ?_
      exact t_M_command_j124 hdd  (r0) (x1) (x2) (x3) σ
noncomputable def f_M_command (r0 : Option Nat) (x1 : Int32) (x2 : Int32) (σ : rb_St) : Option rb_Rs :=
  (rb_gI σ r0 13 40).bind fun x_1 => if x_1 < (2 : Int32) then (some (some (.int (0 : Int32)), σ)) else ((rb_gI σ r0 13 33).bind fun x_2 => if x_2 = (30 : Int32) then (some (some (.int (0 : Int32)), σ)) else ((rb_gI σ r0 13 40).bind fun x_3 => if x_3 = (2 : Int32) then ((rb_gI σ r0 13 38).bind fun x_4 => if x_4 < 0 then (rb_it (fun z : (Int32 × Int32) => f_M_command_b54 (r0) (x1) (x2) (z.1) (z.2) σ) ((0 : Int32), (0 : Int32))) else ((rb_gI σ r0 13 38).bind fun x_42 => (rb_gI σ r0 13 39).bind fun x_43 => if x_42 = x_43 then (rb_it (fun z : (Int32 × Int32) => f_M_command_b54 (r0) (x1) (x2) (z.1) (z.2) σ) ((0 : Int32), (0 : Int32))) else (rb_it (fun z : (Int32 × Int32) => f_M_command_b54 (r0) (x1) (x2) (z.1) (z.2) σ) ((1 : Int32), (0 : Int32))))) else (rb_it (fun z : (Int32 × Int32) => f_M_command_b54 (r0) (x1) (x2) (z.1) (z.2) σ) ((0 : Int32), (0 : Int32)))))
theorem s_M_command {E : rb_EV} {d : Nat} (hdd : 0 ≤ d) (r0 : Option Nat) (x1 : Int32) (x2 : Int32) (σ : rb_St) : rb_Does E k_M_command d [va_rf r0, .int x1, .int x2] σ (f_M_command r0 x1 x2 σ) := by
  refine rb_start (lv := [some (va_rf r0), some (.int x1), some (.int x2), none, none]) (by decide) (by simp [lg_sl, rb_as, lv_args, rb_cat_r, rb_cat_i, rb_cat_l, rb_nL, k_M_command]) (fun res => ?_)
  unfold f_M_command
  refine rb_TC.mono (rk_aload_n 0 d_M_command_0 rfl rfl) ?_
  refine rt_gI r0 fw_M_289 d_M_command_1 (fun x_1 => ?_)
  refine rb_TC.mono (rk_iconst (2 : Int32) d_M_command_4 (by decide)) ?_
  refine rt_icmp_lt 17 d_M_command_5 (by decide) (fun _ => ?_) (fun _ => ?_)
  · refine rb_TC.mono (rk_iconst (0 : Int32) d_M_command_17 (by decide)) ?_
    exact rt_iret (ty := .boolean) rfl (by decide) (fun h => h) d_M_command_18
  · refine rb_TC.mono (rk_aload_n 0 d_M_command_8 rfl rfl) ?_
    refine rt_gI r0 fw_M_277 d_M_command_9 (fun x_2 => ?_)
    refine rb_TC.mono (rk_bipush (30 : Int32) d_M_command_12 (by decide)) ?_
    refine rt_icmp_ne 19 d_M_command_14 (by decide) (fun _ => ?_) (fun _ => ?_)
    · refine rb_TC.mono (rk_iconst (0 : Int32) d_M_command_17 (by decide)) ?_
      exact rt_iret (ty := .boolean) rfl (by decide) (fun h => h) d_M_command_18
    · refine rb_TC.mono (rk_aload_n 0 d_M_command_19 rfl rfl) ?_
      refine rt_gI r0 fw_M_289 d_M_command_20 (fun x_3 => ?_)
      refine rb_TC.mono (rk_iconst (2 : Int32) d_M_command_23 (by decide)) ?_
      refine rt_icmp_ne 49 d_M_command_24 (by decide) (fun _ => ?_) (fun _ => ?_)
      · refine rb_TC.mono (rk_aload_n 0 d_M_command_27 rfl rfl) ?_
        refine rt_gI r0 fw_M_283 d_M_command_28 (fun x_4 => ?_)
        refine rt_if_lt 49 d_M_command_31 (by decide) (fun _ => ?_) (fun _ => ?_)
        · refine rb_TC.mono (rk_iconst (0 : Int32) d_M_command_49 (by decide)) ?_
          refine rb_TC.mono (rk_istore_n (lv2 := [some (va_rf r0), some (.int x1), some (.int x2), some (.int (0 : Int32)), none]) 3 d_M_command_50 rfl (by decide) (fun _ => rb_one_i) rfl) ?_
          refine rb_TC.mono (rk_iconst (0 : Int32) d_M_command_51 (by decide)) ?_
          refine rb_TC.mono (rk_istore (lv2 := [some (va_rf r0), some (.int x1), some (.int x2), some (.int (0 : Int32)), some (.int (0 : Int32))]) d_M_command_52 (by decide) (fun _ => rb_one_i) rfl) ?_
          exact rb_TC.loop2 (A := (fun z : (Int32 × Int32) => rb_WK E k_M_command d σ res 54 [some (va_rf r0), some (.int x1), some (.int x2), some (.int z.1), some (.int z.2)] [] σ)) ((0 : Int32), (0 : Int32)) (fun z => t_M_command_b54 hdd  (r0) (x1) (x2) (z.1) (z.2) σ)
        · refine rb_TC.mono (rk_aload_n 0 d_M_command_34 rfl rfl) ?_
          refine rt_gI r0 fw_M_283 d_M_command_35 (fun x_42 => ?_)
          refine rb_TC.mono (rk_aload_n 0 d_M_command_38 rfl rfl) ?_
          refine rt_gI r0 fw_M_286 d_M_command_39 (fun x_43 => ?_)
          refine rt_icmp_eq 49 d_M_command_42 (by decide) (fun _ => ?_) (fun _ => ?_)
          · refine rb_TC.mono (rk_iconst (0 : Int32) d_M_command_49 (by decide)) ?_
            refine rb_TC.mono (rk_istore_n (lv2 := [some (va_rf r0), some (.int x1), some (.int x2), some (.int (0 : Int32)), none]) 3 d_M_command_50 rfl (by decide) (fun _ => rb_one_i) rfl) ?_
            refine rb_TC.mono (rk_iconst (0 : Int32) d_M_command_51 (by decide)) ?_
            refine rb_TC.mono (rk_istore (lv2 := [some (va_rf r0), some (.int x1), some (.int x2), some (.int (0 : Int32)), some (.int (0 : Int32))]) d_M_command_52 (by decide) (fun _ => rb_one_i) rfl) ?_
            exact rb_TC.loop2 (A := (fun z : (Int32 × Int32) => rb_WK E k_M_command d σ res 54 [some (va_rf r0), some (.int x1), some (.int x2), some (.int z.1), some (.int z.2)] [] σ)) ((0 : Int32), (0 : Int32)) (fun z => t_M_command_b54 hdd  (r0) (x1) (x2) (z.1) (z.2) σ)
          · refine rb_TC.mono (rk_iconst (1 : Int32) d_M_command_45 (by decide)) ?_
            refine rb_TC.mono (rk_goto 50 d_M_command_46 (by decide)) ?_
            refine rb_TC.mono (rk_istore_n (lv2 := [some (va_rf r0), some (.int x1), some (.int x2), some (.int (1 : Int32)), none]) 3 d_M_command_50 rfl (by decide) (fun _ => rb_one_i) rfl) ?_
            refine rb_TC.mono (rk_iconst (0 : Int32) d_M_command_51 (by decide)) ?_
            refine rb_TC.mono (rk_istore (lv2 := [some (va_rf r0), some (.int x1), some (.int x2), some (.int (1 : Int32)), some (.int (0 : Int32))]) d_M_command_52 (by decide) (fun _ => rb_one_i) rfl) ?_
            exact rb_TC.loop2 (A := (fun z : (Int32 × Int32) => rb_WK E k_M_command d σ res 54 [some (va_rf r0), some (.int x1), some (.int x2), some (.int z.1), some (.int z.2)] [] σ)) ((1 : Int32), (0 : Int32)) (fun z => t_M_command_b54 hdd  (r0) (x1) (x2) (z.1) (z.2) σ)
      · refine rb_TC.mono (rk_iconst (0 : Int32) d_M_command_49 (by decide)) ?_
        refine rb_TC.mono (rk_istore_n (lv2 := [some (va_rf r0), some (.int x1), some (.int x2), some (.int (0 : Int32)), none]) 3 d_M_command_50 rfl (by decide) (fun _ => rb_one_i) rfl) ?_
        refine rb_TC.mono (rk_iconst (0 : Int32) d_M_command_51 (by decide)) ?_
        refine rb_TC.mono (rk_istore (lv2 := [some (va_rf r0), some (.int x1), some (.int x2), some (.int (0 : Int32)), some (.int (0 : Int32))]) d_M_command_52 (by decide) (fun _ => rb_one_i) rfl) ?_
        exact rb_TC.loop2 (A := (fun z : (Int32 × Int32) => rb_WK E k_M_command d σ res 54 [some (va_rf r0), some (.int x1), some (.int x2), some (.int z.1), some (.int z.2)] [] σ)) ((0 : Int32), (0 : Int32)) (fun z => t_M_command_b54 hdd  (r0) (x1) (x2) (z.1) (z.2) σ)
-- ===== RuleBuilderModel.endsSo(III)Z
def k_M_endsSo : rb_MK := (⟨"RuleBuilderModel", "endsSo", "(III)Z"⟩, prog_14_method_23_code, 6, some (.boolean))
theorem mw_M_endsSo : rb_Mw k_M_endsSo 3 := ⟨rb_inG 1524 (by decide +kernel) rfl, rb_inG 94 (by decide +kernel) rfl, ⟨by decide, by decide, by decide +kernel⟩, by decide⟩
theorem fw_M_209 : rb_Fw "RuleBuilderModel" 209 13 48 := ⟨_, rfl, by decide, by decide, by decide, rfl, rb_inG 1268 (by decide +kernel) rfl⟩
theorem vw_M_216 : rb_Vw "RuleBuilderModel" 216 k_M_charAt 13 2 := ⟨mw_M_charAt, rb_inG 1525 (by decide +kernel) rfl, rb_inG 1527 (by decide +kernel) rfl, rb_inG 47 (by decide +kernel) rfl, by decide, by decide, _, rfl, rfl⟩
theorem d_M_endsSo_0 : decode prog_14_method_23_code 0 = .ok (.iload_n 2, 1) := by decide +kernel
theorem d_M_endsSo_1 : decode prog_14_method_23_code 1 = .ok (.iload_n 1, 1) := by decide +kernel
theorem d_M_endsSo_2 : decode prog_14_method_23_code 2 = .ok (.isub, 1) := by decide +kernel
theorem d_M_endsSo_3 : decode prog_14_method_23_code 3 = .ok (.iload_n 3, 1) := by decide +kernel
theorem d_M_endsSo_4 : decode prog_14_method_23_code 4 = .ok (.if_icmp .lt 7, 3) := by decide +kernel
theorem d_M_endsSo_7 : decode prog_14_method_23_code 7 = .ok (.iconst 1, 1) := by decide +kernel
theorem d_M_endsSo_8 : decode prog_14_method_23_code 8 = .ok (.goto 4, 3) := by decide +kernel
theorem d_M_endsSo_11 : decode prog_14_method_23_code 11 = .ok (.iconst 0, 1) := by decide +kernel
theorem d_M_endsSo_12 : decode prog_14_method_23_code 12 = .ok (.istore 4, 2) := by decide +kernel
theorem d_M_endsSo_14 : decode prog_14_method_23_code 14 = .ok (.iconst 0, 1) := by decide +kernel
theorem d_M_endsSo_15 : decode prog_14_method_23_code 15 = .ok (.istore 5, 2) := by decide +kernel
theorem d_M_endsSo_17 : decode prog_14_method_23_code 17 = .ok (.iload 5, 2) := by decide +kernel
theorem d_M_endsSo_19 : decode prog_14_method_23_code 19 = .ok (.iload_n 3, 1) := by decide +kernel
theorem d_M_endsSo_20 : decode prog_14_method_23_code 20 = .ok (.if_icmp .ge 57, 3) := by decide +kernel
theorem d_M_endsSo_23 : decode prog_14_method_23_code 23 = .ok (.iload 4, 2) := by decide +kernel
theorem d_M_endsSo_25 : decode prog_14_method_23_code 25 = .ok (.ifCond .eq 52, 3) := by decide +kernel
theorem d_M_endsSo_28 : decode prog_14_method_23_code 28 = .ok (.aload_n 0, 1) := by decide +kernel
theorem d_M_endsSo_29 : decode prog_14_method_23_code 29 = .ok (.getfield 93, 3) := by decide +kernel
theorem d_M_endsSo_32 : decode prog_14_method_23_code 32 = .ok (.iload_n 2, 1) := by decide +kernel
theorem d_M_endsSo_33 : decode prog_14_method_23_code 33 = .ok (.iload_n 3, 1) := by decide +kernel
theorem d_M_endsSo_34 : decode prog_14_method_23_code 34 = .ok (.isub, 1) := by decide +kernel
theorem d_M_endsSo_35 : decode prog_14_method_23_code 35 = .ok (.iload 5, 2) := by decide +kernel
theorem d_M_endsSo_37 : decode prog_14_method_23_code 37 = .ok (.iadd, 1) := by decide +kernel
theorem d_M_endsSo_38 : decode prog_14_method_23_code 38 = .ok (.iaload, 1) := by decide +kernel
theorem d_M_endsSo_39 : decode prog_14_method_23_code 39 = .ok (.aload_n 0, 1) := by decide +kernel
theorem d_M_endsSo_40 : decode prog_14_method_23_code 40 = .ok (.aload_n 0, 1) := by decide +kernel
theorem d_M_endsSo_41 : decode prog_14_method_23_code 41 = .ok (.getfield 209, 3) := by decide +kernel
theorem d_M_endsSo_44 : decode prog_14_method_23_code 44 = .ok (.iconst 1, 1) := by decide +kernel
theorem d_M_endsSo_45 : decode prog_14_method_23_code 45 = .ok (.isub, 1) := by decide +kernel
theorem d_M_endsSo_46 : decode prog_14_method_23_code 46 = .ok (.aload_n 0, 1) := by decide +kernel
theorem d_M_endsSo_47 : decode prog_14_method_23_code 47 = .ok (.getfield 114, 3) := by decide +kernel
theorem d_M_endsSo_50 : decode prog_14_method_23_code 50 = .ok (.aload_n 0, 1) := by decide +kernel
theorem d_M_endsSo_51 : decode prog_14_method_23_code 51 = .ok (.getfield 209, 3) := by decide +kernel
theorem d_M_endsSo_54 : decode prog_14_method_23_code 54 = .ok (.iaload, 1) := by decide +kernel
theorem d_M_endsSo_55 : decode prog_14_method_23_code 55 = .ok (.iload 5, 2) := by decide +kernel
theorem d_M_endsSo_57 : decode prog_14_method_23_code 57 = .ok (.iadd, 1) := by decide +kernel
theorem d_M_endsSo_58 : decode prog_14_method_23_code 58 = .ok (.invokevirtual 216, 3) := by decide +kernel
theorem d_M_endsSo_61 : decode prog_14_method_23_code 61 = .ok (.if_icmp .ne 7, 3) := by decide +kernel
theorem d_M_endsSo_64 : decode prog_14_method_23_code 64 = .ok (.iconst 1, 1) := by decide +kernel
theorem d_M_endsSo_65 : decode prog_14_method_23_code 65 = .ok (.goto 4, 3) := by decide +kernel
theorem d_M_endsSo_68 : decode prog_14_method_23_code 68 = .ok (.iconst 0, 1) := by decide +kernel
theorem d_M_endsSo_69 : decode prog_14_method_23_code 69 = .ok (.istore 4, 2) := by decide +kernel
theorem d_M_endsSo_71 : decode prog_14_method_23_code 71 = .ok (.iinc 5 1, 3) := by decide +kernel
theorem d_M_endsSo_74 : decode prog_14_method_23_code 74 = .ok (.goto (-57), 3) := by decide +kernel
theorem d_M_endsSo_77 : decode prog_14_method_23_code 77 = .ok (.iload 4, 2) := by decide +kernel
theorem d_M_endsSo_79 : decode prog_14_method_23_code 79 = .ok (.ireturn, 1) := by decide +kernel
noncomputable def f_M_endsSo_j77 (x4 : Int32) (σ : rb_St) : Option rb_Rs :=
  if rb_isZ x4 then some (some (.int x4), σ) else none
theorem t_M_endsSo_j77 {E : rb_EV} {d : Nat} {σ0 : rb_St} {res : rb_Rs} (hdd : 1 ≤ d)  (x4 : Int32) (σ : rb_St) : rb_TC (f_M_endsSo_j77 x4 σ) (fun r => r = res) (rb_WK E k_M_endsSo d σ0 res 77 [none, none, none, none, some (.int x4), none] [] σ) := by
  unfold f_M_endsSo_j77
  refine rb_TC.mono (rk_iload d_M_endsSo_77 rfl) ?_
  refine rb_TC.ite (fun hn => ?_) (fun _ => rb_TC.none)
  exact rt_iret (ty := .boolean) rfl (rb_nar_Z hn) (fun h => h) d_M_endsSo_79
noncomputable def f_M_endsSo_b17 (r0 : Option Nat) (x2 : Int32) (x3 : Int32) (x4 : Int32) (x5 : Int32) (σ : rb_St) : Option ((Int32 × Int32 × rb_St) ⊕ rb_Rs) :=
  if x3 ≤ x5 then ((f_M_endsSo_j77 (x4) σ).map Sum.inr) else (if x4 = 0 then ((f_M_endsSo_j77 (x4) σ).map Sum.inr) else ((rb_gR σ r0 13 43).bind fun r_1 => (rb_aI σ r_1 102 ((x2 - x3) + x5)).bind fun x_2 => (rb_gI σ r0 13 48).bind fun x_3 => (rb_gR σ r0 13 53).bind fun r_4 => (rb_gI σ r0 13 48).bind fun x_5 => (rb_aI σ r_4 102 x_5).bind fun x_6 => (rb_fc σ r0 13).bind fun _ => rb_cI (f_M_charAt (r0) ((x_3 - (1 : Int32))) ((x_6 + x5)) σ) fun x_7 σ_8 => if x_2 = x_7 then (some (.inl ((1 : Int32), (x5 + 1), σ_8))) else (some (.inl ((0 : Int32), (x5 + 1), σ_8)))))
theorem t_M_endsSo_b17 {E : rb_EV} {d : Nat} {σ0 : rb_St} {res : rb_Rs} (hdd : 1 ≤ d)  (r0 : Option Nat) (x2 : Int32) (x3 : Int32) (x4 : Int32) (x5 : Int32) (σ : rb_St) : rb_TC (f_M_endsSo_b17 r0 x2 x3 x4 x5 σ) (Sum.elim (fun z : (Int32 × Int32 × rb_St) => rb_WK E k_M_endsSo d σ0 res 17 [some (va_rf r0), none, some (.int x2), some (.int x3), some (.int z.1), some (.int z.2.1)] [] z.2.2) (fun r => r = res)) (rb_WK E k_M_endsSo d σ0 res 17 [some (va_rf r0), none, some (.int x2), some (.int x3), some (.int x4), some (.int x5)] [] σ) := by
  unfold f_M_endsSo_b17
  refine rb_TC.mono (rk_iload d_M_endsSo_17 rfl) ?_
  refine rb_TC.mono (rk_iload_n 3 d_M_endsSo_19 rfl rfl) ?_
  refine rt_icmp_ge 77 d_M_endsSo_20 (by decide) (fun _ => ?_) (fun _ => ?_)
  · refine rb_TC.out ?_
    refine rb_TC.mono (rk_less (lv2 := [none, none, none, none, some (.int x4), none]) (rb_le_ok (rb_leN (rb_leN (rb_leN (rb_leN (rb_leS (rb_leN rb_le0)))))))) ?_
    exact t_M_endsSo_j77 hdd  (x4) σ
  · refine rb_TC.mono (rk_iload d_M_endsSo_23 rfl) ?_
    refine rt_if_eq 77 d_M_endsSo_25 (by decide) (fun _ => ?_) (fun _ => ?_)
    · refine rb_TC.out ?_
      refine rb_TC.mono (rk_less (lv2 := [none, none, none, none, some (.int x4), none]) (rb_le_ok (rb_leN (rb_leN (rb_leN (rb_leN (rb_leS (rb_leN rb_le0)))))))) ?_
      exact t_M_endsSo_j77 hdd  (x4) σ
    · refine rb_TC.mono (rk_aload_n 0 d_M_endsSo_28 rfl rfl) ?_
      refine rt_gR r0 fw_M_93 d_M_endsSo_29 (fun r_1 => ?_)
      refine rb_TC.mono (rk_iload_n 2 d_M_endsSo_32 rfl rfl) ?_
      refine rb_TC.mono (rk_iload_n 3 d_M_endsSo_33 rfl rfl) ?_
      refine rb_TC.mono (rk_isub d_M_endsSo_34) ?_
      refine rb_TC.mono (rk_iload d_M_endsSo_35 rfl) ?_
      refine rb_TC.mono (rk_iadd d_M_endsSo_37) ?_
      refine rt_iald r_1 d_M_endsSo_38 (fun x_2 => ?_)
      refine rb_TC.mono (rk_aload_n 0 d_M_endsSo_39 rfl rfl) ?_
      refine rb_TC.mono (rk_aload_n 0 d_M_endsSo_40 rfl rfl) ?_
      refine rt_gI r0 fw_M_209 d_M_endsSo_41 (fun x_3 => ?_)
      refine rb_TC.mono (rk_iconst (1 : Int32) d_M_endsSo_44 (by decide)) ?_
      refine rb_TC.mono (rk_isub d_M_endsSo_45) ?_
      refine rb_TC.mono (rk_aload_n 0 d_M_endsSo_46 rfl rfl) ?_
      refine rt_gR r0 fw_M_114 d_M_endsSo_47 (fun r_4 => ?_)
      refine rb_TC.mono (rk_aload_n 0 d_M_endsSo_50 rfl rfl) ?_
      refine rt_gI r0 fw_M_209 d_M_endsSo_51 (fun x_5 => ?_)
      refine rt_iald r_4 d_M_endsSo_54 (fun x_6 => ?_)
      refine rb_TC.mono (rk_iload d_M_endsSo_55 rfl) ?_
      refine rb_TC.mono (rk_iadd d_M_endsSo_57) ?_
      refine rt_vI (As := [.int (x_3 - (1 : Int32)), .int (x_6 + x5)]) (st := [.int x_2]) (r0) vw_M_216 (s_M_charAt (Nat.le_refl _) (r0) ((x_3 - (1 : Int32))) ((x_6 + x5)) σ) (Nat.le_trans (by decide) hdd) rfl (by simp [rb_cat_r, rb_cat_i, rb_cat_l]) d_M_endsSo_58 (fun x_7 σ_8 => ?_)
      refine rt_icmp_ne 68 d_M_endsSo_61 (by decide) (fun _ => ?_) (fun _ => ?_)
      · refine rb_TC.mono (rk_iconst (1 : Int32) d_M_endsSo_64 (by decide)) ?_
        refine rb_TC.mono (rk_goto 69 d_M_endsSo_65 (by decide)) ?_
        refine rb_TC.mono (rk_istore (lv2 := [some (va_rf r0), none, some (.int x2), some (.int x3), some (.int (1 : Int32)), some (.int x5)]) d_M_endsSo_69 (by decide) (fun _ => rb_one_i) rfl) ?_
        refine rb_TC.mono (rk_iinc (lv2 := [some (va_rf r0), none, some (.int x2), some (.int x3), some (.int (1 : Int32)), some (.int (x5 + 1))]) (x5 + 1) d_M_endsSo_71 rfl rfl (by decide) (fun _ => rb_one_i) rfl) ?_
        refine rb_TC.mono (rk_goto 17 d_M_endsSo_74 (by decide)) ?_
        exact rb_back
      · refine rb_TC.mono (rk_iconst (0 : Int32) d_M_endsSo_68 (by decide)) ?_
        refine rb_TC.mono (rk_istore (lv2 := [some (va_rf r0), none, some (.int x2), some (.int x3), some (.int (0 : Int32)), some (.int x5)]) d_M_endsSo_69 (by decide) (fun _ => rb_one_i) rfl) ?_
        refine rb_TC.mono (rk_iinc (lv2 := [some (va_rf r0), none, some (.int x2), some (.int x3), some (.int (0 : Int32)), some (.int (x5 + 1))]) (x5 + 1) d_M_endsSo_71 rfl rfl (by decide) (fun _ => rb_one_i) rfl) ?_
        refine rb_TC.mono (rk_goto 17 d_M_endsSo_74 (by decide)) ?_
        exact rb_back
noncomputable def f_M_endsSo (r0 : Option Nat) (x1 : Int32) (x2 : Int32) (x3 : Int32) (σ : rb_St) : Option rb_Rs :=
  if (x2 - x1) < x3 then (rb_it (fun z : (Int32 × Int32 × rb_St) => f_M_endsSo_b17 (r0) (x2) (x3) (z.1) (z.2.1) z.2.2) ((0 : Int32), (0 : Int32), σ)) else (rb_it (fun z : (Int32 × Int32 × rb_St) => f_M_endsSo_b17 (r0) (x2) (x3) (z.1) (z.2.1) z.2.2) ((1 : Int32), (0 : Int32), σ))
theorem s_M_endsSo {E : rb_EV} {d : Nat} (hdd : 1 ≤ d) (r0 : Option Nat) (x1 : Int32) (x2 : Int32) (x3 : Int32) (σ : rb_St) : rb_Does E k_M_endsSo d [va_rf r0, .int x1, .int x2, .int x3] σ (f_M_endsSo r0 x1 x2 x3 σ) := by
  refine rb_start (lv := [some (va_rf r0), some (.int x1), some (.int x2), some (.int x3), none, none]) (by decide) (by simp [lg_sl, rb_as, lv_args, rb_cat_r, rb_cat_i, rb_cat_l, rb_nL, k_M_endsSo]) (fun res => ?_)
  unfold f_M_endsSo
  refine rb_TC.mono (rk_iload_n 2 d_M_endsSo_0 rfl rfl) ?_
  refine rb_TC.mono (rk_iload_n 1 d_M_endsSo_1 rfl rfl) ?_
  refine rb_TC.mono (rk_isub d_M_endsSo_2) ?_
  refine rb_TC.mono (rk_iload_n 3 d_M_endsSo_3 rfl rfl) ?_
  refine rt_icmp_lt 11 d_M_endsSo_4 (by decide) (fun _ => ?_) (fun _ => ?_)
  · refine rb_TC.mono (rk_iconst (0 : Int32) d_M_endsSo_11 (by decide)) ?_
    refine rb_TC.mono (rk_istore (lv2 := [some (va_rf r0), some (.int x1), some (.int x2), some (.int x3), some (.int (0 : Int32)), none]) d_M_endsSo_12 (by decide) (fun _ => rb_one_i) rfl) ?_
    refine rb_TC.mono (rk_iconst (0 : Int32) d_M_endsSo_14 (by decide)) ?_
    refine rb_TC.mono (rk_istore (lv2 := [some (va_rf r0), some (.int x1), some (.int x2), some (.int x3), some (.int (0 : Int32)), some (.int (0 : Int32))]) d_M_endsSo_15 (by decide) (fun _ => rb_one_i) rfl) ?_
    refine rb_TC.mono (rk_less (lv2 := [some (va_rf r0), none, some (.int x2), some (.int x3), some (.int (0 : Int32)), some (.int (0 : Int32))]) (rb_le_ok (rb_leS (rb_leN (rb_leS (rb_leS (rb_leS (rb_leS rb_le0)))))))) ?_
    exact rb_TC.loop2 (A := (fun z : (Int32 × Int32 × rb_St) => rb_WK E k_M_endsSo d σ res 17 [some (va_rf r0), none, some (.int x2), some (.int x3), some (.int z.1), some (.int z.2.1)] [] z.2.2)) ((0 : Int32), (0 : Int32), σ) (fun z => t_M_endsSo_b17 hdd  (r0) (x2) (x3) (z.1) (z.2.1) z.2.2)
  · refine rb_TC.mono (rk_iconst (1 : Int32) d_M_endsSo_7 (by decide)) ?_
    refine rb_TC.mono (rk_goto 12 d_M_endsSo_8 (by decide)) ?_
    refine rb_TC.mono (rk_istore (lv2 := [some (va_rf r0), some (.int x1), some (.int x2), some (.int x3), some (.int (1 : Int32)), none]) d_M_endsSo_12 (by decide) (fun _ => rb_one_i) rfl) ?_
    refine rb_TC.mono (rk_iconst (0 : Int32) d_M_endsSo_14 (by decide)) ?_
    refine rb_TC.mono (rk_istore (lv2 := [some (va_rf r0), some (.int x1), some (.int x2), some (.int x3), some (.int (1 : Int32)), some (.int (0 : Int32))]) d_M_endsSo_15 (by decide) (fun _ => rb_one_i) rfl) ?_
    refine rb_TC.mono (rk_less (lv2 := [some (va_rf r0), none, some (.int x2), some (.int x3), some (.int (1 : Int32)), some (.int (0 : Int32))]) (rb_le_ok (rb_leS (rb_leN (rb_leS (rb_leS (rb_leS (rb_leS rb_le0)))))))) ?_
    exact rb_TC.loop2 (A := (fun z : (Int32 × Int32 × rb_St) => rb_WK E k_M_endsSo d σ res 17 [some (va_rf r0), none, some (.int x2), some (.int x3), some (.int z.1), some (.int z.2.1)] [] z.2.2)) ((1 : Int32), (0 : Int32), σ) (fun z => t_M_endsSo_b17 hdd  (r0) (x2) (x3) (z.1) (z.2.1) z.2.2)
-- ===== RuleBuilderModel.change(II)Z
def k_M_change : rb_MK := (⟨"RuleBuilderModel", "change", "(II)Z"⟩, prog_14_method_24_code, 6, some (.boolean))
theorem mw_M_change : rb_Mw k_M_change 2 := ⟨rb_inG 1532 (by decide +kernel) rfl, rb_inG 94 (by decide +kernel) rfl, ⟨by decide, by decide, by decide +kernel⟩, by decide⟩
theorem fp_M_change_203 : rb_Fp k_M_change 203 13 44 .int := ⟨fw_M_203, rfl, fun q h => by cases h; exact Or.inl rfl⟩
theorem d_M_change_0 : decode prog_14_method_24_code 0 = .ok (.aload_n 0, 1) := by decide +kernel
theorem d_M_change_1 : decode prog_14_method_24_code 1 = .ok (.getfield 120, 3) := by decide +kernel
theorem d_M_change_4 : decode prog_14_method_24_code 4 = .ok (.aload_n 0, 1) := by decide +kernel
theorem d_M_change_5 : decode prog_14_method_24_code 5 = .ok (.getfield 209, 3) := by decide +kernel
theorem d_M_change_8 : decode prog_14_method_24_code 8 = .ok (.iaload, 1) := by decide +kernel
theorem d_M_change_9 : decode prog_14_method_24_code 9 = .ok (.aload_n 0, 1) := by decide +kernel
theorem d_M_change_10 : decode prog_14_method_24_code 10 = .ok (.getfield 117, 3) := by decide +kernel
theorem d_M_change_13 : decode prog_14_method_24_code 13 = .ok (.aload_n 0, 1) := by decide +kernel
theorem d_M_change_14 : decode prog_14_method_24_code 14 = .ok (.getfield 209, 3) := by decide +kernel
theorem d_M_change_17 : decode prog_14_method_24_code 17 = .ok (.iaload, 1) := by decide +kernel
theorem d_M_change_18 : decode prog_14_method_24_code 18 = .ok (.isub, 1) := by decide +kernel
theorem d_M_change_19 : decode prog_14_method_24_code 19 = .ok (.iconst 1, 1) := by decide +kernel
theorem d_M_change_20 : decode prog_14_method_24_code 20 = .ok (.isub, 1) := by decide +kernel
theorem d_M_change_21 : decode prog_14_method_24_code 21 = .ok (.istore_n 3, 1) := by decide +kernel
theorem d_M_change_22 : decode prog_14_method_24_code 22 = .ok (.iload_n 3, 1) := by decide +kernel
theorem d_M_change_23 : decode prog_14_method_24_code 23 = .ok (.iload_n 2, 1) := by decide +kernel
theorem d_M_change_24 : decode prog_14_method_24_code 24 = .ok (.iload_n 1, 1) := by decide +kernel
theorem d_M_change_25 : decode prog_14_method_24_code 25 = .ok (.isub, 1) := by decide +kernel
theorem d_M_change_26 : decode prog_14_method_24_code 26 = .ok (.isub, 1) := by decide +kernel
theorem d_M_change_27 : decode prog_14_method_24_code 27 = .ok (.istore 4, 2) := by decide +kernel
theorem d_M_change_29 : decode prog_14_method_24_code 29 = .ok (.aload_n 0, 1) := by decide +kernel
theorem d_M_change_30 : decode prog_14_method_24_code 30 = .ok (.getfield 203, 3) := by decide +kernel
theorem d_M_change_33 : decode prog_14_method_24_code 33 = .ok (.iload 4, 2) := by decide +kernel
theorem d_M_change_35 : decode prog_14_method_24_code 35 = .ok (.iadd, 1) := by decide +kernel
theorem d_M_change_36 : decode prog_14_method_24_code 36 = .ok (.bipush 120, 2) := by decide +kernel
theorem d_M_change_38 : decode prog_14_method_24_code 38 = .ok (.if_icmp .le 5, 3) := by decide +kernel
theorem d_M_change_41 : decode prog_14_method_24_code 41 = .ok (.iconst 0, 1) := by decide +kernel
theorem d_M_change_42 : decode prog_14_method_24_code 42 = .ok (.ireturn, 1) := by decide +kernel
theorem d_M_change_43 : decode prog_14_method_24_code 43 = .ok (.aload_n 0, 1) := by decide +kernel
theorem d_M_change_44 : decode prog_14_method_24_code 44 = .ok (.getfield 203, 3) := by decide +kernel
theorem d_M_change_47 : decode prog_14_method_24_code 47 = .ok (.iconst 1, 1) := by decide +kernel
theorem d_M_change_48 : decode prog_14_method_24_code 48 = .ok (.isub, 1) := by decide +kernel
theorem d_M_change_49 : decode prog_14_method_24_code 49 = .ok (.istore 5, 2) := by decide +kernel
theorem d_M_change_51 : decode prog_14_method_24_code 51 = .ok (.iload 5, 2) := by decide +kernel
theorem d_M_change_53 : decode prog_14_method_24_code 53 = .ok (.iload_n 2, 1) := by decide +kernel
theorem d_M_change_54 : decode prog_14_method_24_code 54 = .ok (.if_icmp .lt 31, 3) := by decide +kernel
theorem d_M_change_57 : decode prog_14_method_24_code 57 = .ok (.iload 4, 2) := by decide +kernel
theorem d_M_change_59 : decode prog_14_method_24_code 59 = .ok (.ifCond .le 26, 3) := by decide +kernel
theorem d_M_change_62 : decode prog_14_method_24_code 62 = .ok (.aload_n 0, 1) := by decide +kernel
theorem d_M_change_63 : decode prog_14_method_24_code 63 = .ok (.getfield 93, 3) := by decide +kernel
theorem d_M_change_66 : decode prog_14_method_24_code 66 = .ok (.iload 5, 2) := by decide +kernel
theorem d_M_change_68 : decode prog_14_method_24_code 68 = .ok (.iload 4, 2) := by decide +kernel
theorem d_M_change_70 : decode prog_14_method_24_code 70 = .ok (.iadd, 1) := by decide +kernel
theorem d_M_change_71 : decode prog_14_method_24_code 71 = .ok (.aload_n 0, 1) := by decide +kernel
theorem d_M_change_72 : decode prog_14_method_24_code 72 = .ok (.getfield 93, 3) := by decide +kernel
theorem d_M_change_75 : decode prog_14_method_24_code 75 = .ok (.iload 5, 2) := by decide +kernel
theorem d_M_change_77 : decode prog_14_method_24_code 77 = .ok (.iaload, 1) := by decide +kernel
theorem d_M_change_78 : decode prog_14_method_24_code 78 = .ok (.iastore, 1) := by decide +kernel
theorem d_M_change_79 : decode prog_14_method_24_code 79 = .ok (.iinc 5 (-1), 3) := by decide +kernel
theorem d_M_change_82 : decode prog_14_method_24_code 82 = .ok (.goto (-31), 3) := by decide +kernel
theorem d_M_change_85 : decode prog_14_method_24_code 85 = .ok (.iload_n 2, 1) := by decide +kernel
theorem d_M_change_86 : decode prog_14_method_24_code 86 = .ok (.istore 5, 2) := by decide +kernel
theorem d_M_change_88 : decode prog_14_method_24_code 88 = .ok (.iload 5, 2) := by decide +kernel
theorem d_M_change_90 : decode prog_14_method_24_code 90 = .ok (.aload_n 0, 1) := by decide +kernel
theorem d_M_change_91 : decode prog_14_method_24_code 91 = .ok (.getfield 203, 3) := by decide +kernel
theorem d_M_change_94 : decode prog_14_method_24_code 94 = .ok (.if_icmp .ge 31, 3) := by decide +kernel
theorem d_M_change_97 : decode prog_14_method_24_code 97 = .ok (.iload 4, 2) := by decide +kernel
theorem d_M_change_99 : decode prog_14_method_24_code 99 = .ok (.ifCond .ge 26, 3) := by decide +kernel
theorem d_M_change_102 : decode prog_14_method_24_code 102 = .ok (.aload_n 0, 1) := by decide +kernel
theorem d_M_change_103 : decode prog_14_method_24_code 103 = .ok (.getfield 93, 3) := by decide +kernel
theorem d_M_change_106 : decode prog_14_method_24_code 106 = .ok (.iload 5, 2) := by decide +kernel
theorem d_M_change_108 : decode prog_14_method_24_code 108 = .ok (.iload 4, 2) := by decide +kernel
theorem d_M_change_110 : decode prog_14_method_24_code 110 = .ok (.iadd, 1) := by decide +kernel
theorem d_M_change_111 : decode prog_14_method_24_code 111 = .ok (.aload_n 0, 1) := by decide +kernel
theorem d_M_change_112 : decode prog_14_method_24_code 112 = .ok (.getfield 93, 3) := by decide +kernel
theorem d_M_change_115 : decode prog_14_method_24_code 115 = .ok (.iload 5, 2) := by decide +kernel
theorem d_M_change_117 : decode prog_14_method_24_code 117 = .ok (.iaload, 1) := by decide +kernel
theorem d_M_change_118 : decode prog_14_method_24_code 118 = .ok (.iastore, 1) := by decide +kernel
theorem d_M_change_119 : decode prog_14_method_24_code 119 = .ok (.iinc 5 1, 3) := by decide +kernel
theorem d_M_change_122 : decode prog_14_method_24_code 122 = .ok (.goto (-34), 3) := by decide +kernel
theorem d_M_change_125 : decode prog_14_method_24_code 125 = .ok (.aload_n 0, 1) := by decide +kernel
theorem d_M_change_126 : decode prog_14_method_24_code 126 = .ok (.aload_n 0, 1) := by decide +kernel
theorem d_M_change_127 : decode prog_14_method_24_code 127 = .ok (.getfield 203, 3) := by decide +kernel
theorem d_M_change_130 : decode prog_14_method_24_code 130 = .ok (.iload 4, 2) := by decide +kernel
theorem d_M_change_132 : decode prog_14_method_24_code 132 = .ok (.iadd, 1) := by decide +kernel
theorem d_M_change_133 : decode prog_14_method_24_code 133 = .ok (.putfield 203, 3) := by decide +kernel
theorem d_M_change_136 : decode prog_14_method_24_code 136 = .ok (.iconst 0, 1) := by decide +kernel
theorem d_M_change_137 : decode prog_14_method_24_code 137 = .ok (.istore 5, 2) := by decide +kernel
theorem d_M_change_139 : decode prog_14_method_24_code 139 = .ok (.iload 5, 2) := by decide +kernel
theorem d_M_change_141 : decode prog_14_method_24_code 141 = .ok (.iload_n 3, 1) := by decide +kernel
theorem d_M_change_142 : decode prog_14_method_24_code 142 = .ok (.if_icmp .ge 42, 3) := by decide +kernel
theorem d_M_change_145 : decode prog_14_method_24_code 145 = .ok (.aload_n 0, 1) := by decide +kernel
theorem d_M_change_146 : decode prog_14_method_24_code 146 = .ok (.getfield 93, 3) := by decide +kernel
theorem d_M_change_149 : decode prog_14_method_24_code 149 = .ok (.iload_n 1, 1) := by decide +kernel
theorem d_M_change_150 : decode prog_14_method_24_code 150 = .ok (.iload 5, 2) := by decide +kernel
theorem d_M_change_152 : decode prog_14_method_24_code 152 = .ok (.iadd, 1) := by decide +kernel
theorem d_M_change_153 : decode prog_14_method_24_code 153 = .ok (.aload_n 0, 1) := by decide +kernel
theorem d_M_change_154 : decode prog_14_method_24_code 154 = .ok (.aload_n 0, 1) := by decide +kernel
theorem d_M_change_155 : decode prog_14_method_24_code 155 = .ok (.getfield 209, 3) := by decide +kernel
theorem d_M_change_158 : decode prog_14_method_24_code 158 = .ok (.iconst 1, 1) := by decide +kernel
theorem d_M_change_159 : decode prog_14_method_24_code 159 = .ok (.isub, 1) := by decide +kernel
theorem d_M_change_160 : decode prog_14_method_24_code 160 = .ok (.aload_n 0, 1) := by decide +kernel
theorem d_M_change_161 : decode prog_14_method_24_code 161 = .ok (.getfield 117, 3) := by decide +kernel
theorem d_M_change_164 : decode prog_14_method_24_code 164 = .ok (.aload_n 0, 1) := by decide +kernel
theorem d_M_change_165 : decode prog_14_method_24_code 165 = .ok (.getfield 209, 3) := by decide +kernel
theorem d_M_change_168 : decode prog_14_method_24_code 168 = .ok (.iaload, 1) := by decide +kernel
theorem d_M_change_169 : decode prog_14_method_24_code 169 = .ok (.iconst 1, 1) := by decide +kernel
theorem d_M_change_170 : decode prog_14_method_24_code 170 = .ok (.iadd, 1) := by decide +kernel
theorem d_M_change_171 : decode prog_14_method_24_code 171 = .ok (.iload 5, 2) := by decide +kernel
theorem d_M_change_173 : decode prog_14_method_24_code 173 = .ok (.iadd, 1) := by decide +kernel
theorem d_M_change_174 : decode prog_14_method_24_code 174 = .ok (.invokevirtual 216, 3) := by decide +kernel
theorem d_M_change_177 : decode prog_14_method_24_code 177 = .ok (.iastore, 1) := by decide +kernel
theorem d_M_change_178 : decode prog_14_method_24_code 178 = .ok (.iinc 5 1, 3) := by decide +kernel
theorem d_M_change_181 : decode prog_14_method_24_code 181 = .ok (.goto (-42), 3) := by decide +kernel
theorem d_M_change_184 : decode prog_14_method_24_code 184 = .ok (.iconst 1, 1) := by decide +kernel
theorem d_M_change_185 : decode prog_14_method_24_code 185 = .ok (.ireturn, 1) := by decide +kernel
noncomputable def f_M_change_b139 (r0 : Option Nat) (x1 : Int32) (x3 : Int32) (x5 : Int32) (σ : rb_St) : Option ((Int32 × rb_St) ⊕ rb_Rs) :=
  if x3 ≤ x5 then ((some (some (.int (1 : Int32)), σ)).map Sum.inr) else ((rb_gR σ r0 13 43).bind fun r_12 => (rb_gI σ r0 13 48).bind fun x_13 => (rb_gR σ r0 13 54).bind fun r_14 => (rb_gI σ r0 13 48).bind fun x_15 => (rb_aI σ r_14 102 x_15).bind fun x_16 => (rb_fc σ r0 13).bind fun _ => rb_cI (f_M_charAt (r0) ((x_13 - (1 : Int32))) (((x_16 + (1 : Int32)) + x5)) σ) fun x_17 σ_18 => (rb_sI σ_18 r_12 102 (x1 + x5) x_17).bind fun σ_19 => some (.inl ((x5 + 1), σ_19)))
theorem t_M_change_b139 {E : rb_EV} {d : Nat} {σ0 : rb_St} {res : rb_Rs} (hdd : 1 ≤ d)  (r0 : Option Nat) (x1 : Int32) (x3 : Int32) (x5 : Int32) (σ : rb_St) : rb_TC (f_M_change_b139 r0 x1 x3 x5 σ) (Sum.elim (fun z : (Int32 × rb_St) => rb_WK E k_M_change d σ0 res 139 [some (va_rf r0), some (.int x1), none, some (.int x3), none, some (.int z.1)] [] z.2) (fun r => r = res)) (rb_WK E k_M_change d σ0 res 139 [some (va_rf r0), some (.int x1), none, some (.int x3), none, some (.int x5)] [] σ) := by
  unfold f_M_change_b139
  refine rb_TC.mono (rk_iload d_M_change_139 rfl) ?_
  refine rb_TC.mono (rk_iload_n 3 d_M_change_141 rfl rfl) ?_
  refine rt_icmp_ge 184 d_M_change_142 (by decide) (fun _ => ?_) (fun _ => ?_)
  · refine rb_TC.out ?_
    refine rb_TC.mono (rk_iconst (1 : Int32) d_M_change_184 (by decide)) ?_
    exact rt_iret (ty := .boolean) rfl (by decide) (fun h => h) d_M_change_185
  · refine rb_TC.mono (rk_aload_n 0 d_M_change_145 rfl rfl) ?_
    refine rt_gR r0 fw_M_93 d_M_change_146 (fun r_12 => ?_)
    refine rb_TC.mono (rk_iload_n 1 d_M_change_149 rfl rfl) ?_
    refine rb_TC.mono (rk_iload d_M_change_150 rfl) ?_
    refine rb_TC.mono (rk_iadd d_M_change_152) ?_
    refine rb_TC.mono (rk_aload_n 0 d_M_change_153 rfl rfl) ?_
    refine rb_TC.mono (rk_aload_n 0 d_M_change_154 rfl rfl) ?_
    refine rt_gI r0 fw_M_209 d_M_change_155 (fun x_13 => ?_)
    refine rb_TC.mono (rk_iconst (1 : Int32) d_M_change_158 (by decide)) ?_
    refine rb_TC.mono (rk_isub d_M_change_159) ?_
    refine rb_TC.mono (rk_aload_n 0 d_M_change_160 rfl rfl) ?_
    refine rt_gR r0 fw_M_117 d_M_change_161 (fun r_14 => ?_)
    refine rb_TC.mono (rk_aload_n 0 d_M_change_164 rfl rfl) ?_
    refine rt_gI r0 fw_M_209 d_M_change_165 (fun x_15 => ?_)
    refine rt_iald r_14 d_M_change_168 (fun x_16 => ?_)
    refine rb_TC.mono (rk_iconst (1 : Int32) d_M_change_169 (by decide)) ?_
    refine rb_TC.mono (rk_iadd d_M_change_170) ?_
    refine rb_TC.mono (rk_iload d_M_change_171 rfl) ?_
    refine rb_TC.mono (rk_iadd d_M_change_173) ?_
    refine rt_vI (As := [.int (x_13 - (1 : Int32)), .int ((x_16 + (1 : Int32)) + x5)]) (st := [.int (x1 + x5), va_rf r_12]) (r0) vw_M_216 (s_M_charAt (Nat.le_refl _) (r0) ((x_13 - (1 : Int32))) (((x_16 + (1 : Int32)) + x5)) σ) (Nat.le_trans (by decide) hdd) rfl (by simp [rb_cat_r, rb_cat_i, rb_cat_l]) d_M_change_174 (fun x_17 σ_18 => ?_)
    refine rt_iast r_12 d_M_change_177 (fun σ_19 => ?_)
    refine rb_TC.mono (rk_iinc (lv2 := [some (va_rf r0), some (.int x1), none, some (.int x3), none, some (.int (x5 + 1))]) (x5 + 1) d_M_change_178 rfl rfl (by decide) (fun _ => rb_one_n) rfl) ?_
    refine rb_TC.mono (rk_goto 139 d_M_change_181 (by decide)) ?_
    exact rb_back
noncomputable def f_M_change_j125 (r0 : Option Nat) (x1 : Int32) (x3 : Int32) (x4 : Int32) (σ : rb_St) : Option rb_Rs :=
  (rb_gI σ r0 13 44).bind fun x_10 => (rb_pI σ r0 13 44 (x_10 + x4)).bind fun σ_11 => rb_it (fun z : (Int32 × rb_St) => f_M_change_b139 (r0) (x1) (x3) (z.1) z.2) ((0 : Int32), σ_11)
theorem t_M_change_j125 {E : rb_EV} {d : Nat} {σ0 : rb_St} {res : rb_Rs} (hdd : 1 ≤ d)  (r0 : Option Nat) (x1 : Int32) (x3 : Int32) (x4 : Int32) (σ : rb_St) : rb_TC (f_M_change_j125 r0 x1 x3 x4 σ) (fun r => r = res) (rb_WK E k_M_change d σ0 res 125 [some (va_rf r0), some (.int x1), none, some (.int x3), some (.int x4), none] [] σ) := by
  unfold f_M_change_j125
  refine rb_TC.mono (rk_aload_n 0 d_M_change_125 rfl rfl) ?_
  refine rb_TC.mono (rk_aload_n 0 d_M_change_126 rfl rfl) ?_
  refine rt_gI r0 fw_M_203 d_M_change_127 (fun x_10 => ?_)
  refine rb_TC.mono (rk_iload d_M_change_130 rfl) ?_
  refine rb_TC.mono (rk_iadd d_M_change_132) ?_
  refine rt_pI r0 fp_M_change_203 d_M_change_133 (fun σ_11 => ?_)
  refine rb_TC.mono (rk_iconst (0 : Int32) d_M_change_136 (by decide)) ?_
  refine rb_TC.mono (rk_istore (lv2 := [some (va_rf r0), some (.int x1), none, some (.int x3), some (.int x4), some (.int (0 : Int32))]) d_M_change_137 (by decide) (fun _ => rb_one_i) rfl) ?_
  refine rb_TC.mono (rk_less (lv2 := [some (va_rf r0), some (.int x1), none, some (.int x3), none, some (.int (0 : Int32))]) (rb_le_ok (rb_leS (rb_leS (rb_leN (rb_leS (rb_leN (rb_leS rb_le0)))))))) ?_
  exact rb_TC.loop2 (A := (fun z : (Int32 × rb_St) => rb_WK E k_M_change d σ0 res 139 [some (va_rf r0), some (.int x1), none, some (.int x3), none, some (.int z.1)] [] z.2)) ((0 : Int32), σ_11) (fun z => t_M_change_b139 hdd  (r0) (x1) (x3) (z.1) z.2)
noncomputable def f_M_change_b88 (r0 : Option Nat) (x1 : Int32) (x3 : Int32) (x4 : Int32) (x5 : Int32) (σ : rb_St) : Option ((Int32 × rb_St) ⊕ rb_Rs) :=
  (rb_gI σ r0 13 44).bind fun x_9 => if x_9 ≤ x5 then ((f_M_change_j125 (r0) (x1) (x3) (x4) σ).map Sum.inr) else (if 0 ≤ x4 then ((f_M_change_j125 (r0) (x1) (x3) (x4) σ).map Sum.inr) else ((rb_gR σ r0 13 43).bind fun r_20 => (rb_gR σ r0 13 43).bind fun r_21 => (rb_aI σ r_21 102 x5).bind fun x_22 => (rb_sI σ r_20 102 (x5 + x4) x_22).bind fun σ_23 => some (.inl ((x5 + 1), σ_23))))
theorem t_M_change_b88 {E : rb_EV} {d : Nat} {σ0 : rb_St} {res : rb_Rs} (hdd : 1 ≤ d)  (r0 : Option Nat) (x1 : Int32) (x3 : Int32) (x4 : Int32) (x5 : Int32) (σ : rb_St) : rb_TC (f_M_change_b88 r0 x1 x3 x4 x5 σ) (Sum.elim (fun z : (Int32 × rb_St) => rb_WK E k_M_change d σ0 res 88 [some (va_rf r0), some (.int x1), none, some (.int x3), some (.int x4), some (.int z.1)] [] z.2) (fun r => r = res)) (rb_WK E k_M_change d σ0 res 88 [some (va_rf r0), some (.int x1), none, some (.int x3), some (.int x4), some (.int x5)] [] σ) := by
  unfold f_M_change_b88
  refine rb_TC.mono (rk_iload d_M_change_88 rfl) ?_
  refine rb_TC.mono (rk_aload_n 0 d_M_change_90 rfl rfl) ?_
  refine rt_gI r0 fw_M_203 d_M_change_91 (fun x_9 => ?_)
  refine rt_icmp_ge 125 d_M_change_94 (by decide) (fun _ => ?_) (fun _ => ?_)
  · refine rb_TC.out ?_
    refine rb_TC.mono (rk_less (lv2 := [some (va_rf r0), some (.int x1), none, some (.int x3), some (.int x4), none]) (rb_le_ok (rb_leS (rb_leS (rb_leN (rb_leS (rb_leS (rb_leN rb_le0)))))))) ?_
    exact t_M_change_j125 hdd  (r0) (x1) (x3) (x4) σ
  · refine rb_TC.mono (rk_iload d_M_change_97 rfl) ?_
    refine rt_if_ge 125 d_M_change_99 (by decide) (fun _ => ?_) (fun _ => ?_)
    · refine rb_TC.out ?_
      refine rb_TC.mono (rk_less (lv2 := [some (va_rf r0), some (.int x1), none, some (.int x3), some (.int x4), none]) (rb_le_ok (rb_leS (rb_leS (rb_leN (rb_leS (rb_leS (rb_leN rb_le0)))))))) ?_
      exact t_M_change_j125 hdd  (r0) (x1) (x3) (x4) σ
    · refine rb_TC.mono (rk_aload_n 0 d_M_change_102 rfl rfl) ?_
      refine rt_gR r0 fw_M_93 d_M_change_103 (fun r_20 => ?_)
      refine rb_TC.mono (rk_iload d_M_change_106 rfl) ?_
      refine rb_TC.mono (rk_iload d_M_change_108 rfl) ?_
      refine rb_TC.mono (rk_iadd d_M_change_110) ?_
      refine rb_TC.mono (rk_aload_n 0 d_M_change_111 rfl rfl) ?_
      refine rt_gR r0 fw_M_93 d_M_change_112 (fun r_21 => ?_)
      refine rb_TC.mono (rk_iload d_M_change_115 rfl) ?_
      refine rt_iald r_21 d_M_change_117 (fun x_22 => ?_)
      refine rt_iast r_20 d_M_change_118 (fun σ_23 => ?_)
      refine rb_TC.mono (rk_iinc (lv2 := [some (va_rf r0), some (.int x1), none, some (.int x3), some (.int x4), some (.int (x5 + 1))]) (x5 + 1) d_M_change_119 rfl rfl (by decide) (fun _ => rb_one_i) rfl) ?_
      refine rb_TC.mono (rk_goto 88 d_M_change_122 (by decide)) ?_
      exact rb_back
noncomputable def f_M_change_j85 (r0 : Option Nat) (x1 : Int32) (x2 : Int32) (x3 : Int32) (x4 : Int32) (σ : rb_St) : Option rb_Rs :=
  rb_it (fun z : (Int32 × rb_St) => f_M_change_b88 (r0) (x1) (x3) (x4) (z.1) z.2) (x2, σ)
theorem t_M_change_j85 {E : rb_EV} {d : Nat} {σ0 : rb_St} {res : rb_Rs} (hdd : 1 ≤ d)  (r0 : Option Nat) (x1 : Int32) (x2 : Int32) (x3 : Int32) (x4 : Int32) (σ : rb_St) : rb_TC (f_M_change_j85 r0 x1 x2 x3 x4 σ) (fun r => r = res) (rb_WK E k_M_change d σ0 res 85 [some (va_rf r0), some (.int x1), some (.int x2), some (.int x3), some (.int x4), none] [] σ) := by
  unfold f_M_change_j85
  refine rb_TC.mono (rk_iload_n 2 d_M_change_85 rfl rfl) ?_
  refine rb_TC.mono (rk_istore (lv2 := [some (va_rf r0), some (.int x1), some (.int x2), some (.int x3), some (.int x4), some (.int x2)]) d_M_change_86 (by decide) (fun _ => rb_one_i) rfl) ?_
  refine rb_TC.mono (rk_less (lv2 := [some (va_rf r0), some (.int x1), none, some (.int x3), some (.int x4), some (.int x2)]) (rb_le_ok (rb_leS (rb_leS (rb_leN (rb_leS (rb_leS (rb_leS rb_le0)))))))) ?_
  exact rb_TC.loop2 (A := (fun z : (Int32 × rb_St) => rb_WK E k_M_change d σ0 res 88 [some (va_rf r0), some (.int x1), none, some (.int x3), some (.int x4), some (.int z.1)] [] z.2)) (x2, σ) (fun z => t_M_change_b88 hdd  (r0) (x1) (x3) (x4) (z.1) z.2)
noncomputable def f_M_change_b51 (r0 : Option Nat) (x1 : Int32) (x2 : Int32) (x3 : Int32) (x4 : Int32) (x5 : Int32) (σ : rb_St) : Option ((Int32 × rb_St) ⊕ rb_Rs) :=
  if x5 < x2 then ((f_M_change_j85 (r0) (x1) (x2) (x3) (x4) σ).map Sum.inr) else (if x4 ≤ 0 then ((f_M_change_j85 (r0) (x1) (x2) (x3) (x4) σ).map Sum.inr) else ((rb_gR σ r0 13 43).bind fun r_24 => (rb_gR σ r0 13 43).bind fun r_25 => (rb_aI σ r_25 102 x5).bind fun x_26 => (rb_sI σ r_24 102 (x5 + x4) x_26).bind fun σ_27 => some (.inl ((x5 + (-1)), σ_27))))
theorem t_M_change_b51 {E : rb_EV} {d : Nat} {σ0 : rb_St} {res : rb_Rs} (hdd : 1 ≤ d)  (r0 : Option Nat) (x1 : Int32) (x2 : Int32) (x3 : Int32) (x4 : Int32) (x5 : Int32) (σ : rb_St) : rb_TC (f_M_change_b51 r0 x1 x2 x3 x4 x5 σ) (Sum.elim (fun z : (Int32 × rb_St) => rb_WK E k_M_change d σ0 res 51 [some (va_rf r0), some (.int x1), some (.int x2), some (.int x3), some (.int x4), some (.int z.1)] [] z.2) (fun r => r = res)) (rb_WK E k_M_change d σ0 res 51 [some (va_rf r0), some (.int x1), some (.int x2), some (.int x3), some (.int x4), some (.int x5)] [] σ) := by
  unfold f_M_change_b51
  refine rb_TC.mono (rk_iload d_M_change_51 rfl) ?_
  refine rb_TC.mono (rk_iload_n 2 d_M_change_53 rfl rfl) ?_
  refine rt_icmp_lt 85 d_M_change_54 (by decide) (fun _ => ?_) (fun _ => ?_)
  · refine rb_TC.out ?_
    refine rb_TC.mono (rk_less (lv2 := [some (va_rf r0), some (.int x1), some (.int x2), some (.int x3), some (.int x4), none]) (rb_le_ok (rb_leS (rb_leS (rb_leS (rb_leS (rb_leS (rb_leN rb_le0)))))))) ?_
    exact t_M_change_j85 hdd  (r0) (x1) (x2) (x3) (x4) σ
  · refine rb_TC.mono (rk_iload d_M_change_57 rfl) ?_
    refine rt_if_le 85 d_M_change_59 (by decide) (fun _ => ?_) (fun _ => ?_)
    · refine rb_TC.out ?_
      refine rb_TC.mono (rk_less (lv2 := [some (va_rf r0), some (.int x1), some (.int x2), some (.int x3), some (.int x4), none]) (rb_le_ok (rb_leS (rb_leS (rb_leS (rb_leS (rb_leS (rb_leN rb_le0)))))))) ?_
      exact t_M_change_j85 hdd  (r0) (x1) (x2) (x3) (x4) σ
    · refine rb_TC.mono (rk_aload_n 0 d_M_change_62 rfl rfl) ?_
      refine rt_gR r0 fw_M_93 d_M_change_63 (fun r_24 => ?_)
      refine rb_TC.mono (rk_iload d_M_change_66 rfl) ?_
      refine rb_TC.mono (rk_iload d_M_change_68 rfl) ?_
      refine rb_TC.mono (rk_iadd d_M_change_70) ?_
      refine rb_TC.mono (rk_aload_n 0 d_M_change_71 rfl rfl) ?_
      refine rt_gR r0 fw_M_93 d_M_change_72 (fun r_25 => ?_)
      refine rb_TC.mono (rk_iload d_M_change_75 rfl) ?_
      refine rt_iald r_25 d_M_change_77 (fun x_26 => ?_)
      refine rt_iast r_24 d_M_change_78 (fun σ_27 => ?_)
      refine rb_TC.mono (rk_iinc (lv2 := [some (va_rf r0), some (.int x1), some (.int x2), some (.int x3), some (.int x4), some (.int (x5 + (-1)))]) (x5 + (-1)) d_M_change_79 rfl rfl (by decide) (fun _ => rb_one_i) rfl) ?_
      refine rb_TC.mono (rk_goto 51 d_M_change_82 (by decide)) ?_
      exact rb_back
noncomputable def f_M_change (r0 : Option Nat) (x1 : Int32) (x2 : Int32) (σ : rb_St) : Option rb_Rs :=
  (rb_gR σ r0 13 55).bind fun r_1 => (rb_gI σ r0 13 48).bind fun x_2 => (rb_aI σ r_1 102 x_2).bind fun x_3 => (rb_gR σ r0 13 54).bind fun r_4 => (rb_gI σ r0 13 48).bind fun x_5 => (rb_aI σ r_4 102 x_5).bind fun x_6 => (rb_gI σ r0 13 44).bind fun x_7 => if (x_7 + (((x_3 - x_6) - (1 : Int32)) - (x2 - x1))) ≤ (120 : Int32) then ((rb_gI σ r0 13 44).bind fun x_8 => rb_it (fun z : (Int32 × rb_St) => f_M_change_b51 (r0) (x1) (x2) (((x_3 - x_6) - (1 : Int32))) ((((x_3 - x_6) - (1 : Int32)) - (x2 - x1))) (z.1) z.2) ((x_8 - (1 : Int32)), σ)) else (some (some (.int (0 : Int32)), σ))
theorem s_M_change {E : rb_EV} {d : Nat} (hdd : 1 ≤ d) (r0 : Option Nat) (x1 : Int32) (x2 : Int32) (σ : rb_St) : rb_Does E k_M_change d [va_rf r0, .int x1, .int x2] σ (f_M_change r0 x1 x2 σ) := by
  refine rb_start (lv := [some (va_rf r0), some (.int x1), some (.int x2), none, none, none]) (by decide) (by simp [lg_sl, rb_as, lv_args, rb_cat_r, rb_cat_i, rb_cat_l, rb_nL, k_M_change]) (fun res => ?_)
  unfold f_M_change
  refine rb_TC.mono (rk_aload_n 0 d_M_change_0 rfl rfl) ?_
  refine rt_gR r0 fw_M_120 d_M_change_1 (fun r_1 => ?_)
  refine rb_TC.mono (rk_aload_n 0 d_M_change_4 rfl rfl) ?_
  refine rt_gI r0 fw_M_209 d_M_change_5 (fun x_2 => ?_)
  refine rt_iald r_1 d_M_change_8 (fun x_3 => ?_)
  refine rb_TC.mono (rk_aload_n 0 d_M_change_9 rfl rfl) ?_
  refine rt_gR r0 fw_M_117 d_M_change_10 (fun r_4 => ?_)
  refine rb_TC.mono (rk_aload_n 0 d_M_change_13 rfl rfl) ?_
  refine rt_gI r0 fw_M_209 d_M_change_14 (fun x_5 => ?_)
  refine rt_iald r_4 d_M_change_17 (fun x_6 => ?_)
  refine rb_TC.mono (rk_isub d_M_change_18) ?_
  refine rb_TC.mono (rk_iconst (1 : Int32) d_M_change_19 (by decide)) ?_
  refine rb_TC.mono (rk_isub d_M_change_20) ?_
  refine rb_TC.mono (rk_istore_n (lv2 := [some (va_rf r0), some (.int x1), some (.int x2), some (.int ((x_3 - x_6) - (1 : Int32))), none, none]) 3 d_M_change_21 rfl (by decide) (fun _ => rb_one_i) rfl) ?_
  refine rb_TC.mono (rk_iload_n 3 d_M_change_22 rfl rfl) ?_
  refine rb_TC.mono (rk_iload_n 2 d_M_change_23 rfl rfl) ?_
  refine rb_TC.mono (rk_iload_n 1 d_M_change_24 rfl rfl) ?_
  refine rb_TC.mono (rk_isub d_M_change_25) ?_
  refine rb_TC.mono (rk_isub d_M_change_26) ?_
  refine rb_TC.mono (rk_istore (lv2 := [some (va_rf r0), some (.int x1), some (.int x2), some (.int ((x_3 - x_6) - (1 : Int32))), some (.int (((x_3 - x_6) - (1 : Int32)) - (x2 - x1))), none]) d_M_change_27 (by decide) (fun _ => rb_one_i) rfl) ?_
  refine rb_TC.mono (rk_aload_n 0 d_M_change_29 rfl rfl) ?_
  refine rt_gI r0 fw_M_203 d_M_change_30 (fun x_7 => ?_)
  refine rb_TC.mono (rk_iload d_M_change_33 rfl) ?_
  refine rb_TC.mono (rk_iadd d_M_change_35) ?_
  refine rb_TC.mono (rk_bipush (120 : Int32) d_M_change_36 (by decide)) ?_
  refine rt_icmp_le 43 d_M_change_38 (by decide) (fun _ => ?_) (fun _ => ?_)
  · refine rb_TC.mono (rk_aload_n 0 d_M_change_43 rfl rfl) ?_
    refine rt_gI r0 fw_M_203 d_M_change_44 (fun x_8 => ?_)
    refine rb_TC.mono (rk_iconst (1 : Int32) d_M_change_47 (by decide)) ?_
    refine rb_TC.mono (rk_isub d_M_change_48) ?_
    refine rb_TC.mono (rk_istore (lv2 := [some (va_rf r0), some (.int x1), some (.int x2), some (.int ((x_3 - x_6) - (1 : Int32))), some (.int (((x_3 - x_6) - (1 : Int32)) - (x2 - x1))), some (.int (x_8 - (1 : Int32)))]) d_M_change_49 (by decide) (fun _ => rb_one_i) rfl) ?_
    exact rb_TC.loop2 (A := (fun z : (Int32 × rb_St) => rb_WK E k_M_change d σ res 51 [some (va_rf r0), some (.int x1), some (.int x2), some (.int ((x_3 - x_6) - (1 : Int32))), some (.int (((x_3 - x_6) - (1 : Int32)) - (x2 - x1))), some (.int z.1)] [] z.2)) ((x_8 - (1 : Int32)), σ) (fun z => t_M_change_b51 hdd  (r0) (x1) (x2) (((x_3 - x_6) - (1 : Int32))) ((((x_3 - x_6) - (1 : Int32)) - (x2 - x1))) (z.1) z.2)
  · refine rb_TC.mono (rk_iconst (0 : Int32) d_M_change_41 (by decide)) ?_
    exact rt_iret (ty := .boolean) rfl (by decide) (fun h => h) d_M_change_42
-- ===== RuleBuilderModel.leave()Z
def k_M_leave : rb_MK := (⟨"RuleBuilderModel", "leave", "()Z"⟩, prog_14_method_22_code, 6, some (.boolean))
theorem mw_M_leave : rb_Mw k_M_leave 0 := ⟨rb_inG 1520 (by decide +kernel) rfl, rb_inG 94 (by decide +kernel) rfl, ⟨by decide, by decide, by decide +kernel⟩, by decide⟩
theorem fp_M_leave_209 : rb_Fp k_M_leave 209 13 48 .int := ⟨fw_M_209, rfl, fun q h => by cases h; exact Or.inl rfl⟩
theorem vw_M_234 : rb_Vw "RuleBuilderModel" 234 k_M_endsSo 13 3 := ⟨mw_M_endsSo, rb_inG 1521 (by decide +kernel) rfl, rb_inG 1523 (by decide +kernel) rfl, rb_inG 46 (by decide +kernel) rfl, by decide, by decide, _, rfl, rfl⟩
theorem vw_M_238 : rb_Vw "RuleBuilderModel" 238 k_M_change 13 2 := ⟨mw_M_change, rb_inG 1529 (by decide +kernel) rfl, rb_inG 1531 (by decide +kernel) rfl, rb_inG 48 (by decide +kernel) rfl, by decide, by decide, _, rfl, rfl⟩
theorem d_M_leave_0 : decode prog_14_method_22_code 0 = .ok (.aload_n 0, 1) := by decide +kernel
theorem d_M_leave_1 : decode prog_14_method_22_code 1 = .ok (.getfield 209, 3) := by decide +kernel
theorem d_M_leave_4 : decode prog_14_method_22_code 4 = .ok (.ifCond .le 27, 3) := by decide +kernel
theorem d_M_leave_7 : decode prog_14_method_22_code 7 = .ok (.aload_n 0, 1) := by decide +kernel
theorem d_M_leave_8 : decode prog_14_method_22_code 8 = .ok (.getfield 114, 3) := by decide +kernel
theorem d_M_leave_11 : decode prog_14_method_22_code 11 = .ok (.aload_n 0, 1) := by decide +kernel
theorem d_M_leave_12 : decode prog_14_method_22_code 12 = .ok (.getfield 209, 3) := by decide +kernel
theorem d_M_leave_15 : decode prog_14_method_22_code 15 = .ok (.iaload, 1) := by decide +kernel
theorem d_M_leave_16 : decode prog_14_method_22_code 16 = .ok (.ifCond .lt 15, 3) := by decide +kernel
theorem d_M_leave_19 : decode prog_14_method_22_code 19 = .ok (.aload_n 0, 1) := by decide +kernel
theorem d_M_leave_20 : decode prog_14_method_22_code 20 = .ok (.getfield 111, 3) := by decide +kernel
theorem d_M_leave_23 : decode prog_14_method_22_code 23 = .ok (.aload_n 0, 1) := by decide +kernel
theorem d_M_leave_24 : decode prog_14_method_22_code 24 = .ok (.getfield 209, 3) := by decide +kernel
theorem d_M_leave_27 : decode prog_14_method_22_code 27 = .ok (.iaload, 1) := by decide +kernel
theorem d_M_leave_28 : decode prog_14_method_22_code 28 = .ok (.goto 7, 3) := by decide +kernel
theorem d_M_leave_31 : decode prog_14_method_22_code 31 = .ok (.aload_n 0, 1) := by decide +kernel
theorem d_M_leave_32 : decode prog_14_method_22_code 32 = .ok (.getfield 203, 3) := by decide +kernel
theorem d_M_leave_35 : decode prog_14_method_22_code 35 = .ok (.istore_n 1, 1) := by decide +kernel
theorem d_M_leave_36 : decode prog_14_method_22_code 36 = .ok (.iconst 1, 1) := by decide +kernel
theorem d_M_leave_37 : decode prog_14_method_22_code 37 = .ok (.istore_n 2, 1) := by decide +kernel
theorem d_M_leave_38 : decode prog_14_method_22_code 38 = .ok (.iload_n 2, 1) := by decide +kernel
theorem d_M_leave_39 : decode prog_14_method_22_code 39 = .ok (.ifCond .eq 153, 3) := by decide +kernel
theorem d_M_leave_42 : decode prog_14_method_22_code 42 = .ok (.iload_n 1, 1) := by decide +kernel
theorem d_M_leave_43 : decode prog_14_method_22_code 43 = .ok (.aload_n 0, 1) := by decide +kernel
theorem d_M_leave_44 : decode prog_14_method_22_code 44 = .ok (.getfield 203, 3) := by decide +kernel
theorem d_M_leave_47 : decode prog_14_method_22_code 47 = .ok (.if_icmp .ge 145, 3) := by decide +kernel
theorem d_M_leave_50 : decode prog_14_method_22_code 50 = .ok (.iload_n 1, 1) := by decide +kernel
theorem d_M_leave_51 : decode prog_14_method_22_code 51 = .ok (.istore_n 3, 1) := by decide +kernel
theorem d_M_leave_52 : decode prog_14_method_22_code 52 = .ok (.iload_n 3, 1) := by decide +kernel
theorem d_M_leave_53 : decode prog_14_method_22_code 53 = .ok (.aload_n 0, 1) := by decide +kernel
theorem d_M_leave_54 : decode prog_14_method_22_code 54 = .ok (.getfield 203, 3) := by decide +kernel
theorem d_M_leave_57 : decode prog_14_method_22_code 57 = .ok (.if_icmp .ge 20, 3) := by decide +kernel
theorem d_M_leave_60 : decode prog_14_method_22_code 60 = .ok (.aload_n 0, 1) := by decide +kernel
theorem d_M_leave_61 : decode prog_14_method_22_code 61 = .ok (.getfield 93, 3) := by decide +kernel
theorem d_M_leave_64 : decode prog_14_method_22_code 64 = .ok (.iload_n 3, 1) := by decide +kernel
theorem d_M_leave_65 : decode prog_14_method_22_code 65 = .ok (.iaload, 1) := by decide +kernel
theorem d_M_leave_66 : decode prog_14_method_22_code 66 = .ok (.bipush 32, 2) := by decide +kernel
theorem d_M_leave_68 : decode prog_14_method_22_code 68 = .ok (.if_icmp .ne 9, 3) := by decide +kernel
theorem d_M_leave_71 : decode prog_14_method_22_code 71 = .ok (.iinc 3 1, 3) := by decide +kernel
theorem d_M_leave_74 : decode prog_14_method_22_code 74 = .ok (.goto (-22), 3) := by decide +kernel
theorem d_M_leave_77 : decode prog_14_method_22_code 77 = .ok (.iload_n 3, 1) := by decide +kernel
theorem d_M_leave_78 : decode prog_14_method_22_code 78 = .ok (.istore 4, 2) := by decide +kernel
theorem d_M_leave_80 : decode prog_14_method_22_code 80 = .ok (.iload 4, 2) := by decide +kernel
theorem d_M_leave_82 : decode prog_14_method_22_code 82 = .ok (.aload_n 0, 1) := by decide +kernel
theorem d_M_leave_83 : decode prog_14_method_22_code 83 = .ok (.getfield 203, 3) := by decide +kernel
theorem d_M_leave_86 : decode prog_14_method_22_code 86 = .ok (.if_icmp .ge 21, 3) := by decide +kernel
theorem d_M_leave_89 : decode prog_14_method_22_code 89 = .ok (.aload_n 0, 1) := by decide +kernel
theorem d_M_leave_90 : decode prog_14_method_22_code 90 = .ok (.getfield 93, 3) := by decide +kernel
theorem d_M_leave_93 : decode prog_14_method_22_code 93 = .ok (.iload 4, 2) := by decide +kernel
theorem d_M_leave_95 : decode prog_14_method_22_code 95 = .ok (.iaload, 1) := by decide +kernel
theorem d_M_leave_96 : decode prog_14_method_22_code 96 = .ok (.bipush 32, 2) := by decide +kernel
theorem d_M_leave_98 : decode prog_14_method_22_code 98 = .ok (.if_icmp .eq 9, 3) := by decide +kernel
theorem d_M_leave_101 : decode prog_14_method_22_code 101 = .ok (.iinc 4 1, 3) := by decide +kernel
theorem d_M_leave_104 : decode prog_14_method_22_code 104 = .ok (.goto (-24), 3) := by decide +kernel
theorem d_M_leave_107 : decode prog_14_method_22_code 107 = .ok (.iload 4, 2) := by decide +kernel
theorem d_M_leave_109 : decode prog_14_method_22_code 109 = .ok (.istore_n 1, 1) := by decide +kernel
theorem d_M_leave_110 : decode prog_14_method_22_code 110 = .ok (.aload_n 0, 1) := by decide +kernel
theorem d_M_leave_111 : decode prog_14_method_22_code 111 = .ok (.getfield 117, 3) := by decide +kernel
theorem d_M_leave_114 : decode prog_14_method_22_code 114 = .ok (.aload_n 0, 1) := by decide +kernel
theorem d_M_leave_115 : decode prog_14_method_22_code 115 = .ok (.getfield 209, 3) := by decide +kernel
theorem d_M_leave_118 : decode prog_14_method_22_code 118 = .ok (.iaload, 1) := by decide +kernel
theorem d_M_leave_119 : decode prog_14_method_22_code 119 = .ok (.aload_n 0, 1) := by decide +kernel
theorem d_M_leave_120 : decode prog_14_method_22_code 120 = .ok (.getfield 114, 3) := by decide +kernel
theorem d_M_leave_123 : decode prog_14_method_22_code 123 = .ok (.aload_n 0, 1) := by decide +kernel
theorem d_M_leave_124 : decode prog_14_method_22_code 124 = .ok (.getfield 209, 3) := by decide +kernel
theorem d_M_leave_127 : decode prog_14_method_22_code 127 = .ok (.iaload, 1) := by decide +kernel
theorem d_M_leave_128 : decode prog_14_method_22_code 128 = .ok (.isub, 1) := by decide +kernel
theorem d_M_leave_129 : decode prog_14_method_22_code 129 = .ok (.istore 5, 2) := by decide +kernel
theorem d_M_leave_131 : decode prog_14_method_22_code 131 = .ok (.iload 4, 2) := by decide +kernel
theorem d_M_leave_133 : decode prog_14_method_22_code 133 = .ok (.iload_n 3, 1) := by decide +kernel
theorem d_M_leave_134 : decode prog_14_method_22_code 134 = .ok (.if_icmp .le 55, 3) := by decide +kernel
theorem d_M_leave_137 : decode prog_14_method_22_code 137 = .ok (.aload_n 0, 1) := by decide +kernel
theorem d_M_leave_138 : decode prog_14_method_22_code 138 = .ok (.iload_n 3, 1) := by decide +kernel
theorem d_M_leave_139 : decode prog_14_method_22_code 139 = .ok (.iload 4, 2) := by decide +kernel
theorem d_M_leave_141 : decode prog_14_method_22_code 141 = .ok (.iload 5, 2) := by decide +kernel
theorem d_M_leave_143 : decode prog_14_method_22_code 143 = .ok (.invokevirtual 234, 3) := by decide +kernel
theorem d_M_leave_146 : decode prog_14_method_22_code 146 = .ok (.ifCond .eq 43, 3) := by decide +kernel
theorem d_M_leave_149 : decode prog_14_method_22_code 149 = .ok (.iload 4, 2) := by decide +kernel
theorem d_M_leave_151 : decode prog_14_method_22_code 151 = .ok (.iload 5, 2) := by decide +kernel
theorem d_M_leave_153 : decode prog_14_method_22_code 153 = .ok (.isub, 1) := by decide +kernel
theorem d_M_leave_154 : decode prog_14_method_22_code 154 = .ok (.aload_n 0, 1) := by decide +kernel
theorem d_M_leave_155 : decode prog_14_method_22_code 155 = .ok (.getfield 120, 3) := by decide +kernel
theorem d_M_leave_158 : decode prog_14_method_22_code 158 = .ok (.aload_n 0, 1) := by decide +kernel
theorem d_M_leave_159 : decode prog_14_method_22_code 159 = .ok (.getfield 209, 3) := by decide +kernel
theorem d_M_leave_162 : decode prog_14_method_22_code 162 = .ok (.iaload, 1) := by decide +kernel
theorem d_M_leave_163 : decode prog_14_method_22_code 163 = .ok (.iadd, 1) := by decide +kernel
theorem d_M_leave_164 : decode prog_14_method_22_code 164 = .ok (.aload_n 0, 1) := by decide +kernel
theorem d_M_leave_165 : decode prog_14_method_22_code 165 = .ok (.getfield 117, 3) := by decide +kernel
theorem d_M_leave_168 : decode prog_14_method_22_code 168 = .ok (.aload_n 0, 1) := by decide +kernel
theorem d_M_leave_169 : decode prog_14_method_22_code 169 = .ok (.getfield 209, 3) := by decide +kernel
theorem d_M_leave_172 : decode prog_14_method_22_code 172 = .ok (.iaload, 1) := by decide +kernel
theorem d_M_leave_173 : decode prog_14_method_22_code 173 = .ok (.isub, 1) := by decide +kernel
theorem d_M_leave_174 : decode prog_14_method_22_code 174 = .ok (.iconst 1, 1) := by decide +kernel
theorem d_M_leave_175 : decode prog_14_method_22_code 175 = .ok (.isub, 1) := by decide +kernel
theorem d_M_leave_176 : decode prog_14_method_22_code 176 = .ok (.istore_n 1, 1) := by decide +kernel
theorem d_M_leave_177 : decode prog_14_method_22_code 177 = .ok (.aload_n 0, 1) := by decide +kernel
theorem d_M_leave_178 : decode prog_14_method_22_code 178 = .ok (.iload 4, 2) := by decide +kernel
theorem d_M_leave_180 : decode prog_14_method_22_code 180 = .ok (.iload 5, 2) := by decide +kernel
theorem d_M_leave_182 : decode prog_14_method_22_code 182 = .ok (.isub, 1) := by decide +kernel
theorem d_M_leave_183 : decode prog_14_method_22_code 183 = .ok (.iload 4, 2) := by decide +kernel
theorem d_M_leave_185 : decode prog_14_method_22_code 185 = .ok (.invokevirtual 238, 3) := by decide +kernel
theorem d_M_leave_188 : decode prog_14_method_22_code 188 = .ok (.istore_n 2, 1) := by decide +kernel
theorem d_M_leave_189 : decode prog_14_method_22_code 189 = .ok (.goto (-151), 3) := by decide +kernel
theorem d_M_leave_192 : decode prog_14_method_22_code 192 = .ok (.aload_n 0, 1) := by decide +kernel
theorem d_M_leave_193 : decode prog_14_method_22_code 193 = .ok (.dup, 1) := by decide +kernel
theorem d_M_leave_194 : decode prog_14_method_22_code 194 = .ok (.getfield 209, 3) := by decide +kernel
theorem d_M_leave_197 : decode prog_14_method_22_code 197 = .ok (.iconst 1, 1) := by decide +kernel
theorem d_M_leave_198 : decode prog_14_method_22_code 198 = .ok (.isub, 1) := by decide +kernel
theorem d_M_leave_199 : decode prog_14_method_22_code 199 = .ok (.putfield 209, 3) := by decide +kernel
theorem d_M_leave_202 : decode prog_14_method_22_code 202 = .ok (.iload_n 2, 1) := by decide +kernel
theorem d_M_leave_203 : decode prog_14_method_22_code 203 = .ok (.ireturn, 1) := by decide +kernel
noncomputable def f_M_leave_j192 (r0 : Option Nat) (x2 : Int32) (σ : rb_St) : Option rb_Rs :=
  (rb_gI σ r0 13 48).bind fun x_3 => (rb_pI σ r0 13 48 (x_3 - (1 : Int32))).bind fun σ_4 => if rb_isZ x2 then some (some (.int x2), σ_4) else none
theorem t_M_leave_j192 {E : rb_EV} {d : Nat} {σ0 : rb_St} {res : rb_Rs} (hdd : 2 ≤ d)  (r0 : Option Nat) (x2 : Int32) (σ : rb_St) : rb_TC (f_M_leave_j192 r0 x2 σ) (fun r => r = res) (rb_WK E k_M_leave d σ0 res 192 [some (va_rf r0), none, some (.int x2), none, none, none] [] σ) := by
  unfold f_M_leave_j192
  refine rb_TC.mono (rk_aload_n 0 d_M_leave_192 rfl rfl) ?_
  refine rb_TC.mono (rk_dupr d_M_leave_193) ?_
  refine rt_gI r0 fw_M_209 d_M_leave_194 (fun x_3 => ?_)
  refine rb_TC.mono (rk_iconst (1 : Int32) d_M_leave_197 (by decide)) ?_
  refine rb_TC.mono (rk_isub d_M_leave_198) ?_
  refine rt_pI r0 fp_M_leave_209 d_M_leave_199 (fun σ_4 => ?_)
  refine rb_TC.mono (rk_iload_n 2 d_M_leave_202 rfl rfl) ?_
  refine rb_TC.ite (fun hn => ?_) (fun _ => rb_TC.none)
  exact rt_iret (ty := .boolean) rfl (rb_nar_Z hn) (fun h => h) d_M_leave_203
noncomputable def f_M_leave_j107 (r0 : Option Nat) (x2 : Int32) (x3 : Int32) (x4 : Int32) (σ : rb_St) : Option ((Int32 × Int32 × rb_St) ⊕ rb_Rs) :=
  (rb_gR σ r0 13 54).bind fun r_8 => (rb_gI σ r0 13 48).bind fun x_9 => (rb_aI σ r_8 102 x_9).bind fun x_10 => (rb_gR σ r0 13 53).bind fun r_11 => (rb_gI σ r0 13 48).bind fun x_12 => (rb_aI σ r_11 102 x_12).bind fun x_13 => if x4 ≤ x3 then (some (.inl (x4, x2, σ))) else ((rb_fc σ r0 13).bind fun _ => rb_cI (f_M_endsSo (r0) (x3) (x4) ((x_10 - x_13)) σ) fun x_14 σ_15 => if x_14 = 0 then (some (.inl (x4, x2, σ_15))) else ((rb_gR σ_15 r0 13 55).bind fun r_16 => (rb_gI σ_15 r0 13 48).bind fun x_17 => (rb_aI σ_15 r_16 102 x_17).bind fun x_18 => (rb_gR σ_15 r0 13 54).bind fun r_19 => (rb_gI σ_15 r0 13 48).bind fun x_20 => (rb_aI σ_15 r_19 102 x_20).bind fun x_21 => (rb_fc σ_15 r0 13).bind fun _ => rb_cI (f_M_change (r0) ((x4 - (x_10 - x_13))) (x4) σ_15) fun x_22 σ_23 => some (.inl (((((x4 - (x_10 - x_13)) + x_18) - x_21) - (1 : Int32)), x_22, σ_23))))
theorem t_M_leave_j107 {E : rb_EV} {d : Nat} {σ0 : rb_St} {res : rb_Rs} (hdd : 2 ≤ d)  (r0 : Option Nat) (x2 : Int32) (x3 : Int32) (x4 : Int32) (σ : rb_St) : rb_TC (f_M_leave_j107 r0 x2 x3 x4 σ) (Sum.elim (fun z : (Int32 × Int32 × rb_St) => rb_WK E k_M_leave d σ0 res 38 [some (va_rf r0), some (.int z.1), some (.int z.2.1), none, none, none] [] z.2.2) (fun r => r = res)) (rb_WK E k_M_leave d σ0 res 107 [some (va_rf r0), none, some (.int x2), some (.int x3), some (.int x4), none] [] σ) := by
  unfold f_M_leave_j107
  refine rb_TC.mono (rk_iload d_M_leave_107 rfl) ?_
  refine rb_TC.mono (rk_istore_n (lv2 := [some (va_rf r0), some (.int x4), some (.int x2), some (.int x3), some (.int x4), none]) 1 d_M_leave_109 rfl (by decide) (fun _ => rb_one_r) rfl) ?_
  refine rb_TC.mono (rk_aload_n 0 d_M_leave_110 rfl rfl) ?_
  refine rt_gR r0 fw_M_117 d_M_leave_111 (fun r_8 => ?_)
  refine rb_TC.mono (rk_aload_n 0 d_M_leave_114 rfl rfl) ?_
  refine rt_gI r0 fw_M_209 d_M_leave_115 (fun x_9 => ?_)
  refine rt_iald r_8 d_M_leave_118 (fun x_10 => ?_)
  refine rb_TC.mono (rk_aload_n 0 d_M_leave_119 rfl rfl) ?_
  refine rt_gR r0 fw_M_114 d_M_leave_120 (fun r_11 => ?_)
  refine rb_TC.mono (rk_aload_n 0 d_M_leave_123 rfl rfl) ?_
  refine rt_gI r0 fw_M_209 d_M_leave_124 (fun x_12 => ?_)
  refine rt_iald r_11 d_M_leave_127 (fun x_13 => ?_)
  refine rb_TC.mono (rk_isub d_M_leave_128) ?_
  refine rb_TC.mono (rk_istore (lv2 := [some (va_rf r0), some (.int x4), some (.int x2), some (.int x3), some (.int x4), some (.int (x_10 - x_13))]) d_M_leave_129 (by decide) (fun _ => rb_one_i) rfl) ?_
  refine rb_TC.mono (rk_iload d_M_leave_131 rfl) ?_
  refine rb_TC.mono (rk_iload_n 3 d_M_leave_133 rfl rfl) ?_
  refine rt_icmp_le 189 d_M_leave_134 (by decide) (fun _ => ?_) (fun _ => ?_)
  · refine rb_TC.mono (rk_goto 38 d_M_leave_189 (by decide)) ?_
    refine rb_TC.mono (rk_less (lv2 := [some (va_rf r0), some (.int x4), some (.int x2), none, none, none]) (rb_le_ok (rb_leS (rb_leS (rb_leS (rb_leN (rb_leN (rb_leN rb_le0)))))))) ?_
    exact rb_back
  · refine rb_TC.mono (rk_aload_n 0 d_M_leave_137 rfl rfl) ?_
    refine rb_TC.mono (rk_iload_n 3 d_M_leave_138 rfl rfl) ?_
    refine rb_TC.mono (rk_iload d_M_leave_139 rfl) ?_
    refine rb_TC.mono (rk_iload d_M_leave_141 rfl) ?_
    refine rt_vI (As := [.int x3, .int x4, .int (x_10 - x_13)]) (st := []) (r0) vw_M_234 (s_M_endsSo (Nat.le_refl _) (r0) (x3) (x4) ((x_10 - x_13)) σ) (Nat.le_trans (by decide) hdd) rfl (by simp [rb_cat_r, rb_cat_i, rb_cat_l]) d_M_leave_143 (fun x_14 σ_15 => ?_)
    refine rt_if_eq 189 d_M_leave_146 (by decide) (fun _ => ?_) (fun _ => ?_)
    · refine rb_TC.mono (rk_goto 38 d_M_leave_189 (by decide)) ?_
      refine rb_TC.mono (rk_less (lv2 := [some (va_rf r0), some (.int x4), some (.int x2), none, none, none]) (rb_le_ok (rb_leS (rb_leS (rb_leS (rb_leN (rb_leN (rb_leN rb_le0)))))))) ?_
      exact rb_back
    · refine rb_TC.mono (rk_iload d_M_leave_149 rfl) ?_
      refine rb_TC.mono (rk_iload d_M_leave_151 rfl) ?_
      refine rb_TC.mono (rk_isub d_M_leave_153) ?_
      refine rb_TC.mono (rk_aload_n 0 d_M_leave_154 rfl rfl) ?_
      refine rt_gR r0 fw_M_120 d_M_leave_155 (fun r_16 => ?_)
      refine rb_TC.mono (rk_aload_n 0 d_M_leave_158 rfl rfl) ?_
      refine rt_gI r0 fw_M_209 d_M_leave_159 (fun x_17 => ?_)
      refine rt_iald r_16 d_M_leave_162 (fun x_18 => ?_)
      refine rb_TC.mono (rk_iadd d_M_leave_163) ?_
      refine rb_TC.mono (rk_aload_n 0 d_M_leave_164 rfl rfl) ?_
      refine rt_gR r0 fw_M_117 d_M_leave_165 (fun r_19 => ?_)
      refine rb_TC.mono (rk_aload_n 0 d_M_leave_168 rfl rfl) ?_
      refine rt_gI r0 fw_M_209 d_M_leave_169 (fun x_20 => ?_)
      refine rt_iald r_19 d_M_leave_172 (fun x_21 => ?_)
      refine rb_TC.mono (rk_isub d_M_leave_173) ?_
      refine rb_TC.mono (rk_iconst (1 : Int32) d_M_leave_174 (by decide)) ?_
      refine rb_TC.mono (rk_isub d_M_leave_175) ?_
      refine rb_TC.mono (rk_istore_n (lv2 := [some (va_rf r0), some (.int ((((x4 - (x_10 - x_13)) + x_18) - x_21) - (1 : Int32))), some (.int x2), some (.int x3), some (.int x4), some (.int (x_10 - x_13))]) 1 d_M_leave_176 rfl (by decide) (fun _ => rb_one_r) rfl) ?_
      refine rb_TC.mono (rk_aload_n 0 d_M_leave_177 rfl rfl) ?_
      refine rb_TC.mono (rk_iload d_M_leave_178 rfl) ?_
      refine rb_TC.mono (rk_iload d_M_leave_180 rfl) ?_
      refine rb_TC.mono (rk_isub d_M_leave_182) ?_
      refine rb_TC.mono (rk_iload d_M_leave_183 rfl) ?_
      refine rt_vI (As := [.int (x4 - (x_10 - x_13)), .int x4]) (st := []) (r0) vw_M_238 (s_M_change (Nat.le_refl _) (r0) ((x4 - (x_10 - x_13))) (x4) σ_15) (Nat.le_trans (by decide) hdd) rfl (by simp [rb_cat_r, rb_cat_i, rb_cat_l]) d_M_leave_185 (fun x_22 σ_23 => ?_)
      refine rb_TC.mono (rk_istore_n (lv2 := [some (va_rf r0), some (.int ((((x4 - (x_10 - x_13)) + x_18) - x_21) - (1 : Int32))), some (.int x_22), some (.int x3), some (.int x4), some (.int (x_10 - x_13))]) 2 d_M_leave_188 rfl (by decide) (fun _ => rb_one_i) rfl) ?_
      refine rb_TC.mono (rk_goto 38 d_M_leave_189 (by decide)) ?_
      refine rb_TC.mono (rk_less (lv2 := [some (va_rf r0), some (.int ((((x4 - (x_10 - x_13)) + x_18) - x_21) - (1 : Int32))), some (.int x_22), none, none, none]) (rb_le_ok (rb_leS (rb_leS (rb_leS (rb_leN (rb_leN (rb_leN rb_le0)))))))) ?_
      exact rb_back
noncomputable def f_M_leave_b80 (r0 : Option Nat) (x2 : Int32) (x3 : Int32) (x4 : Int32) (σ : rb_St) : Option ((Int32) ⊕ ((Int32 × Int32 × rb_St) ⊕ rb_Rs)) :=
  (rb_gI σ r0 13 44).bind fun x_7 => if x_7 ≤ x4 then ((f_M_leave_j107 (r0) (x2) (x3) (x4) σ).map Sum.inr) else ((rb_gR σ r0 13 43).bind fun r_24 => (rb_aI σ r_24 102 x4).bind fun x_25 => if x_25 = (32 : Int32) then ((f_M_leave_j107 (r0) (x2) (x3) (x4) σ).map Sum.inr) else (some (.inl (x4 + 1))))
theorem t_M_leave_b80 {E : rb_EV} {d : Nat} {σ0 : rb_St} {res : rb_Rs} (hdd : 2 ≤ d)  (r0 : Option Nat) (x2 : Int32) (x3 : Int32) (x4 : Int32) (σ : rb_St) : rb_TC (f_M_leave_b80 r0 x2 x3 x4 σ) (Sum.elim (fun z : (Int32) => rb_WK E k_M_leave d σ0 res 80 [some (va_rf r0), none, some (.int x2), some (.int x3), some (.int z), none] [] σ) (Sum.elim (fun z : (Int32 × Int32 × rb_St) => rb_WK E k_M_leave d σ0 res 38 [some (va_rf r0), some (.int z.1), some (.int z.2.1), none, none, none] [] z.2.2) (fun r => r = res))) (rb_WK E k_M_leave d σ0 res 80 [some (va_rf r0), none, some (.int x2), some (.int x3), some (.int x4), none] [] σ) := by
  unfold f_M_leave_b80
  refine rb_TC.mono (rk_iload d_M_leave_80 rfl) ?_
  refine rb_TC.mono (rk_aload_n 0 d_M_leave_82 rfl rfl) ?_
  refine rt_gI r0 fw_M_203 d_M_leave_83 (fun x_7 => ?_)
  refine rt_icmp_ge 107 d_M_leave_86 (by decide) (fun _ => ?_) (fun _ => ?_)
  · refine rb_TC.out ?_
    exact t_M_leave_j107 hdd  (r0) (x2) (x3) (x4) σ
  · refine rb_TC.mono (rk_aload_n 0 d_M_leave_89 rfl rfl) ?_
    refine rt_gR r0 fw_M_93 d_M_leave_90 (fun r_24 => ?_)
    refine rb_TC.mono (rk_iload d_M_leave_93 rfl) ?_
    refine rt_iald r_24 d_M_leave_95 (fun x_25 => ?_)
    refine rb_TC.mono (rk_bipush (32 : Int32) d_M_leave_96 (by decide)) ?_
    refine rt_icmp_eq 107 d_M_leave_98 (by decide) (fun _ => ?_) (fun _ => ?_)
    · refine rb_TC.out ?_
      exact t_M_leave_j107 hdd  (r0) (x2) (x3) (x4) σ
    · refine rb_TC.mono (rk_iinc (lv2 := [some (va_rf r0), none, some (.int x2), some (.int x3), some (.int (x4 + 1)), none]) (x4 + 1) d_M_leave_101 rfl rfl (by decide) (fun _ => rb_one_i) rfl) ?_
      refine rb_TC.mono (rk_goto 80 d_M_leave_104 (by decide)) ?_
      exact rb_back
noncomputable def f_M_leave_j77 (r0 : Option Nat) (x2 : Int32) (x3 : Int32) (σ : rb_St) : Option ((Int32 × Int32 × rb_St) ⊕ rb_Rs) :=
  rb_it (fun z : (Int32) => f_M_leave_b80 (r0) (x2) (x3) (z) σ) x3
theorem t_M_leave_j77 {E : rb_EV} {d : Nat} {σ0 : rb_St} {res : rb_Rs} (hdd : 2 ≤ d)  (r0 : Option Nat) (x2 : Int32) (x3 : Int32) (σ : rb_St) : rb_TC (f_M_leave_j77 r0 x2 x3 σ) (Sum.elim (fun z : (Int32 × Int32 × rb_St) => rb_WK E k_M_leave d σ0 res 38 [some (va_rf r0), some (.int z.1), some (.int z.2.1), none, none, none] [] z.2.2) (fun r => r = res)) (rb_WK E k_M_leave d σ0 res 77 [some (va_rf r0), none, some (.int x2), some (.int x3), none, none] [] σ) := by
  unfold f_M_leave_j77
  refine rb_TC.mono (rk_iload_n 3 d_M_leave_77 rfl rfl) ?_
  refine rb_TC.mono (rk_istore (lv2 := [some (va_rf r0), none, some (.int x2), some (.int x3), some (.int x3), none]) d_M_leave_78 (by decide) (fun _ => rb_one_i) rfl) ?_
  exact rb_TC.loop2 (A := (fun z : (Int32) => rb_WK E k_M_leave d σ0 res 80 [some (va_rf r0), none, some (.int x2), some (.int x3), some (.int z), none] [] σ)) x3 (fun z => t_M_leave_b80 hdd  (r0) (x2) (x3) (z) σ)
noncomputable def f_M_leave_b52 (r0 : Option Nat) (x2 : Int32) (x3 : Int32) (σ : rb_St) : Option ((Int32) ⊕ ((Int32 × Int32 × rb_St) ⊕ rb_Rs)) :=
  (rb_gI σ r0 13 44).bind fun x_6 => if x_6 ≤ x3 then ((f_M_leave_j77 (r0) (x2) (x3) σ).map Sum.inr) else ((rb_gR σ r0 13 43).bind fun r_26 => (rb_aI σ r_26 102 x3).bind fun x_27 => if x_27 = (32 : Int32) then (some (.inl (x3 + 1))) else ((f_M_leave_j77 (r0) (x2) (x3) σ).map Sum.inr))
theorem t_M_leave_b52 {E : rb_EV} {d : Nat} {σ0 : rb_St} {res : rb_Rs} (hdd : 2 ≤ d)  (r0 : Option Nat) (x2 : Int32) (x3 : Int32) (σ : rb_St) : rb_TC (f_M_leave_b52 r0 x2 x3 σ) (Sum.elim (fun z : (Int32) => rb_WK E k_M_leave d σ0 res 52 [some (va_rf r0), none, some (.int x2), some (.int z), none, none] [] σ) (Sum.elim (fun z : (Int32 × Int32 × rb_St) => rb_WK E k_M_leave d σ0 res 38 [some (va_rf r0), some (.int z.1), some (.int z.2.1), none, none, none] [] z.2.2) (fun r => r = res))) (rb_WK E k_M_leave d σ0 res 52 [some (va_rf r0), none, some (.int x2), some (.int x3), none, none] [] σ) := by
  unfold f_M_leave_b52
  refine rb_TC.mono (rk_iload_n 3 d_M_leave_52 rfl rfl) ?_
  refine rb_TC.mono (rk_aload_n 0 d_M_leave_53 rfl rfl) ?_
  refine rt_gI r0 fw_M_203 d_M_leave_54 (fun x_6 => ?_)
  refine rt_icmp_ge 77 d_M_leave_57 (by decide) (fun _ => ?_) (fun _ => ?_)
  · refine rb_TC.out ?_
    exact t_M_leave_j77 hdd  (r0) (x2) (x3) σ
  · refine rb_TC.mono (rk_aload_n 0 d_M_leave_60 rfl rfl) ?_
    refine rt_gR r0 fw_M_93 d_M_leave_61 (fun r_26 => ?_)
    refine rb_TC.mono (rk_iload_n 3 d_M_leave_64 rfl rfl) ?_
    refine rt_iald r_26 d_M_leave_65 (fun x_27 => ?_)
    refine rb_TC.mono (rk_bipush (32 : Int32) d_M_leave_66 (by decide)) ?_
    refine rt_icmp_ne 77 d_M_leave_68 (by decide) (fun _ => ?_) (fun _ => ?_)
    · refine rb_TC.mono (rk_iinc (lv2 := [some (va_rf r0), none, some (.int x2), some (.int (x3 + 1)), none, none]) (x3 + 1) d_M_leave_71 rfl rfl (by decide) (fun _ => rb_one_i) rfl) ?_
      refine rb_TC.mono (rk_goto 52 d_M_leave_74 (by decide)) ?_
      exact rb_back
    · refine rb_TC.out ?_
      exact t_M_leave_j77 hdd  (r0) (x2) (x3) σ
noncomputable def f_M_leave_b38 (r0 : Option Nat) (x1 : Int32) (x2 : Int32) (σ : rb_St) : Option ((Int32 × Int32 × rb_St) ⊕ rb_Rs) :=
  if x2 = 0 then ((f_M_leave_j192 (r0) (x2) σ).map Sum.inr) else ((rb_gI σ r0 13 44).bind fun x_5 => if x_5 ≤ x1 then ((f_M_leave_j192 (r0) (x2) σ).map Sum.inr) else (rb_it (fun z : (Int32) => f_M_leave_b52 (r0) (x2) (z) σ) x1))
theorem t_M_leave_b38 {E : rb_EV} {d : Nat} {σ0 : rb_St} {res : rb_Rs} (hdd : 2 ≤ d)  (r0 : Option Nat) (x1 : Int32) (x2 : Int32) (σ : rb_St) : rb_TC (f_M_leave_b38 r0 x1 x2 σ) (Sum.elim (fun z : (Int32 × Int32 × rb_St) => rb_WK E k_M_leave d σ0 res 38 [some (va_rf r0), some (.int z.1), some (.int z.2.1), none, none, none] [] z.2.2) (fun r => r = res)) (rb_WK E k_M_leave d σ0 res 38 [some (va_rf r0), some (.int x1), some (.int x2), none, none, none] [] σ) := by
  unfold f_M_leave_b38
  refine rb_TC.mono (rk_iload_n 2 d_M_leave_38 rfl rfl) ?_
  refine rt_if_eq 192 d_M_leave_39 (by decide) (fun _ => ?_) (fun _ => ?_)
  · refine rb_TC.out ?_
    refine rb_TC.mono (rk_less (lv2 := [some (va_rf r0), none, some (.int x2), none, none, none]) (rb_le_ok (rb_leS (rb_leN (rb_leS (rb_leN (rb_leN (rb_leN rb_le0)))))))) ?_
    exact t_M_leave_j192 hdd  (r0) (x2) σ
  · refine rb_TC.mono (rk_iload_n 1 d_M_leave_42 rfl rfl) ?_
    refine rb_TC.mono (rk_aload_n 0 d_M_leave_43 rfl rfl) ?_
    refine rt_gI r0 fw_M_203 d_M_leave_44 (fun x_5 => ?_)
    refine rt_icmp_ge 192 d_M_leave_47 (by decide) (fun _ => ?_) (fun _ => ?_)
    · refine rb_TC.out ?_
      refine rb_TC.mono (rk_less (lv2 := [some (va_rf r0), none, some (.int x2), none, none, none]) (rb_le_ok (rb_leS (rb_leN (rb_leS (rb_leN (rb_leN (rb_leN rb_le0)))))))) ?_
      exact t_M_leave_j192 hdd  (r0) (x2) σ
    · refine rb_TC.mono (rk_iload_n 1 d_M_leave_50 rfl rfl) ?_
      refine rb_TC.mono (rk_istore_n (lv2 := [some (va_rf r0), some (.int x1), some (.int x2), some (.int x1), none, none]) 3 d_M_leave_51 rfl (by decide) (fun _ => rb_one_i) rfl) ?_
      refine rb_TC.mono (rk_less (lv2 := [some (va_rf r0), none, some (.int x2), some (.int x1), none, none]) (rb_le_ok (rb_leS (rb_leN (rb_leS (rb_leS (rb_leN (rb_leN rb_le0)))))))) ?_
      exact rb_TC.loop2 (A := (fun z : (Int32) => rb_WK E k_M_leave d σ0 res 52 [some (va_rf r0), none, some (.int x2), some (.int z), none, none] [] σ)) x1 (fun z => t_M_leave_b52 hdd  (r0) (x2) (z) σ)
noncomputable def f_M_leave (r0 : Option Nat) (σ : rb_St) : Option rb_Rs :=
  (rb_gI σ r0 13 48).bind fun x_1 => if x_1 ≤ 0 then ((rb_gI σ r0 13 44).bind fun x_2 => rb_it (fun z : (Int32 × Int32 × rb_St) => f_M_leave_b38 (r0) (z.1) (z.2.1) z.2.2) (x_2, (1 : Int32), σ)) else ((rb_gR σ r0 13 53).bind fun r_28 => (rb_gI σ r0 13 48).bind fun x_29 => (rb_aI σ r_28 102 x_29).bind fun x_30 => if x_30 < 0 then ((rb_gI σ r0 13 44).bind fun x_31 => rb_it (fun z : (Int32 × Int32 × rb_St) => f_M_leave_b38 (r0) (z.1) (z.2.1) z.2.2) (x_31, (1 : Int32), σ)) else ((rb_gR σ r0 13 52).bind fun r_32 => (rb_gI σ r0 13 48).bind fun x_33 => (rb_aI σ r_32 102 x_33).bind fun x_34 => rb_it (fun z : (Int32 × Int32 × rb_St) => f_M_leave_b38 (r0) (z.1) (z.2.1) z.2.2) (x_34, (1 : Int32), σ)))
theorem s_M_leave {E : rb_EV} {d : Nat} (hdd : 2 ≤ d) (r0 : Option Nat) (σ : rb_St) : rb_Does E k_M_leave d [va_rf r0] σ (f_M_leave r0 σ) := by
  refine rb_start (lv := [some (va_rf r0), none, none, none, none, none]) (by decide) (by simp [lg_sl, rb_as, lv_args, rb_cat_r, rb_cat_i, rb_cat_l, rb_nL, k_M_leave]) (fun res => ?_)
  unfold f_M_leave
  refine rb_TC.mono (rk_aload_n 0 d_M_leave_0 rfl rfl) ?_
  refine rt_gI r0 fw_M_209 d_M_leave_1 (fun x_1 => ?_)
  refine rt_if_le 31 d_M_leave_4 (by decide) (fun _ => ?_) (fun _ => ?_)
  · refine rb_TC.mono (rk_aload_n 0 d_M_leave_31 rfl rfl) ?_
    refine rt_gI r0 fw_M_203 d_M_leave_32 (fun x_2 => ?_)
    refine rb_TC.mono (rk_istore_n (lv2 := [some (va_rf r0), some (.int x_2), none, none, none, none]) 1 d_M_leave_35 rfl (by decide) (fun _ => rb_one_r) rfl) ?_
    refine rb_TC.mono (rk_iconst (1 : Int32) d_M_leave_36 (by decide)) ?_
    refine rb_TC.mono (rk_istore_n (lv2 := [some (va_rf r0), some (.int x_2), some (.int (1 : Int32)), none, none, none]) 2 d_M_leave_37 rfl (by decide) (fun _ => rb_one_i) rfl) ?_
    exact rb_TC.loop2 (A := (fun z : (Int32 × Int32 × rb_St) => rb_WK E k_M_leave d σ res 38 [some (va_rf r0), some (.int z.1), some (.int z.2.1), none, none, none] [] z.2.2)) (x_2, (1 : Int32), σ) (fun z => t_M_leave_b38 hdd  (r0) (z.1) (z.2.1) z.2.2)
  · refine rb_TC.mono (rk_aload_n 0 d_M_leave_7 rfl rfl) ?_
    refine rt_gR r0 fw_M_114 d_M_leave_8 (fun r_28 => ?_)
    refine rb_TC.mono (rk_aload_n 0 d_M_leave_11 rfl rfl) ?_
    refine rt_gI r0 fw_M_209 d_M_leave_12 (fun x_29 => ?_)
    refine rt_iald r_28 d_M_leave_15 (fun x_30 => ?_)
    refine rt_if_lt 31 d_M_leave_16 (by decide) (fun _ => ?_) (fun _ => ?_)
    · refine rb_TC.mono (rk_aload_n 0 d_M_leave_31 rfl rfl) ?_
      refine rt_gI r0 fw_M_203 d_M_leave_32 (fun x_31 => ?_)
      refine rb_TC.mono (rk_istore_n (lv2 := [some (va_rf r0), some (.int x_31), none, none, none, none]) 1 d_M_leave_35 rfl (by decide) (fun _ => rb_one_r) rfl) ?_
      refine rb_TC.mono (rk_iconst (1 : Int32) d_M_leave_36 (by decide)) ?_
      refine rb_TC.mono (rk_istore_n (lv2 := [some (va_rf r0), some (.int x_31), some (.int (1 : Int32)), none, none, none]) 2 d_M_leave_37 rfl (by decide) (fun _ => rb_one_i) rfl) ?_
      exact rb_TC.loop2 (A := (fun z : (Int32 × Int32 × rb_St) => rb_WK E k_M_leave d σ res 38 [some (va_rf r0), some (.int z.1), some (.int z.2.1), none, none, none] [] z.2.2)) (x_31, (1 : Int32), σ) (fun z => t_M_leave_b38 hdd  (r0) (z.1) (z.2.1) z.2.2)
    · refine rb_TC.mono (rk_aload_n 0 d_M_leave_19 rfl rfl) ?_
      refine rt_gR r0 fw_M_111 d_M_leave_20 (fun r_32 => ?_)
      refine rb_TC.mono (rk_aload_n 0 d_M_leave_23 rfl rfl) ?_
      refine rt_gI r0 fw_M_209 d_M_leave_24 (fun x_33 => ?_)
      refine rt_iald r_32 d_M_leave_27 (fun x_34 => ?_)
      refine rb_TC.mono (rk_goto 35 d_M_leave_28 (by decide)) ?_
      refine rb_TC.mono (rk_istore_n (lv2 := [some (va_rf r0), some (.int x_34), none, none, none, none]) 1 d_M_leave_35 rfl (by decide) (fun _ => rb_one_r) rfl) ?_
      refine rb_TC.mono (rk_iconst (1 : Int32) d_M_leave_36 (by decide)) ?_
      refine rb_TC.mono (rk_istore_n (lv2 := [some (va_rf r0), some (.int x_34), some (.int (1 : Int32)), none, none, none]) 2 d_M_leave_37 rfl (by decide) (fun _ => rb_one_i) rfl) ?_
      exact rb_TC.loop2 (A := (fun z : (Int32 × Int32 × rb_St) => rb_WK E k_M_leave d σ res 38 [some (va_rf r0), some (.int z.1), some (.int z.2.1), none, none, none] [] z.2.2)) (x_34, (1 : Int32), σ) (fun z => t_M_leave_b38 hdd  (r0) (z.1) (z.2.1) z.2.2)
-- ===== RuleBuilderModel.enter(IIII)Z
def k_M_enter : rb_MK := (⟨"RuleBuilderModel", "enter", "(IIII)Z"⟩, prog_14_method_21_code, 5, some (.boolean))
theorem mw_M_enter : rb_Mw k_M_enter 4 := ⟨rb_inG 1544 (by decide +kernel) rfl, rb_inG 94 (by decide +kernel) rfl, ⟨by decide, by decide, by decide +kernel⟩, by decide⟩
theorem fp_M_enter_209 : rb_Fp k_M_enter 209 13 48 .int := ⟨fw_M_209, rfl, fun q h => by cases h; exact Or.inl rfl⟩
theorem d_M_enter_0 : decode prog_14_method_21_code 0 = .ok (.aload_n 0, 1) := by decide +kernel
theorem d_M_enter_1 : decode prog_14_method_21_code 1 = .ok (.getfield 209, 3) := by decide +kernel
theorem d_M_enter_4 : decode prog_14_method_21_code 4 = .ok (.bipush 6, 2) := by decide +kernel
theorem d_M_enter_6 : decode prog_14_method_21_code 6 = .ok (.if_icmp .ne 5, 3) := by decide +kernel
theorem d_M_enter_9 : decode prog_14_method_21_code 9 = .ok (.iconst 0, 1) := by decide +kernel
theorem d_M_enter_10 : decode prog_14_method_21_code 10 = .ok (.ireturn, 1) := by decide +kernel
theorem d_M_enter_11 : decode prog_14_method_21_code 11 = .ok (.aload_n 0, 1) := by decide +kernel
theorem d_M_enter_12 : decode prog_14_method_21_code 12 = .ok (.dup, 1) := by decide +kernel
theorem d_M_enter_13 : decode prog_14_method_21_code 13 = .ok (.getfield 209, 3) := by decide +kernel
theorem d_M_enter_16 : decode prog_14_method_21_code 16 = .ok (.iconst 1, 1) := by decide +kernel
theorem d_M_enter_17 : decode prog_14_method_21_code 17 = .ok (.iadd, 1) := by decide +kernel
theorem d_M_enter_18 : decode prog_14_method_21_code 18 = .ok (.putfield 209, 3) := by decide +kernel
theorem d_M_enter_21 : decode prog_14_method_21_code 21 = .ok (.aload_n 0, 1) := by decide +kernel
theorem d_M_enter_22 : decode prog_14_method_21_code 22 = .ok (.getfield 102, 3) := by decide +kernel
theorem d_M_enter_25 : decode prog_14_method_21_code 25 = .ok (.aload_n 0, 1) := by decide +kernel
theorem d_M_enter_26 : decode prog_14_method_21_code 26 = .ok (.getfield 209, 3) := by decide +kernel
theorem d_M_enter_29 : decode prog_14_method_21_code 29 = .ok (.aload_n 0, 1) := by decide +kernel
theorem d_M_enter_30 : decode prog_14_method_21_code 30 = .ok (.getfield 27, 3) := by decide +kernel
theorem d_M_enter_33 : decode prog_14_method_21_code 33 = .ok (.iload_n 1, 1) := by decide +kernel
theorem d_M_enter_34 : decode prog_14_method_21_code 34 = .ok (.baload, 1) := by decide +kernel
theorem d_M_enter_35 : decode prog_14_method_21_code 35 = .ok (.ifCond .eq 7, 3) := by decide +kernel
theorem d_M_enter_38 : decode prog_14_method_21_code 38 = .ok (.iload_n 1, 1) := by decide +kernel
theorem d_M_enter_39 : decode prog_14_method_21_code 39 = .ok (.goto 4, 3) := by decide +kernel
theorem d_M_enter_42 : decode prog_14_method_21_code 42 = .ok (.iconst (-1), 1) := by decide +kernel
theorem d_M_enter_43 : decode prog_14_method_21_code 43 = .ok (.iastore, 1) := by decide +kernel
theorem d_M_enter_44 : decode prog_14_method_21_code 44 = .ok (.aload_n 0, 1) := by decide +kernel
theorem d_M_enter_45 : decode prog_14_method_21_code 45 = .ok (.getfield 105, 3) := by decide +kernel
theorem d_M_enter_48 : decode prog_14_method_21_code 48 = .ok (.aload_n 0, 1) := by decide +kernel
theorem d_M_enter_49 : decode prog_14_method_21_code 49 = .ok (.getfield 209, 3) := by decide +kernel
theorem d_M_enter_52 : decode prog_14_method_21_code 52 = .ok (.aload_n 0, 1) := by decide +kernel
theorem d_M_enter_53 : decode prog_14_method_21_code 53 = .ok (.getfield 27, 3) := by decide +kernel
theorem d_M_enter_56 : decode prog_14_method_21_code 56 = .ok (.iload_n 1, 1) := by decide +kernel
theorem d_M_enter_57 : decode prog_14_method_21_code 57 = .ok (.baload, 1) := by decide +kernel
theorem d_M_enter_58 : decode prog_14_method_21_code 58 = .ok (.ifCond .eq 7, 3) := by decide +kernel
theorem d_M_enter_61 : decode prog_14_method_21_code 61 = .ok (.iconst 0, 1) := by decide +kernel
theorem d_M_enter_62 : decode prog_14_method_21_code 62 = .ok (.goto 22, 3) := by decide +kernel
theorem d_M_enter_65 : decode prog_14_method_21_code 65 = .ok (.aload_n 0, 1) := by decide +kernel
theorem d_M_enter_66 : decode prog_14_method_21_code 66 = .ok (.getfield 36, 3) := by decide +kernel
theorem d_M_enter_69 : decode prog_14_method_21_code 69 = .ok (.iload_n 1, 1) := by decide +kernel
theorem d_M_enter_70 : decode prog_14_method_21_code 70 = .ok (.baload, 1) := by decide +kernel
theorem d_M_enter_71 : decode prog_14_method_21_code 71 = .ok (.ifCond .eq 12, 3) := by decide +kernel
theorem d_M_enter_74 : decode prog_14_method_21_code 74 = .ok (.aload_n 0, 1) := by decide +kernel
theorem d_M_enter_75 : decode prog_14_method_21_code 75 = .ok (.getfield 39, 3) := by decide +kernel
theorem d_M_enter_78 : decode prog_14_method_21_code 78 = .ok (.iload_n 1, 1) := by decide +kernel
theorem d_M_enter_79 : decode prog_14_method_21_code 79 = .ok (.iaload, 1) := by decide +kernel
theorem d_M_enter_80 : decode prog_14_method_21_code 80 = .ok (.goto 4, 3) := by decide +kernel
theorem d_M_enter_83 : decode prog_14_method_21_code 83 = .ok (.iconst 0, 1) := by decide +kernel
theorem d_M_enter_84 : decode prog_14_method_21_code 84 = .ok (.iastore, 1) := by decide +kernel
theorem d_M_enter_85 : decode prog_14_method_21_code 85 = .ok (.aload_n 0, 1) := by decide +kernel
theorem d_M_enter_86 : decode prog_14_method_21_code 86 = .ok (.getfield 108, 3) := by decide +kernel
theorem d_M_enter_89 : decode prog_14_method_21_code 89 = .ok (.aload_n 0, 1) := by decide +kernel
theorem d_M_enter_90 : decode prog_14_method_21_code 90 = .ok (.getfield 209, 3) := by decide +kernel
theorem d_M_enter_93 : decode prog_14_method_21_code 93 = .ok (.aload_n 0, 1) := by decide +kernel
theorem d_M_enter_94 : decode prog_14_method_21_code 94 = .ok (.getfield 27, 3) := by decide +kernel
theorem d_M_enter_97 : decode prog_14_method_21_code 97 = .ok (.iload_n 1, 1) := by decide +kernel
theorem d_M_enter_98 : decode prog_14_method_21_code 98 = .ok (.baload, 1) := by decide +kernel
theorem d_M_enter_99 : decode prog_14_method_21_code 99 = .ok (.ifCond .eq 12, 3) := by decide +kernel
theorem d_M_enter_102 : decode prog_14_method_21_code 102 = .ok (.aload_n 0, 1) := by decide +kernel
theorem d_M_enter_103 : decode prog_14_method_21_code 103 = .ok (.getfield 33, 3) := by decide +kernel
theorem d_M_enter_106 : decode prog_14_method_21_code 106 = .ok (.iload_n 1, 1) := by decide +kernel
theorem d_M_enter_107 : decode prog_14_method_21_code 107 = .ok (.iaload, 1) := by decide +kernel
theorem d_M_enter_108 : decode prog_14_method_21_code 108 = .ok (.goto 22, 3) := by decide +kernel
theorem d_M_enter_111 : decode prog_14_method_21_code 111 = .ok (.aload_n 0, 1) := by decide +kernel
theorem d_M_enter_112 : decode prog_14_method_21_code 112 = .ok (.getfield 36, 3) := by decide +kernel
theorem d_M_enter_115 : decode prog_14_method_21_code 115 = .ok (.iload_n 1, 1) := by decide +kernel
theorem d_M_enter_116 : decode prog_14_method_21_code 116 = .ok (.baload, 1) := by decide +kernel
theorem d_M_enter_117 : decode prog_14_method_21_code 117 = .ok (.ifCond .eq 12, 3) := by decide +kernel
theorem d_M_enter_120 : decode prog_14_method_21_code 120 = .ok (.aload_n 0, 1) := by decide +kernel
theorem d_M_enter_121 : decode prog_14_method_21_code 121 = .ok (.getfield 42, 3) := by decide +kernel
theorem d_M_enter_124 : decode prog_14_method_21_code 124 = .ok (.iload_n 1, 1) := by decide +kernel
theorem d_M_enter_125 : decode prog_14_method_21_code 125 = .ok (.iaload, 1) := by decide +kernel
theorem d_M_enter_126 : decode prog_14_method_21_code 126 = .ok (.goto 4, 3) := by decide +kernel
theorem d_M_enter_129 : decode prog_14_method_21_code 129 = .ok (.iconst 0, 1) := by decide +kernel
theorem d_M_enter_130 : decode prog_14_method_21_code 130 = .ok (.iastore, 1) := by decide +kernel
theorem d_M_enter_131 : decode prog_14_method_21_code 131 = .ok (.aload_n 0, 1) := by decide +kernel
theorem d_M_enter_132 : decode prog_14_method_21_code 132 = .ok (.getfield 111, 3) := by decide +kernel
theorem d_M_enter_135 : decode prog_14_method_21_code 135 = .ok (.aload_n 0, 1) := by decide +kernel
theorem d_M_enter_136 : decode prog_14_method_21_code 136 = .ok (.getfield 209, 3) := by decide +kernel
theorem d_M_enter_139 : decode prog_14_method_21_code 139 = .ok (.aload_n 0, 1) := by decide +kernel
theorem d_M_enter_140 : decode prog_14_method_21_code 140 = .ok (.getfield 203, 3) := by decide +kernel
theorem d_M_enter_143 : decode prog_14_method_21_code 143 = .ok (.iastore, 1) := by decide +kernel
theorem d_M_enter_144 : decode prog_14_method_21_code 144 = .ok (.aload_n 0, 1) := by decide +kernel
theorem d_M_enter_145 : decode prog_14_method_21_code 145 = .ok (.getfield 114, 3) := by decide +kernel
theorem d_M_enter_148 : decode prog_14_method_21_code 148 = .ok (.aload_n 0, 1) := by decide +kernel
theorem d_M_enter_149 : decode prog_14_method_21_code 149 = .ok (.getfield 209, 3) := by decide +kernel
theorem d_M_enter_152 : decode prog_14_method_21_code 152 = .ok (.iload_n 2, 1) := by decide +kernel
theorem d_M_enter_153 : decode prog_14_method_21_code 153 = .ok (.iastore, 1) := by decide +kernel
theorem d_M_enter_154 : decode prog_14_method_21_code 154 = .ok (.aload_n 0, 1) := by decide +kernel
theorem d_M_enter_155 : decode prog_14_method_21_code 155 = .ok (.getfield 117, 3) := by decide +kernel
theorem d_M_enter_158 : decode prog_14_method_21_code 158 = .ok (.aload_n 0, 1) := by decide +kernel
theorem d_M_enter_159 : decode prog_14_method_21_code 159 = .ok (.getfield 209, 3) := by decide +kernel
theorem d_M_enter_162 : decode prog_14_method_21_code 162 = .ok (.iload_n 3, 1) := by decide +kernel
theorem d_M_enter_163 : decode prog_14_method_21_code 163 = .ok (.iastore, 1) := by decide +kernel
theorem d_M_enter_164 : decode prog_14_method_21_code 164 = .ok (.aload_n 0, 1) := by decide +kernel
theorem d_M_enter_165 : decode prog_14_method_21_code 165 = .ok (.getfield 120, 3) := by decide +kernel
theorem d_M_enter_168 : decode prog_14_method_21_code 168 = .ok (.aload_n 0, 1) := by decide +kernel
theorem d_M_enter_169 : decode prog_14_method_21_code 169 = .ok (.getfield 209, 3) := by decide +kernel
theorem d_M_enter_172 : decode prog_14_method_21_code 172 = .ok (.iload 4, 2) := by decide +kernel
theorem d_M_enter_174 : decode prog_14_method_21_code 174 = .ok (.iastore, 1) := by decide +kernel
theorem d_M_enter_175 : decode prog_14_method_21_code 175 = .ok (.iconst 1, 1) := by decide +kernel
theorem d_M_enter_176 : decode prog_14_method_21_code 176 = .ok (.ireturn, 1) := by decide +kernel
noncomputable def f_M_enter_j130 (r0 : Option Nat) (x2 : Int32) (x3 : Int32) (x4 : Int32) (sx0 : Int32) (sx1 : Int32) (sr2 : Option Nat) (σ : rb_St) : Option rb_Rs :=
  (rb_sI σ sr2 102 sx1 sx0).bind fun σ_22 => (rb_gR σ_22 r0 13 52).bind fun r_23 => (rb_gI σ_22 r0 13 48).bind fun x_24 => (rb_gI σ_22 r0 13 44).bind fun x_25 => (rb_sI σ_22 r_23 102 x_24 x_25).bind fun σ_26 => (rb_gR σ_26 r0 13 53).bind fun r_27 => (rb_gI σ_26 r0 13 48).bind fun x_28 => (rb_sI σ_26 r_27 102 x_28 x2).bind fun σ_29 => (rb_gR σ_29 r0 13 54).bind fun r_30 => (rb_gI σ_29 r0 13 48).bind fun x_31 => (rb_sI σ_29 r_30 102 x_31 x3).bind fun σ_32 => (rb_gR σ_32 r0 13 55).bind fun r_33 => (rb_gI σ_32 r0 13 48).bind fun x_34 => (rb_sI σ_32 r_33 102 x_34 x4).bind fun σ_35 => some (some (.int (1 : Int32)), σ_35)
theorem t_M_enter_j130 {E : rb_EV} {d : Nat} {σ0 : rb_St} {res : rb_Rs} (hdd : 0 ≤ d)  (r0 : Option Nat) (x2 : Int32) (x3 : Int32) (x4 : Int32) (sx0 : Int32) (sx1 : Int32) (sr2 : Option Nat) (σ : rb_St) : rb_TC (f_M_enter_j130 r0 x2 x3 x4 sx0 sx1 sr2 σ) (fun r => r = res) (rb_WK E k_M_enter d σ0 res 130 [some (va_rf r0), none, some (.int x2), some (.int x3), some (.int x4)] [.int sx0, .int sx1, va_rf sr2] σ) := by
  unfold f_M_enter_j130
  refine rt_iast sr2 d_M_enter_130 (fun σ_22 => ?_)
  refine rb_TC.mono (rk_aload_n 0 d_M_enter_131 rfl rfl) ?_
  refine rt_gR r0 fw_M_111 d_M_enter_132 (fun r_23 => ?_)
  refine rb_TC.mono (rk_aload_n 0 d_M_enter_135 rfl rfl) ?_
  refine rt_gI r0 fw_M_209 d_M_enter_136 (fun x_24 => ?_)
  refine rb_TC.mono (rk_aload_n 0 d_M_enter_139 rfl rfl) ?_
  refine rt_gI r0 fw_M_203 d_M_enter_140 (fun x_25 => ?_)
  refine rt_iast r_23 d_M_enter_143 (fun σ_26 => ?_)
  refine rb_TC.mono (rk_aload_n 0 d_M_enter_144 rfl rfl) ?_
  refine rt_gR r0 fw_M_114 d_M_enter_145 (fun r_27 => ?_)
  refine rb_TC.mono (rk_aload_n 0 d_M_enter_148 rfl rfl) ?_
  refine rt_gI r0 fw_M_209 d_M_enter_149 (fun x_28 => ?_)
  refine rb_TC.mono (rk_iload_n 2 d_M_enter_152 rfl rfl) ?_
  refine rt_iast r_27 d_M_enter_153 (fun σ_29 => ?_)
  refine rb_TC.mono (rk_aload_n 0 d_M_enter_154 rfl rfl) ?_
  refine rt_gR r0 fw_M_117 d_M_enter_155 (fun r_30 => ?_)
  refine rb_TC.mono (rk_aload_n 0 d_M_enter_158 rfl rfl) ?_
  refine rt_gI r0 fw_M_209 d_M_enter_159 (fun x_31 => ?_)
  refine rb_TC.mono (rk_iload_n 3 d_M_enter_162 rfl rfl) ?_
  refine rt_iast r_30 d_M_enter_163 (fun σ_32 => ?_)
  refine rb_TC.mono (rk_aload_n 0 d_M_enter_164 rfl rfl) ?_
  refine rt_gR r0 fw_M_120 d_M_enter_165 (fun r_33 => ?_)
  refine rb_TC.mono (rk_aload_n 0 d_M_enter_168 rfl rfl) ?_
  refine rt_gI r0 fw_M_209 d_M_enter_169 (fun x_34 => ?_)
  refine rb_TC.mono (rk_iload d_M_enter_172 rfl) ?_
  refine rt_iast r_33 d_M_enter_174 (fun σ_35 => ?_)
  refine rb_TC.mono (rk_iconst (1 : Int32) d_M_enter_175 (by decide)) ?_
  exact rt_iret (ty := .boolean) rfl (by decide) (fun h => h) d_M_enter_176
noncomputable def f_M_enter_j84 (r0 : Option Nat) (x1 : Int32) (x2 : Int32) (x3 : Int32) (x4 : Int32) (sx0 : Int32) (sx1 : Int32) (sr2 : Option Nat) (σ : rb_St) : Option rb_Rs :=
  (rb_sI σ sr2 102 sx1 sx0).bind fun σ_15 => (rb_gR σ_15 r0 13 51).bind fun r_16 => (rb_gI σ_15 r0 13 48).bind fun x_17 => (rb_gR σ_15 r0 13 8).bind fun r_18 => (rb_aI σ_15 r_18 104 x1).bind fun x_19 => if x_19 = 0 then ((rb_gR σ_15 r0 13 11).bind fun r_20 => (rb_aI σ_15 r_20 104 x1).bind fun x_21 => if x_21 = 0 then (f_M_enter_j130 (r0) (x2) (x3) (x4) ((0 : Int32)) (x_17) (r_16) σ_15) else ((rb_gR σ_15 r0 13 13).bind fun r_36 => (rb_aI σ_15 r_36 102 x1).bind fun x_37 => f_M_enter_j130 (r0) (x2) (x3) (x4) (x_37) (x_17) (r_16) σ_15)) else ((rb_gR σ_15 r0 13 10).bind fun r_38 => (rb_aI σ_15 r_38 102 x1).bind fun x_39 => f_M_enter_j130 (r0) (x2) (x3) (x4) (x_39) (x_17) (r_16) σ_15)
theorem t_M_enter_j84 {E : rb_EV} {d : Nat} {σ0 : rb_St} {res : rb_Rs} (hdd : 0 ≤ d)  (r0 : Option Nat) (x1 : Int32) (x2 : Int32) (x3 : Int32) (x4 : Int32) (sx0 : Int32) (sx1 : Int32) (sr2 : Option Nat) (σ : rb_St) : rb_TC (f_M_enter_j84 r0 x1 x2 x3 x4 sx0 sx1 sr2 σ) (fun r => r = res) (rb_WK E k_M_enter d σ0 res 84 [some (va_rf r0), some (.int x1), some (.int x2), some (.int x3), some (.int x4)] [.int sx0, .int sx1, va_rf sr2] σ) := by
  unfold f_M_enter_j84
  refine rt_iast sr2 d_M_enter_84 (fun σ_15 => ?_)
  refine rb_TC.mono (rk_aload_n 0 d_M_enter_85 rfl rfl) ?_
  refine rt_gR r0 fw_M_108 d_M_enter_86 (fun r_16 => ?_)
  refine rb_TC.mono (rk_aload_n 0 d_M_enter_89 rfl rfl) ?_
  refine rt_gI r0 fw_M_209 d_M_enter_90 (fun x_17 => ?_)
  refine rb_TC.mono (rk_aload_n 0 d_M_enter_93 rfl rfl) ?_
  refine rt_gR r0 fw_M_27 d_M_enter_94 (fun r_18 => ?_)
  refine rb_TC.mono (rk_iload_n 1 d_M_enter_97 rfl rfl) ?_
  refine rt_zald r_18 d_M_enter_98 (fun x_19 => ?_)
  refine rt_if_eq 111 d_M_enter_99 (by decide) (fun _ => ?_) (fun _ => ?_)
  · refine rb_TC.mono (rk_aload_n 0 d_M_enter_111 rfl rfl) ?_
    refine rt_gR r0 fw_M_36 d_M_enter_112 (fun r_20 => ?_)
    refine rb_TC.mono (rk_iload_n 1 d_M_enter_115 rfl rfl) ?_
    refine rt_zald r_20 d_M_enter_116 (fun x_21 => ?_)
    refine rt_if_eq 129 d_M_enter_117 (by decide) (fun _ => ?_) (fun _ => ?_)
    · refine rb_TC.mono (rk_iconst (0 : Int32) d_M_enter_129 (by decide)) ?_
      refine rb_TC.mono (rk_less (lv2 := [some (va_rf r0), none, some (.int x2), some (.int x3), some (.int x4)]) (rb_le_ok (rb_leS (rb_leN (rb_leS (rb_leS (rb_leS rb_le0))))))) ?_
      exact t_M_enter_j130 hdd  (r0) (x2) (x3) (x4) ((0 : Int32)) (x_17) (r_16) σ_15
    · refine rb_TC.mono (rk_aload_n 0 d_M_enter_120 rfl rfl) ?_
      refine rt_gR r0 fw_M_42 d_M_enter_121 (fun r_36 => ?_)
      refine rb_TC.mono (rk_iload_n 1 d_M_enter_124 rfl rfl) ?_
      refine rt_iald r_36 d_M_enter_125 (fun x_37 => ?_)
      refine rb_TC.mono (rk_goto 130 d_M_enter_126 (by decide)) ?_
      refine rb_TC.mono (rk_less (lv2 := [some (va_rf r0), none, some (.int x2), some (.int x3), some (.int x4)]) (rb_le_ok (rb_leS (rb_leN (rb_leS (rb_leS (rb_leS rb_le0))))))) ?_
      exact t_M_enter_j130 hdd  (r0) (x2) (x3) (x4) (x_37) (x_17) (r_16) σ_15
  · refine rb_TC.mono (rk_aload_n 0 d_M_enter_102 rfl rfl) ?_
    refine rt_gR r0 fw_M_33 d_M_enter_103 (fun r_38 => ?_)
    refine rb_TC.mono (rk_iload_n 1 d_M_enter_106 rfl rfl) ?_
    refine rt_iald r_38 d_M_enter_107 (fun x_39 => ?_)
    refine rb_TC.mono (rk_goto 130 d_M_enter_108 (by decide)) ?_
    refine rb_TC.mono (rk_less (lv2 := [some (va_rf r0), none, some (.int x2), some (.int x3), some (.int x4)]) (rb_le_ok (rb_leS (rb_leN (rb_leS (rb_leS (rb_leS rb_le0))))))) ?_
    exact t_M_enter_j130 hdd  (r0) (x2) (x3) (x4) (x_39) (x_17) (r_16) σ_15
noncomputable def f_M_enter_j43 (r0 : Option Nat) (x1 : Int32) (x2 : Int32) (x3 : Int32) (x4 : Int32) (sx0 : Int32) (sx1 : Int32) (sr2 : Option Nat) (σ : rb_St) : Option rb_Rs :=
  (rb_sI σ sr2 102 sx1 sx0).bind fun σ_8 => (rb_gR σ_8 r0 13 50).bind fun r_9 => (rb_gI σ_8 r0 13 48).bind fun x_10 => (rb_gR σ_8 r0 13 8).bind fun r_11 => (rb_aI σ_8 r_11 104 x1).bind fun x_12 => if x_12 = 0 then ((rb_gR σ_8 r0 13 11).bind fun r_13 => (rb_aI σ_8 r_13 104 x1).bind fun x_14 => if x_14 = 0 then (f_M_enter_j84 (r0) (x1) (x2) (x3) (x4) ((0 : Int32)) (x_10) (r_9) σ_8) else ((rb_gR σ_8 r0 13 12).bind fun r_40 => (rb_aI σ_8 r_40 102 x1).bind fun x_41 => f_M_enter_j84 (r0) (x1) (x2) (x3) (x4) (x_41) (x_10) (r_9) σ_8)) else (f_M_enter_j84 (r0) (x1) (x2) (x3) (x4) ((0 : Int32)) (x_10) (r_9) σ_8)
theorem t_M_enter_j43 {E : rb_EV} {d : Nat} {σ0 : rb_St} {res : rb_Rs} (hdd : 0 ≤ d)  (r0 : Option Nat) (x1 : Int32) (x2 : Int32) (x3 : Int32) (x4 : Int32) (sx0 : Int32) (sx1 : Int32) (sr2 : Option Nat) (σ : rb_St) : rb_TC (f_M_enter_j43 r0 x1 x2 x3 x4 sx0 sx1 sr2 σ) (fun r => r = res) (rb_WK E k_M_enter d σ0 res 43 [some (va_rf r0), some (.int x1), some (.int x2), some (.int x3), some (.int x4)] [.int sx0, .int sx1, va_rf sr2] σ) := by
  unfold f_M_enter_j43
  refine rt_iast sr2 d_M_enter_43 (fun σ_8 => ?_)
  refine rb_TC.mono (rk_aload_n 0 d_M_enter_44 rfl rfl) ?_
  refine rt_gR r0 fw_M_105 d_M_enter_45 (fun r_9 => ?_)
  refine rb_TC.mono (rk_aload_n 0 d_M_enter_48 rfl rfl) ?_
  refine rt_gI r0 fw_M_209 d_M_enter_49 (fun x_10 => ?_)
  refine rb_TC.mono (rk_aload_n 0 d_M_enter_52 rfl rfl) ?_
  refine rt_gR r0 fw_M_27 d_M_enter_53 (fun r_11 => ?_)
  refine rb_TC.mono (rk_iload_n 1 d_M_enter_56 rfl rfl) ?_
  refine rt_zald r_11 d_M_enter_57 (fun x_12 => ?_)
  refine rt_if_eq 65 d_M_enter_58 (by decide) (fun _ => ?_) (fun _ => ?_)
  · refine rb_TC.mono (rk_aload_n 0 d_M_enter_65 rfl rfl) ?_
    refine rt_gR r0 fw_M_36 d_M_enter_66 (fun r_13 => ?_)
    refine rb_TC.mono (rk_iload_n 1 d_M_enter_69 rfl rfl) ?_
    refine rt_zald r_13 d_M_enter_70 (fun x_14 => ?_)
    refine rt_if_eq 83 d_M_enter_71 (by decide) (fun _ => ?_) (fun _ => ?_)
    · refine rb_TC.mono (rk_iconst (0 : Int32) d_M_enter_83 (by decide)) ?_
      exact t_M_enter_j84 hdd  (r0) (x1) (x2) (x3) (x4) ((0 : Int32)) (x_10) (r_9) σ_8
    · refine rb_TC.mono (rk_aload_n 0 d_M_enter_74 rfl rfl) ?_
      refine rt_gR r0 fw_M_39 d_M_enter_75 (fun r_40 => ?_)
      refine rb_TC.mono (rk_iload_n 1 d_M_enter_78 rfl rfl) ?_
      refine rt_iald r_40 d_M_enter_79 (fun x_41 => ?_)
      refine rb_TC.mono (rk_goto 84 d_M_enter_80 (by decide)) ?_
      exact t_M_enter_j84 hdd  (r0) (x1) (x2) (x3) (x4) (x_41) (x_10) (r_9) σ_8
  · refine rb_TC.mono (rk_iconst (0 : Int32) d_M_enter_61 (by decide)) ?_
    refine rb_TC.mono (rk_goto 84 d_M_enter_62 (by decide)) ?_
    exact t_M_enter_j84 hdd  (r0) (x1) (x2) (x3) (x4) ((0 : Int32)) (x_10) (r_9) σ_8
noncomputable def f_M_enter (r0 : Option Nat) (x1 : Int32) (x2 : Int32) (x3 : Int32) (x4 : Int32) (σ : rb_St) : Option rb_Rs :=
  (rb_gI σ r0 13 48).bind fun x_1 => if x_1 = (6 : Int32) then (some (some (.int (0 : Int32)), σ)) else ((rb_gI σ r0 13 48).bind fun x_2 => (rb_pI σ r0 13 48 (x_2 + (1 : Int32))).bind fun σ_3 => (rb_gR σ_3 r0 13 49).bind fun r_4 => (rb_gI σ_3 r0 13 48).bind fun x_5 => (rb_gR σ_3 r0 13 8).bind fun r_6 => (rb_aI σ_3 r_6 104 x1).bind fun x_7 => if x_7 = 0 then (f_M_enter_j43 (r0) (x1) (x2) (x3) (x4) ((-1 : Int32)) (x_5) (r_4) σ_3) else (f_M_enter_j43 (r0) (x1) (x2) (x3) (x4) (x1) (x_5) (r_4) σ_3))
theorem s_M_enter {E : rb_EV} {d : Nat} (hdd : 0 ≤ d) (r0 : Option Nat) (x1 : Int32) (x2 : Int32) (x3 : Int32) (x4 : Int32) (σ : rb_St) : rb_Does E k_M_enter d [va_rf r0, .int x1, .int x2, .int x3, .int x4] σ (f_M_enter r0 x1 x2 x3 x4 σ) := by
  refine rb_start (lv := [some (va_rf r0), some (.int x1), some (.int x2), some (.int x3), some (.int x4)]) (by decide) (by simp [lg_sl, rb_as, lv_args, rb_cat_r, rb_cat_i, rb_cat_l, rb_nL, k_M_enter]) (fun res => ?_)
  unfold f_M_enter
  refine rb_TC.mono (rk_aload_n 0 d_M_enter_0 rfl rfl) ?_
  refine rt_gI r0 fw_M_209 d_M_enter_1 (fun x_1 => ?_)
  refine rb_TC.mono (rk_bipush (6 : Int32) d_M_enter_4 (by decide)) ?_
  refine rt_icmp_ne 11 d_M_enter_6 (by decide) (fun _ => ?_) (fun _ => ?_)
  · refine rb_TC.mono (rk_iconst (0 : Int32) d_M_enter_9 (by decide)) ?_
    exact rt_iret (ty := .boolean) rfl (by decide) (fun h => h) d_M_enter_10
  · refine rb_TC.mono (rk_aload_n 0 d_M_enter_11 rfl rfl) ?_
    refine rb_TC.mono (rk_dupr d_M_enter_12) ?_
    refine rt_gI r0 fw_M_209 d_M_enter_13 (fun x_2 => ?_)
    refine rb_TC.mono (rk_iconst (1 : Int32) d_M_enter_16 (by decide)) ?_
    refine rb_TC.mono (rk_iadd d_M_enter_17) ?_
    refine rt_pI r0 fp_M_enter_209 d_M_enter_18 (fun σ_3 => ?_)
    refine rb_TC.mono (rk_aload_n 0 d_M_enter_21 rfl rfl) ?_
    refine rt_gR r0 fw_M_102 d_M_enter_22 (fun r_4 => ?_)
    refine rb_TC.mono (rk_aload_n 0 d_M_enter_25 rfl rfl) ?_
    refine rt_gI r0 fw_M_209 d_M_enter_26 (fun x_5 => ?_)
    refine rb_TC.mono (rk_aload_n 0 d_M_enter_29 rfl rfl) ?_
    refine rt_gR r0 fw_M_27 d_M_enter_30 (fun r_6 => ?_)
    refine rb_TC.mono (rk_iload_n 1 d_M_enter_33 rfl rfl) ?_
    refine rt_zald r_6 d_M_enter_34 (fun x_7 => ?_)
    refine rt_if_eq 42 d_M_enter_35 (by decide) (fun _ => ?_) (fun _ => ?_)
    · refine rb_TC.mono (rk_iconst (-1 : Int32) d_M_enter_42 (by decide)) ?_
      exact t_M_enter_j43 hdd  (r0) (x1) (x2) (x3) (x4) ((-1 : Int32)) (x_5) (r_4) σ_3
    · refine rb_TC.mono (rk_iload_n 1 d_M_enter_38 rfl rfl) ?_
      refine rb_TC.mono (rk_goto 43 d_M_enter_39 (by decide)) ?_
      exact t_M_enter_j43 hdd  (r0) (x1) (x2) (x3) (x4) (x1) (x_5) (r_4) σ_3
-- ===== RuleBuilderModel.parenthesis()Z
def k_M_parenthesis : rb_MK := (⟨"RuleBuilderModel", "parenthesis", "()Z"⟩, prog_14_method_20_code, 7, some (.boolean))
theorem mw_M_parenthesis : rb_Mw k_M_parenthesis 0 := ⟨rb_inG 1548 (by decide +kernel) rfl, rb_inG 94 (by decide +kernel) rfl, ⟨by decide, by decide, by decide +kernel⟩, by decide⟩
theorem vw_M_224 : rb_Vw "RuleBuilderModel" 224 k_M_enter 13 4 := ⟨mw_M_enter, rb_inG 1541 (by decide +kernel) rfl, rb_inG 1543 (by decide +kernel) rfl, rb_inG 51 (by decide +kernel) rfl, by decide, by decide, _, rfl, rfl⟩
theorem d_M_parenthesis_0 : decode prog_14_method_20_code 0 = .ok (.aload_n 0, 1) := by decide +kernel
theorem d_M_parenthesis_1 : decode prog_14_method_20_code 1 = .ok (.getfield 105, 3) := by decide +kernel
theorem d_M_parenthesis_4 : decode prog_14_method_20_code 4 = .ok (.aload_n 0, 1) := by decide +kernel
theorem d_M_parenthesis_5 : decode prog_14_method_20_code 5 = .ok (.getfield 209, 3) := by decide +kernel
theorem d_M_parenthesis_8 : decode prog_14_method_20_code 8 = .ok (.iaload, 1) := by decide +kernel
theorem d_M_parenthesis_9 : decode prog_14_method_20_code 9 = .ok (.istore_n 1, 1) := by decide +kernel
theorem d_M_parenthesis_10 : decode prog_14_method_20_code 10 = .ok (.aload_n 0, 1) := by decide +kernel
theorem d_M_parenthesis_11 : decode prog_14_method_20_code 11 = .ok (.getfield 108, 3) := by decide +kernel
theorem d_M_parenthesis_14 : decode prog_14_method_20_code 14 = .ok (.aload_n 0, 1) := by decide +kernel
theorem d_M_parenthesis_15 : decode prog_14_method_20_code 15 = .ok (.getfield 209, 3) := by decide +kernel
theorem d_M_parenthesis_18 : decode prog_14_method_20_code 18 = .ok (.iaload, 1) := by decide +kernel
theorem d_M_parenthesis_19 : decode prog_14_method_20_code 19 = .ok (.istore_n 2, 1) := by decide +kernel
theorem d_M_parenthesis_20 : decode prog_14_method_20_code 20 = .ok (.iload_n 1, 1) := by decide +kernel
theorem d_M_parenthesis_21 : decode prog_14_method_20_code 21 = .ok (.iconst 1, 1) := by decide +kernel
theorem d_M_parenthesis_22 : decode prog_14_method_20_code 22 = .ok (.iadd, 1) := by decide +kernel
theorem d_M_parenthesis_23 : decode prog_14_method_20_code 23 = .ok (.iload_n 2, 1) := by decide +kernel
theorem d_M_parenthesis_24 : decode prog_14_method_20_code 24 = .ok (.if_icmp .ge 18, 3) := by decide +kernel
theorem d_M_parenthesis_27 : decode prog_14_method_20_code 27 = .ok (.aload_n 0, 1) := by decide +kernel
theorem d_M_parenthesis_28 : decode prog_14_method_20_code 28 = .ok (.aload_n 0, 1) := by decide +kernel
theorem d_M_parenthesis_29 : decode prog_14_method_20_code 29 = .ok (.getfield 209, 3) := by decide +kernel
theorem d_M_parenthesis_32 : decode prog_14_method_20_code 32 = .ok (.iload_n 1, 1) := by decide +kernel
theorem d_M_parenthesis_33 : decode prog_14_method_20_code 33 = .ok (.invokevirtual 216, 3) := by decide +kernel
theorem d_M_parenthesis_36 : decode prog_14_method_20_code 36 = .ok (.invokestatic 163, 3) := by decide +kernel
theorem d_M_parenthesis_39 : decode prog_14_method_20_code 39 = .ok (.ifCond .ne 5, 3) := by decide +kernel
theorem d_M_parenthesis_42 : decode prog_14_method_20_code 42 = .ok (.iconst 0, 1) := by decide +kernel
theorem d_M_parenthesis_43 : decode prog_14_method_20_code 43 = .ok (.ireturn, 1) := by decide +kernel
theorem d_M_parenthesis_44 : decode prog_14_method_20_code 44 = .ok (.aload_n 0, 1) := by decide +kernel
theorem d_M_parenthesis_45 : decode prog_14_method_20_code 45 = .ok (.aload_n 0, 1) := by decide +kernel
theorem d_M_parenthesis_46 : decode prog_14_method_20_code 46 = .ok (.getfield 209, 3) := by decide +kernel
theorem d_M_parenthesis_49 : decode prog_14_method_20_code 49 = .ok (.iload_n 1, 1) := by decide +kernel
theorem d_M_parenthesis_50 : decode prog_14_method_20_code 50 = .ok (.invokevirtual 216, 3) := by decide +kernel
theorem d_M_parenthesis_53 : decode prog_14_method_20_code 53 = .ok (.bipush 65, 2) := by decide +kernel
theorem d_M_parenthesis_55 : decode prog_14_method_20_code 55 = .ok (.isub, 1) := by decide +kernel
theorem d_M_parenthesis_56 : decode prog_14_method_20_code 56 = .ok (.istore_n 3, 1) := by decide +kernel
theorem d_M_parenthesis_57 : decode prog_14_method_20_code 57 = .ok (.aload_n 0, 1) := by decide +kernel
theorem d_M_parenthesis_58 : decode prog_14_method_20_code 58 = .ok (.aload_n 0, 1) := by decide +kernel
theorem d_M_parenthesis_59 : decode prog_14_method_20_code 59 = .ok (.getfield 209, 3) := by decide +kernel
theorem d_M_parenthesis_62 : decode prog_14_method_20_code 62 = .ok (.iload_n 1, 1) := by decide +kernel
theorem d_M_parenthesis_63 : decode prog_14_method_20_code 63 = .ok (.iconst 1, 1) := by decide +kernel
theorem d_M_parenthesis_64 : decode prog_14_method_20_code 64 = .ok (.iadd, 1) := by decide +kernel
theorem d_M_parenthesis_65 : decode prog_14_method_20_code 65 = .ok (.invokevirtual 216, 3) := by decide +kernel
theorem d_M_parenthesis_68 : decode prog_14_method_20_code 68 = .ok (.istore 4, 2) := by decide +kernel
theorem d_M_parenthesis_70 : decode prog_14_method_20_code 70 = .ok (.iload 4, 2) := by decide +kernel
theorem d_M_parenthesis_72 : decode prog_14_method_20_code 72 = .ok (.bipush 41, 2) := by decide +kernel
theorem d_M_parenthesis_74 : decode prog_14_method_20_code 74 = .ok (.if_icmp .ne 24, 3) := by decide +kernel
theorem d_M_parenthesis_77 : decode prog_14_method_20_code 77 = .ok (.aload_n 0, 1) := by decide +kernel
theorem d_M_parenthesis_78 : decode prog_14_method_20_code 78 = .ok (.getfield 105, 3) := by decide +kernel
theorem d_M_parenthesis_81 : decode prog_14_method_20_code 81 = .ok (.aload_n 0, 1) := by decide +kernel
theorem d_M_parenthesis_82 : decode prog_14_method_20_code 82 = .ok (.getfield 209, 3) := by decide +kernel
theorem d_M_parenthesis_85 : decode prog_14_method_20_code 85 = .ok (.iload_n 1, 1) := by decide +kernel
theorem d_M_parenthesis_86 : decode prog_14_method_20_code 86 = .ok (.iconst 2, 1) := by decide +kernel
theorem d_M_parenthesis_87 : decode prog_14_method_20_code 87 = .ok (.iadd, 1) := by decide +kernel
theorem d_M_parenthesis_88 : decode prog_14_method_20_code 88 = .ok (.iastore, 1) := by decide +kernel
theorem d_M_parenthesis_89 : decode prog_14_method_20_code 89 = .ok (.aload_n 0, 1) := by decide +kernel
theorem d_M_parenthesis_90 : decode prog_14_method_20_code 90 = .ok (.iload_n 3, 1) := by decide +kernel
theorem d_M_parenthesis_91 : decode prog_14_method_20_code 91 = .ok (.iconst (-1), 1) := by decide +kernel
theorem d_M_parenthesis_92 : decode prog_14_method_20_code 92 = .ok (.iconst (-1), 1) := by decide +kernel
theorem d_M_parenthesis_93 : decode prog_14_method_20_code 93 = .ok (.iconst (-1), 1) := by decide +kernel
theorem d_M_parenthesis_94 : decode prog_14_method_20_code 94 = .ok (.invokevirtual 224, 3) := by decide +kernel
theorem d_M_parenthesis_97 : decode prog_14_method_20_code 97 = .ok (.ireturn, 1) := by decide +kernel
theorem d_M_parenthesis_98 : decode prog_14_method_20_code 98 = .ok (.iload_n 1, 1) := by decide +kernel
theorem d_M_parenthesis_99 : decode prog_14_method_20_code 99 = .ok (.iconst 2, 1) := by decide +kernel
theorem d_M_parenthesis_100 : decode prog_14_method_20_code 100 = .ok (.iadd, 1) := by decide +kernel
theorem d_M_parenthesis_101 : decode prog_14_method_20_code 101 = .ok (.istore 5, 2) := by decide +kernel
theorem d_M_parenthesis_103 : decode prog_14_method_20_code 103 = .ok (.iload 5, 2) := by decide +kernel
theorem d_M_parenthesis_105 : decode prog_14_method_20_code 105 = .ok (.iload_n 2, 1) := by decide +kernel
theorem d_M_parenthesis_106 : decode prog_14_method_20_code 106 = .ok (.if_icmp .ge 39, 3) := by decide +kernel
theorem d_M_parenthesis_109 : decode prog_14_method_20_code 109 = .ok (.aload_n 0, 1) := by decide +kernel
theorem d_M_parenthesis_110 : decode prog_14_method_20_code 110 = .ok (.aload_n 0, 1) := by decide +kernel
theorem d_M_parenthesis_111 : decode prog_14_method_20_code 111 = .ok (.getfield 209, 3) := by decide +kernel
theorem d_M_parenthesis_114 : decode prog_14_method_20_code 114 = .ok (.iload 5, 2) := by decide +kernel
theorem d_M_parenthesis_116 : decode prog_14_method_20_code 116 = .ok (.invokevirtual 216, 3) := by decide +kernel
theorem d_M_parenthesis_119 : decode prog_14_method_20_code 119 = .ok (.bipush 61, 2) := by decide +kernel
theorem d_M_parenthesis_121 : decode prog_14_method_20_code 121 = .ok (.if_icmp .eq 24, 3) := by decide +kernel
theorem d_M_parenthesis_124 : decode prog_14_method_20_code 124 = .ok (.aload_n 0, 1) := by decide +kernel
theorem d_M_parenthesis_125 : decode prog_14_method_20_code 125 = .ok (.aload_n 0, 1) := by decide +kernel
theorem d_M_parenthesis_126 : decode prog_14_method_20_code 126 = .ok (.getfield 209, 3) := by decide +kernel
theorem d_M_parenthesis_129 : decode prog_14_method_20_code 129 = .ok (.iload 5, 2) := by decide +kernel
theorem d_M_parenthesis_131 : decode prog_14_method_20_code 131 = .ok (.invokevirtual 216, 3) := by decide +kernel
theorem d_M_parenthesis_134 : decode prog_14_method_20_code 134 = .ok (.bipush 41, 2) := by decide +kernel
theorem d_M_parenthesis_136 : decode prog_14_method_20_code 136 = .ok (.if_icmp .eq 9, 3) := by decide +kernel
theorem d_M_parenthesis_139 : decode prog_14_method_20_code 139 = .ok (.iinc 5 1, 3) := by decide +kernel
theorem d_M_parenthesis_142 : decode prog_14_method_20_code 142 = .ok (.goto (-39), 3) := by decide +kernel
theorem d_M_parenthesis_145 : decode prog_14_method_20_code 145 = .ok (.iload 5, 2) := by decide +kernel
theorem d_M_parenthesis_147 : decode prog_14_method_20_code 147 = .ok (.istore 6, 2) := by decide +kernel
theorem d_M_parenthesis_149 : decode prog_14_method_20_code 149 = .ok (.iload 6, 2) := by decide +kernel
theorem d_M_parenthesis_151 : decode prog_14_method_20_code 151 = .ok (.iload_n 2, 1) := by decide +kernel
theorem d_M_parenthesis_152 : decode prog_14_method_20_code 152 = .ok (.if_icmp .ge 24, 3) := by decide +kernel
theorem d_M_parenthesis_155 : decode prog_14_method_20_code 155 = .ok (.aload_n 0, 1) := by decide +kernel
theorem d_M_parenthesis_156 : decode prog_14_method_20_code 156 = .ok (.aload_n 0, 1) := by decide +kernel
theorem d_M_parenthesis_157 : decode prog_14_method_20_code 157 = .ok (.getfield 209, 3) := by decide +kernel
theorem d_M_parenthesis_160 : decode prog_14_method_20_code 160 = .ok (.iload 6, 2) := by decide +kernel
theorem d_M_parenthesis_162 : decode prog_14_method_20_code 162 = .ok (.invokevirtual 216, 3) := by decide +kernel
theorem d_M_parenthesis_165 : decode prog_14_method_20_code 165 = .ok (.bipush 41, 2) := by decide +kernel
theorem d_M_parenthesis_167 : decode prog_14_method_20_code 167 = .ok (.if_icmp .eq 9, 3) := by decide +kernel
theorem d_M_parenthesis_170 : decode prog_14_method_20_code 170 = .ok (.iinc 6 1, 3) := by decide +kernel
theorem d_M_parenthesis_173 : decode prog_14_method_20_code 173 = .ok (.goto (-24), 3) := by decide +kernel
theorem d_M_parenthesis_176 : decode prog_14_method_20_code 176 = .ok (.iload 4, 2) := by decide +kernel
theorem d_M_parenthesis_178 : decode prog_14_method_20_code 178 = .ok (.bipush 58, 2) := by decide +kernel
theorem d_M_parenthesis_180 : decode prog_14_method_20_code 180 = .ok (.if_icmp .ne 16, 3) := by decide +kernel
theorem d_M_parenthesis_183 : decode prog_14_method_20_code 183 = .ok (.iload 6, 2) := by decide +kernel
theorem d_M_parenthesis_185 : decode prog_14_method_20_code 185 = .ok (.iload_n 2, 1) := by decide +kernel
theorem d_M_parenthesis_186 : decode prog_14_method_20_code 186 = .ok (.if_icmp .ge 10, 3) := by decide +kernel
theorem d_M_parenthesis_189 : decode prog_14_method_20_code 189 = .ok (.iload 5, 2) := by decide +kernel
theorem d_M_parenthesis_191 : decode prog_14_method_20_code 191 = .ok (.iload 6, 2) := by decide +kernel
theorem d_M_parenthesis_193 : decode prog_14_method_20_code 193 = .ok (.if_icmp .ne 5, 3) := by decide +kernel
theorem d_M_parenthesis_196 : decode prog_14_method_20_code 196 = .ok (.iconst 0, 1) := by decide +kernel
theorem d_M_parenthesis_197 : decode prog_14_method_20_code 197 = .ok (.ireturn, 1) := by decide +kernel
theorem d_M_parenthesis_198 : decode prog_14_method_20_code 198 = .ok (.aload_n 0, 1) := by decide +kernel
theorem d_M_parenthesis_199 : decode prog_14_method_20_code 199 = .ok (.getfield 105, 3) := by decide +kernel
theorem d_M_parenthesis_202 : decode prog_14_method_20_code 202 = .ok (.aload_n 0, 1) := by decide +kernel
theorem d_M_parenthesis_203 : decode prog_14_method_20_code 203 = .ok (.getfield 209, 3) := by decide +kernel
theorem d_M_parenthesis_206 : decode prog_14_method_20_code 206 = .ok (.iload 6, 2) := by decide +kernel
theorem d_M_parenthesis_208 : decode prog_14_method_20_code 208 = .ok (.iconst 1, 1) := by decide +kernel
theorem d_M_parenthesis_209 : decode prog_14_method_20_code 209 = .ok (.iadd, 1) := by decide +kernel
theorem d_M_parenthesis_210 : decode prog_14_method_20_code 210 = .ok (.iastore, 1) := by decide +kernel
theorem d_M_parenthesis_211 : decode prog_14_method_20_code 211 = .ok (.aload_n 0, 1) := by decide +kernel
theorem d_M_parenthesis_212 : decode prog_14_method_20_code 212 = .ok (.iload_n 3, 1) := by decide +kernel
theorem d_M_parenthesis_213 : decode prog_14_method_20_code 213 = .ok (.iload_n 1, 1) := by decide +kernel
theorem d_M_parenthesis_214 : decode prog_14_method_20_code 214 = .ok (.iconst 2, 1) := by decide +kernel
theorem d_M_parenthesis_215 : decode prog_14_method_20_code 215 = .ok (.iadd, 1) := by decide +kernel
theorem d_M_parenthesis_216 : decode prog_14_method_20_code 216 = .ok (.iload 5, 2) := by decide +kernel
theorem d_M_parenthesis_218 : decode prog_14_method_20_code 218 = .ok (.iload 6, 2) := by decide +kernel
theorem d_M_parenthesis_220 : decode prog_14_method_20_code 220 = .ok (.invokevirtual 224, 3) := by decide +kernel
theorem d_M_parenthesis_223 : decode prog_14_method_20_code 223 = .ok (.ireturn, 1) := by decide +kernel
noncomputable def f_M_parenthesis_j176 (r0 : Option Nat) (x1 : Int32) (x2 : Int32) (x3 : Int32) (x4 : Int32) (x5 : Int32) (x6 : Int32) (σ : rb_St) : Option rb_Rs :=
  if x4 = (58 : Int32) then (if x2 ≤ x6 then (some (some (.int (0 : Int32)), σ)) else (if x5 = x6 then (some (some (.int (0 : Int32)), σ)) else ((rb_gR σ r0 13 50).bind fun r_23 => (rb_gI σ r0 13 48).bind fun x_24 => (rb_sI σ r_23 102 x_24 (x6 + (1 : Int32))).bind fun σ_25 => (rb_fc σ_25 r0 13).bind fun _ => rb_cI (f_M_enter (r0) (x3) ((x1 + (2 : Int32))) (x5) (x6) σ_25) fun x_26 σ_27 => if rb_isZ x_26 then some (some (.int x_26), σ_27) else none))) else (some (some (.int (0 : Int32)), σ))
theorem t_M_parenthesis_j176 {E : rb_EV} {d : Nat} {σ0 : rb_St} {res : rb_Rs} (hdd : 1 ≤ d)  (r0 : Option Nat) (x1 : Int32) (x2 : Int32) (x3 : Int32) (x4 : Int32) (x5 : Int32) (x6 : Int32) (σ : rb_St) : rb_TC (f_M_parenthesis_j176 r0 x1 x2 x3 x4 x5 x6 σ) (fun r => r = res) (rb_WK E k_M_parenthesis d σ0 res 176 [some (va_rf r0), some (.int x1), some (.int x2), some (.int x3), some (.int x4), some (.int x5), some (.int x6)] [] σ) := by
  unfold f_M_parenthesis_j176
  refine rb_TC.mono (rk_iload d_M_parenthesis_176 rfl) ?_
  refine rb_TC.mono (rk_bipush (58 : Int32) d_M_parenthesis_178 (by decide)) ?_
  refine rt_icmp_ne 196 d_M_parenthesis_180 (by decide) (fun _ => ?_) (fun _ => ?_)
  · refine rb_TC.mono (rk_iload d_M_parenthesis_183 rfl) ?_
    refine rb_TC.mono (rk_iload_n 2 d_M_parenthesis_185 rfl rfl) ?_
    refine rt_icmp_ge 196 d_M_parenthesis_186 (by decide) (fun _ => ?_) (fun _ => ?_)
    · refine rb_TC.mono (rk_iconst (0 : Int32) d_M_parenthesis_196 (by decide)) ?_
      exact rt_iret (ty := .boolean) rfl (by decide) (fun h => h) d_M_parenthesis_197
    · refine rb_TC.mono (rk_iload d_M_parenthesis_189 rfl) ?_
      refine rb_TC.mono (rk_iload d_M_parenthesis_191 rfl) ?_
      refine rt_icmp_ne 198 d_M_parenthesis_193 (by decide) (fun _ => ?_) (fun _ => ?_)
      · refine rb_TC.mono (rk_iconst (0 : Int32) d_M_parenthesis_196 (by decide)) ?_
        exact rt_iret (ty := .boolean) rfl (by decide) (fun h => h) d_M_parenthesis_197
      · refine rb_TC.mono (rk_aload_n 0 d_M_parenthesis_198 rfl rfl) ?_
        refine rt_gR r0 fw_M_105 d_M_parenthesis_199 (fun r_23 => ?_)
        refine rb_TC.mono (rk_aload_n 0 d_M_parenthesis_202 rfl rfl) ?_
        refine rt_gI r0 fw_M_209 d_M_parenthesis_203 (fun x_24 => ?_)
        refine rb_TC.mono (rk_iload d_M_parenthesis_206 rfl) ?_
        refine rb_TC.mono (rk_iconst (1 : Int32) d_M_parenthesis_208 (by decide)) ?_
        refine rb_TC.mono (rk_iadd d_M_parenthesis_209) ?_
        refine rt_iast r_23 d_M_parenthesis_210 (fun σ_25 => ?_)
        refine rb_TC.mono (rk_aload_n 0 d_M_parenthesis_211 rfl rfl) ?_
        refine rb_TC.mono (rk_iload_n 3 d_M_parenthesis_212 rfl rfl) ?_
        refine rb_TC.mono (rk_iload_n 1 d_M_parenthesis_213 rfl rfl) ?_
        refine rb_TC.mono (rk_iconst (2 : Int32) d_M_parenthesis_214 (by decide)) ?_
        refine rb_TC.mono (rk_iadd d_M_parenthesis_215) ?_
        refine rb_TC.mono (rk_iload d_M_parenthesis_216 rfl) ?_
        refine rb_TC.mono (rk_iload d_M_parenthesis_218 rfl) ?_
        refine rt_vI (As := [.int x3, .int (x1 + (2 : Int32)), .int x5, .int x6]) (st := []) (r0) vw_M_224 (s_M_enter (Nat.le_refl _) (r0) (x3) ((x1 + (2 : Int32))) (x5) (x6) σ_25) (Nat.le_trans (by decide) hdd) rfl (by simp [rb_cat_r, rb_cat_i, rb_cat_l]) d_M_parenthesis_220 (fun x_26 σ_27 => ?_)
        refine rb_TC.ite (fun hn => ?_) (fun _ => rb_TC.none)
        exact rt_iret (ty := .boolean) rfl (rb_nar_Z hn) (fun h => h) d_M_parenthesis_223
  · refine rb_TC.mono (rk_iconst (0 : Int32) d_M_parenthesis_196 (by decide)) ?_
    exact rt_iret (ty := .boolean) rfl (by decide) (fun h => h) d_M_parenthesis_197
noncomputable def f_M_parenthesis_b149 (r0 : Option Nat) (x1 : Int32) (x2 : Int32) (x3 : Int32) (x4 : Int32) (x5 : Int32) (x6 : Int32) (σ : rb_St) : Option ((Int32 × rb_St) ⊕ rb_Rs) :=
  if x2 ≤ x6 then ((f_M_parenthesis_j176 (r0) (x1) (x2) (x3) (x4) (x5) (x6) σ).map Sum.inr) else ((rb_gI σ r0 13 48).bind fun x_28 => (rb_fc σ r0 13).bind fun _ => rb_cI (f_M_charAt (r0) (x_28) (x6) σ) fun x_29 σ_30 => if x_29 = (41 : Int32) then ((f_M_parenthesis_j176 (r0) (x1) (x2) (x3) (x4) (x5) (x6) σ_30).map Sum.inr) else (some (.inl ((x6 + 1), σ_30))))
theorem t_M_parenthesis_b149 {E : rb_EV} {d : Nat} {σ0 : rb_St} {res : rb_Rs} (hdd : 1 ≤ d)  (r0 : Option Nat) (x1 : Int32) (x2 : Int32) (x3 : Int32) (x4 : Int32) (x5 : Int32) (x6 : Int32) (σ : rb_St) : rb_TC (f_M_parenthesis_b149 r0 x1 x2 x3 x4 x5 x6 σ) (Sum.elim (fun z : (Int32 × rb_St) => rb_WK E k_M_parenthesis d σ0 res 149 [some (va_rf r0), some (.int x1), some (.int x2), some (.int x3), some (.int x4), some (.int x5), some (.int z.1)] [] z.2) (fun r => r = res)) (rb_WK E k_M_parenthesis d σ0 res 149 [some (va_rf r0), some (.int x1), some (.int x2), some (.int x3), some (.int x4), some (.int x5), some (.int x6)] [] σ) := by
  unfold f_M_parenthesis_b149
  refine rb_TC.mono (rk_iload d_M_parenthesis_149 rfl) ?_
  refine rb_TC.mono (rk_iload_n 2 d_M_parenthesis_151 rfl rfl) ?_
  refine rt_icmp_ge 176 d_M_parenthesis_152 (by decide) (fun _ => ?_) (fun _ => ?_)
  · refine rb_TC.out ?_
    exact t_M_parenthesis_j176 hdd  (r0) (x1) (x2) (x3) (x4) (x5) (x6) σ
  · refine rb_TC.mono (rk_aload_n 0 d_M_parenthesis_155 rfl rfl) ?_
    refine rb_TC.mono (rk_aload_n 0 d_M_parenthesis_156 rfl rfl) ?_
    refine rt_gI r0 fw_M_209 d_M_parenthesis_157 (fun x_28 => ?_)
    refine rb_TC.mono (rk_iload d_M_parenthesis_160 rfl) ?_
    refine rt_vI (As := [.int x_28, .int x6]) (st := []) (r0) vw_M_216 (s_M_charAt (Nat.le_refl _) (r0) (x_28) (x6) σ) (Nat.le_trans (by decide) hdd) rfl (by simp [rb_cat_r, rb_cat_i, rb_cat_l]) d_M_parenthesis_162 (fun x_29 σ_30 => ?_)
    refine rb_TC.mono (rk_bipush (41 : Int32) d_M_parenthesis_165 (by decide)) ?_
    refine rt_icmp_eq 176 d_M_parenthesis_167 (by decide) (fun _ => ?_) (fun _ => ?_)
    · refine rb_TC.out ?_
      exact t_M_parenthesis_j176 hdd  (r0) (x1) (x2) (x3) (x4) (x5) (x6) σ_30
    · refine rb_TC.mono (rk_iinc (lv2 := [some (va_rf r0), some (.int x1), some (.int x2), some (.int x3), some (.int x4), some (.int x5), some (.int (x6 + 1))]) (x6 + 1) d_M_parenthesis_170 rfl rfl (by decide) (fun _ => rb_one_i) rfl) ?_
      refine rb_TC.mono (rk_goto 149 d_M_parenthesis_173 (by decide)) ?_
      exact rb_back
noncomputable def f_M_parenthesis_j145 (r0 : Option Nat) (x1 : Int32) (x2 : Int32) (x3 : Int32) (x4 : Int32) (x5 : Int32) (σ : rb_St) : Option rb_Rs :=
  rb_it (fun z : (Int32 × rb_St) => f_M_parenthesis_b149 (r0) (x1) (x2) (x3) (x4) (x5) (z.1) z.2) (x5, σ)
theorem t_M_parenthesis_j145 {E : rb_EV} {d : Nat} {σ0 : rb_St} {res : rb_Rs} (hdd : 1 ≤ d)  (r0 : Option Nat) (x1 : Int32) (x2 : Int32) (x3 : Int32) (x4 : Int32) (x5 : Int32) (σ : rb_St) : rb_TC (f_M_parenthesis_j145 r0 x1 x2 x3 x4 x5 σ) (fun r => r = res) (rb_WK E k_M_parenthesis d σ0 res 145 [some (va_rf r0), some (.int x1), some (.int x2), some (.int x3), some (.int x4), some (.int x5), none] [] σ) := by
  unfold f_M_parenthesis_j145
  refine rb_TC.mono (rk_iload d_M_parenthesis_145 rfl) ?_
  refine rb_TC.mono (rk_istore (lv2 := [some (va_rf r0), some (.int x1), some (.int x2), some (.int x3), some (.int x4), some (.int x5), some (.int x5)]) d_M_parenthesis_147 (by decide) (fun _ => rb_one_i) rfl) ?_
  exact rb_TC.loop2 (A := (fun z : (Int32 × rb_St) => rb_WK E k_M_parenthesis d σ0 res 149 [some (va_rf r0), some (.int x1), some (.int x2), some (.int x3), some (.int x4), some (.int x5), some (.int z.1)] [] z.2)) (x5, σ) (fun z => t_M_parenthesis_b149 hdd  (r0) (x1) (x2) (x3) (x4) (x5) (z.1) z.2)
noncomputable def f_M_parenthesis_b103 (r0 : Option Nat) (x1 : Int32) (x2 : Int32) (x3 : Int32) (x4 : Int32) (x5 : Int32) (σ : rb_St) : Option ((Int32 × rb_St) ⊕ rb_Rs) :=
  if x2 ≤ x5 then ((f_M_parenthesis_j145 (r0) (x1) (x2) (x3) (x4) (x5) σ).map Sum.inr) else ((rb_gI σ r0 13 48).bind fun x_31 => (rb_fc σ r0 13).bind fun _ => rb_cI (f_M_charAt (r0) (x_31) (x5) σ) fun x_32 σ_33 => if x_32 = (61 : Int32) then ((f_M_parenthesis_j145 (r0) (x1) (x2) (x3) (x4) (x5) σ_33).map Sum.inr) else ((rb_gI σ_33 r0 13 48).bind fun x_34 => (rb_fc σ_33 r0 13).bind fun _ => rb_cI (f_M_charAt (r0) (x_34) (x5) σ_33) fun x_35 σ_36 => if x_35 = (41 : Int32) then ((f_M_parenthesis_j145 (r0) (x1) (x2) (x3) (x4) (x5) σ_36).map Sum.inr) else (some (.inl ((x5 + 1), σ_36)))))
theorem t_M_parenthesis_b103 {E : rb_EV} {d : Nat} {σ0 : rb_St} {res : rb_Rs} (hdd : 1 ≤ d)  (r0 : Option Nat) (x1 : Int32) (x2 : Int32) (x3 : Int32) (x4 : Int32) (x5 : Int32) (σ : rb_St) : rb_TC (f_M_parenthesis_b103 r0 x1 x2 x3 x4 x5 σ) (Sum.elim (fun z : (Int32 × rb_St) => rb_WK E k_M_parenthesis d σ0 res 103 [some (va_rf r0), some (.int x1), some (.int x2), some (.int x3), some (.int x4), some (.int z.1), none] [] z.2) (fun r => r = res)) (rb_WK E k_M_parenthesis d σ0 res 103 [some (va_rf r0), some (.int x1), some (.int x2), some (.int x3), some (.int x4), some (.int x5), none] [] σ) := by
  unfold f_M_parenthesis_b103
  refine rb_TC.mono (rk_iload d_M_parenthesis_103 rfl) ?_
  refine rb_TC.mono (rk_iload_n 2 d_M_parenthesis_105 rfl rfl) ?_
  refine rt_icmp_ge 145 d_M_parenthesis_106 (by decide) (fun _ => ?_) (fun _ => ?_)
  · refine rb_TC.out ?_
    exact t_M_parenthesis_j145 hdd  (r0) (x1) (x2) (x3) (x4) (x5) σ
  · refine rb_TC.mono (rk_aload_n 0 d_M_parenthesis_109 rfl rfl) ?_
    refine rb_TC.mono (rk_aload_n 0 d_M_parenthesis_110 rfl rfl) ?_
    refine rt_gI r0 fw_M_209 d_M_parenthesis_111 (fun x_31 => ?_)
    refine rb_TC.mono (rk_iload d_M_parenthesis_114 rfl) ?_
    refine rt_vI (As := [.int x_31, .int x5]) (st := []) (r0) vw_M_216 (s_M_charAt (Nat.le_refl _) (r0) (x_31) (x5) σ) (Nat.le_trans (by decide) hdd) rfl (by simp [rb_cat_r, rb_cat_i, rb_cat_l]) d_M_parenthesis_116 (fun x_32 σ_33 => ?_)
    refine rb_TC.mono (rk_bipush (61 : Int32) d_M_parenthesis_119 (by decide)) ?_
    refine rt_icmp_eq 145 d_M_parenthesis_121 (by decide) (fun _ => ?_) (fun _ => ?_)
    · refine rb_TC.out ?_
      exact t_M_parenthesis_j145 hdd  (r0) (x1) (x2) (x3) (x4) (x5) σ_33
    · refine rb_TC.mono (rk_aload_n 0 d_M_parenthesis_124 rfl rfl) ?_
      refine rb_TC.mono (rk_aload_n 0 d_M_parenthesis_125 rfl rfl) ?_
      refine rt_gI r0 fw_M_209 d_M_parenthesis_126 (fun x_34 => ?_)
      refine rb_TC.mono (rk_iload d_M_parenthesis_129 rfl) ?_
      refine rt_vI (As := [.int x_34, .int x5]) (st := []) (r0) vw_M_216 (s_M_charAt (Nat.le_refl _) (r0) (x_34) (x5) σ_33) (Nat.le_trans (by decide) hdd) rfl (by simp [rb_cat_r, rb_cat_i, rb_cat_l]) d_M_parenthesis_131 (fun x_35 σ_36 => ?_)
      refine rb_TC.mono (rk_bipush (41 : Int32) d_M_parenthesis_134 (by decide)) ?_
      refine rt_icmp_eq 145 d_M_parenthesis_136 (by decide) (fun _ => ?_) (fun _ => ?_)
      · refine rb_TC.out ?_
        exact t_M_parenthesis_j145 hdd  (r0) (x1) (x2) (x3) (x4) (x5) σ_36
      · refine rb_TC.mono (rk_iinc (lv2 := [some (va_rf r0), some (.int x1), some (.int x2), some (.int x3), some (.int x4), some (.int (x5 + 1)), none]) (x5 + 1) d_M_parenthesis_139 rfl rfl (by decide) (fun _ => rb_one_i) rfl) ?_
        refine rb_TC.mono (rk_goto 103 d_M_parenthesis_142 (by decide)) ?_
        exact rb_back
noncomputable def f_M_parenthesis (r0 : Option Nat) (σ : rb_St) : Option rb_Rs :=
  (rb_gR σ r0 13 50).bind fun r_1 => (rb_gI σ r0 13 48).bind fun x_2 => (rb_aI σ r_1 102 x_2).bind fun x_3 => (rb_gR σ r0 13 51).bind fun r_4 => (rb_gI σ r0 13 48).bind fun x_5 => (rb_aI σ r_4 102 x_5).bind fun x_6 => if x_6 ≤ (x_3 + (1 : Int32)) then (some (some (.int (0 : Int32)), σ)) else ((rb_gI σ r0 13 48).bind fun x_7 => (rb_fc σ r0 13).bind fun _ => rb_cI (f_M_charAt (r0) (x_7) (x_3) σ) fun x_8 σ_9 => rb_cI (f_M_capital (x_8) σ_9) fun x_10 σ_11 => if x_10 = 0 then (some (some (.int (0 : Int32)), σ_11)) else ((rb_gI σ_11 r0 13 48).bind fun x_12 => (rb_fc σ_11 r0 13).bind fun _ => rb_cI (f_M_charAt (r0) (x_12) (x_3) σ_11) fun x_13 σ_14 => (rb_gI σ_14 r0 13 48).bind fun x_15 => (rb_fc σ_14 r0 13).bind fun _ => rb_cI (f_M_charAt (r0) (x_15) ((x_3 + (1 : Int32))) σ_14) fun x_16 σ_17 => if x_16 = (41 : Int32) then ((rb_gR σ_17 r0 13 50).bind fun r_18 => (rb_gI σ_17 r0 13 48).bind fun x_19 => (rb_sI σ_17 r_18 102 x_19 (x_3 + (2 : Int32))).bind fun σ_20 => (rb_fc σ_20 r0 13).bind fun _ => rb_cI (f_M_enter (r0) ((x_13 - (65 : Int32))) ((-1 : Int32)) ((-1 : Int32)) ((-1 : Int32)) σ_20) fun x_21 σ_22 => if rb_isZ x_21 then some (some (.int x_21), σ_22) else none) else (rb_it (fun z : (Int32 × rb_St) => f_M_parenthesis_b103 (r0) (x_3) (x_6) ((x_13 - (65 : Int32))) (x_16) (z.1) z.2) ((x_3 + (2 : Int32)), σ_17))))
theorem s_M_parenthesis {E : rb_EV} {d : Nat} (hdd : 1 ≤ d) (r0 : Option Nat) (σ : rb_St) : rb_Does E k_M_parenthesis d [va_rf r0] σ (f_M_parenthesis r0 σ) := by
  refine rb_start (lv := [some (va_rf r0), none, none, none, none, none, none]) (by decide) (by simp [lg_sl, rb_as, lv_args, rb_cat_r, rb_cat_i, rb_cat_l, rb_nL, k_M_parenthesis]) (fun res => ?_)
  unfold f_M_parenthesis
  refine rb_TC.mono (rk_aload_n 0 d_M_parenthesis_0 rfl rfl) ?_
  refine rt_gR r0 fw_M_105 d_M_parenthesis_1 (fun r_1 => ?_)
  refine rb_TC.mono (rk_aload_n 0 d_M_parenthesis_4 rfl rfl) ?_
  refine rt_gI r0 fw_M_209 d_M_parenthesis_5 (fun x_2 => ?_)
  refine rt_iald r_1 d_M_parenthesis_8 (fun x_3 => ?_)
  refine rb_TC.mono (rk_istore_n (lv2 := [some (va_rf r0), some (.int x_3), none, none, none, none, none]) 1 d_M_parenthesis_9 rfl (by decide) (fun _ => rb_one_r) rfl) ?_
  refine rb_TC.mono (rk_aload_n 0 d_M_parenthesis_10 rfl rfl) ?_
  refine rt_gR r0 fw_M_108 d_M_parenthesis_11 (fun r_4 => ?_)
  refine rb_TC.mono (rk_aload_n 0 d_M_parenthesis_14 rfl rfl) ?_
  refine rt_gI r0 fw_M_209 d_M_parenthesis_15 (fun x_5 => ?_)
  refine rt_iald r_4 d_M_parenthesis_18 (fun x_6 => ?_)
  refine rb_TC.mono (rk_istore_n (lv2 := [some (va_rf r0), some (.int x_3), some (.int x_6), none, none, none, none]) 2 d_M_parenthesis_19 rfl (by decide) (fun _ => rb_one_i) rfl) ?_
  refine rb_TC.mono (rk_iload_n 1 d_M_parenthesis_20 rfl rfl) ?_
  refine rb_TC.mono (rk_iconst (1 : Int32) d_M_parenthesis_21 (by decide)) ?_
  refine rb_TC.mono (rk_iadd d_M_parenthesis_22) ?_
  refine rb_TC.mono (rk_iload_n 2 d_M_parenthesis_23 rfl rfl) ?_
  refine rt_icmp_ge 42 d_M_parenthesis_24 (by decide) (fun _ => ?_) (fun _ => ?_)
  · refine rb_TC.mono (rk_iconst (0 : Int32) d_M_parenthesis_42 (by decide)) ?_
    exact rt_iret (ty := .boolean) rfl (by decide) (fun h => h) d_M_parenthesis_43
  · refine rb_TC.mono (rk_aload_n 0 d_M_parenthesis_27 rfl rfl) ?_
    refine rb_TC.mono (rk_aload_n 0 d_M_parenthesis_28 rfl rfl) ?_
    refine rt_gI r0 fw_M_209 d_M_parenthesis_29 (fun x_7 => ?_)
    refine rb_TC.mono (rk_iload_n 1 d_M_parenthesis_32 rfl rfl) ?_
    refine rt_vI (As := [.int x_7, .int x_3]) (st := []) (r0) vw_M_216 (s_M_charAt (Nat.le_refl _) (r0) (x_7) (x_3) σ) (Nat.le_trans (by decide) hdd) rfl (by simp [rb_cat_r, rb_cat_i, rb_cat_l]) d_M_parenthesis_33 (fun x_8 σ_9 => ?_)
    refine rt_sI (As := [.int x_8]) (st := []) sw_M_163 (s_M_capital (Nat.le_refl _) (x_8) σ_9) (Nat.le_trans (by decide) hdd) rfl (by simp [rb_cat_r, rb_cat_i, rb_cat_l]) d_M_parenthesis_36 (fun x_10 σ_11 => ?_)
    refine rt_if_ne 44 d_M_parenthesis_39 (by decide) (fun _ => ?_) (fun _ => ?_)
    · refine rb_TC.mono (rk_iconst (0 : Int32) d_M_parenthesis_42 (by decide)) ?_
      exact rt_iret (ty := .boolean) rfl (by decide) (fun h => h) d_M_parenthesis_43
    · refine rb_TC.mono (rk_aload_n 0 d_M_parenthesis_44 rfl rfl) ?_
      refine rb_TC.mono (rk_aload_n 0 d_M_parenthesis_45 rfl rfl) ?_
      refine rt_gI r0 fw_M_209 d_M_parenthesis_46 (fun x_12 => ?_)
      refine rb_TC.mono (rk_iload_n 1 d_M_parenthesis_49 rfl rfl) ?_
      refine rt_vI (As := [.int x_12, .int x_3]) (st := []) (r0) vw_M_216 (s_M_charAt (Nat.le_refl _) (r0) (x_12) (x_3) σ_11) (Nat.le_trans (by decide) hdd) rfl (by simp [rb_cat_r, rb_cat_i, rb_cat_l]) d_M_parenthesis_50 (fun x_13 σ_14 => ?_)
      refine rb_TC.mono (rk_bipush (65 : Int32) d_M_parenthesis_53 (by decide)) ?_
      refine rb_TC.mono (rk_isub d_M_parenthesis_55) ?_
      refine rb_TC.mono (rk_istore_n (lv2 := [some (va_rf r0), some (.int x_3), some (.int x_6), some (.int (x_13 - (65 : Int32))), none, none, none]) 3 d_M_parenthesis_56 rfl (by decide) (fun _ => rb_one_i) rfl) ?_
      refine rb_TC.mono (rk_aload_n 0 d_M_parenthesis_57 rfl rfl) ?_
      refine rb_TC.mono (rk_aload_n 0 d_M_parenthesis_58 rfl rfl) ?_
      refine rt_gI r0 fw_M_209 d_M_parenthesis_59 (fun x_15 => ?_)
      refine rb_TC.mono (rk_iload_n 1 d_M_parenthesis_62 rfl rfl) ?_
      refine rb_TC.mono (rk_iconst (1 : Int32) d_M_parenthesis_63 (by decide)) ?_
      refine rb_TC.mono (rk_iadd d_M_parenthesis_64) ?_
      refine rt_vI (As := [.int x_15, .int (x_3 + (1 : Int32))]) (st := []) (r0) vw_M_216 (s_M_charAt (Nat.le_refl _) (r0) (x_15) ((x_3 + (1 : Int32))) σ_14) (Nat.le_trans (by decide) hdd) rfl (by simp [rb_cat_r, rb_cat_i, rb_cat_l]) d_M_parenthesis_65 (fun x_16 σ_17 => ?_)
      refine rb_TC.mono (rk_istore (lv2 := [some (va_rf r0), some (.int x_3), some (.int x_6), some (.int (x_13 - (65 : Int32))), some (.int x_16), none, none]) d_M_parenthesis_68 (by decide) (fun _ => rb_one_i) rfl) ?_
      refine rb_TC.mono (rk_iload d_M_parenthesis_70 rfl) ?_
      refine rb_TC.mono (rk_bipush (41 : Int32) d_M_parenthesis_72 (by decide)) ?_
      refine rt_icmp_ne 98 d_M_parenthesis_74 (by decide) (fun _ => ?_) (fun _ => ?_)
      · refine rb_TC.mono (rk_aload_n 0 d_M_parenthesis_77 rfl rfl) ?_
        refine rt_gR r0 fw_M_105 d_M_parenthesis_78 (fun r_18 => ?_)
        refine rb_TC.mono (rk_aload_n 0 d_M_parenthesis_81 rfl rfl) ?_
        refine rt_gI r0 fw_M_209 d_M_parenthesis_82 (fun x_19 => ?_)
        refine rb_TC.mono (rk_iload_n 1 d_M_parenthesis_85 rfl rfl) ?_
        refine rb_TC.mono (rk_iconst (2 : Int32) d_M_parenthesis_86 (by decide)) ?_
        refine rb_TC.mono (rk_iadd d_M_parenthesis_87) ?_
        refine rt_iast r_18 d_M_parenthesis_88 (fun σ_20 => ?_)
        refine rb_TC.mono (rk_aload_n 0 d_M_parenthesis_89 rfl rfl) ?_
        refine rb_TC.mono (rk_iload_n 3 d_M_parenthesis_90 rfl rfl) ?_
        refine rb_TC.mono (rk_iconst (-1 : Int32) d_M_parenthesis_91 (by decide)) ?_
        refine rb_TC.mono (rk_iconst (-1 : Int32) d_M_parenthesis_92 (by decide)) ?_
        refine rb_TC.mono (rk_iconst (-1 : Int32) d_M_parenthesis_93 (by decide)) ?_
        refine rt_vI (As := [.int (x_13 - (65 : Int32)), .int (-1 : Int32), .int (-1 : Int32), .int (-1 : Int32)]) (st := []) (r0) vw_M_224 (s_M_enter (Nat.le_refl _) (r0) ((x_13 - (65 : Int32))) ((-1 : Int32)) ((-1 : Int32)) ((-1 : Int32)) σ_20) (Nat.le_trans (by decide) hdd) rfl (by simp [rb_cat_r, rb_cat_i, rb_cat_l]) d_M_parenthesis_94 (fun x_21 σ_22 => ?_)
        refine rb_TC.ite (fun hn => ?_) (fun _ => rb_TC.none)
        exact rt_iret (ty := .boolean) rfl (rb_nar_Z hn) (fun h => h) d_M_parenthesis_97
      · refine rb_TC.mono (rk_iload_n 1 d_M_parenthesis_98 rfl rfl) ?_
        refine rb_TC.mono (rk_iconst (2 : Int32) d_M_parenthesis_99 (by decide)) ?_
        refine rb_TC.mono (rk_iadd d_M_parenthesis_100) ?_
        refine rb_TC.mono (rk_istore (lv2 := [some (va_rf r0), some (.int x_3), some (.int x_6), some (.int (x_13 - (65 : Int32))), some (.int x_16), some (.int (x_3 + (2 : Int32))), none]) d_M_parenthesis_101 (by decide) (fun _ => rb_one_i) rfl) ?_
        exact rb_TC.loop2 (A := (fun z : (Int32 × rb_St) => rb_WK E k_M_parenthesis d σ res 103 [some (va_rf r0), some (.int x_3), some (.int x_6), some (.int (x_13 - (65 : Int32))), some (.int x_16), some (.int z.1), none] [] z.2)) ((x_3 + (2 : Int32)), σ_17) (fun z => t_M_parenthesis_b103 hdd  (r0) (x_3) (x_6) ((x_13 - (65 : Int32))) (x_16) (z.1) z.2)
-- ===== RuleBuilderModel.dependency(II)I
def k_M_dependency : rb_MK := (⟨"RuleBuilderModel", "dependency", "(II)I"⟩, prog_14_method_43_code, 5, some (.int))
theorem mw_M_dependency : rb_Mw k_M_dependency 2 := ⟨rb_inG 1564 (by decide +kernel) rfl, rb_inG 94 (by decide +kernel) rfl, ⟨by decide, by decide, by decide +kernel⟩, by decide⟩
theorem d_M_dependency_0 : decode prog_14_method_43_code 0 = .ok (.aload_n 0, 1) := by decide +kernel
theorem d_M_dependency_1 : decode prog_14_method_43_code 1 = .ok (.getfield 135, 3) := by decide +kernel
theorem d_M_dependency_4 : decode prog_14_method_43_code 4 = .ok (.iload_n 1, 1) := by decide +kernel
theorem d_M_dependency_5 : decode prog_14_method_43_code 5 = .ok (.iaload, 1) := by decide +kernel
theorem d_M_dependency_6 : decode prog_14_method_43_code 6 = .ok (.ifCond .lt 9, 3) := by decide +kernel
theorem d_M_dependency_9 : decode prog_14_method_43_code 9 = .ok (.iload_n 2, 1) := by decide +kernel
theorem d_M_dependency_10 : decode prog_14_method_43_code 10 = .ok (.iconst 1, 1) := by decide +kernel
theorem d_M_dependency_11 : decode prog_14_method_43_code 11 = .ok (.isub, 1) := by decide +kernel
theorem d_M_dependency_12 : decode prog_14_method_43_code 12 = .ok (.goto 4, 3) := by decide +kernel
theorem d_M_dependency_15 : decode prog_14_method_43_code 15 = .ok (.iload_n 2, 1) := by decide +kernel
theorem d_M_dependency_16 : decode prog_14_method_43_code 16 = .ok (.istore_n 3, 1) := by decide +kernel
theorem d_M_dependency_17 : decode prog_14_method_43_code 17 = .ok (.iload_n 3, 1) := by decide +kernel
theorem d_M_dependency_18 : decode prog_14_method_43_code 18 = .ok (.ifCond .ge 10, 3) := by decide +kernel
theorem d_M_dependency_21 : decode prog_14_method_43_code 21 = .ok (.aload_n 0, 1) := by decide +kernel
theorem d_M_dependency_22 : decode prog_14_method_43_code 22 = .ok (.getfield 135, 3) := by decide +kernel
theorem d_M_dependency_25 : decode prog_14_method_43_code 25 = .ok (.iload_n 1, 1) := by decide +kernel
theorem d_M_dependency_26 : decode prog_14_method_43_code 26 = .ok (.iaload, 1) := by decide +kernel
theorem d_M_dependency_27 : decode prog_14_method_43_code 27 = .ok (.ireturn, 1) := by decide +kernel
theorem d_M_dependency_28 : decode prog_14_method_43_code 28 = .ok (.iconst 0, 1) := by decide +kernel
theorem d_M_dependency_29 : decode prog_14_method_43_code 29 = .ok (.istore 4, 2) := by decide +kernel
theorem d_M_dependency_31 : decode prog_14_method_43_code 31 = .ok (.iload 4, 2) := by decide +kernel
theorem d_M_dependency_33 : decode prog_14_method_43_code 33 = .ok (.aload_n 0, 1) := by decide +kernel
theorem d_M_dependency_34 : decode prog_14_method_43_code 34 = .ok (.getfield 274, 3) := by decide +kernel
theorem d_M_dependency_37 : decode prog_14_method_43_code 37 = .ok (.if_icmp .ge 35, 3) := by decide +kernel
theorem d_M_dependency_40 : decode prog_14_method_43_code 40 = .ok (.aload_n 0, 1) := by decide +kernel
theorem d_M_dependency_41 : decode prog_14_method_43_code 41 = .ok (.getfield 69, 3) := by decide +kernel
theorem d_M_dependency_44 : decode prog_14_method_43_code 44 = .ok (.iload 4, 2) := by decide +kernel
theorem d_M_dependency_46 : decode prog_14_method_43_code 46 = .ok (.iaload, 1) := by decide +kernel
theorem d_M_dependency_47 : decode prog_14_method_43_code 47 = .ok (.iload_n 1, 1) := by decide +kernel
theorem d_M_dependency_48 : decode prog_14_method_43_code 48 = .ok (.if_icmp .ne 18, 3) := by decide +kernel
theorem d_M_dependency_51 : decode prog_14_method_43_code 51 = .ok (.iload_n 3, 1) := by decide +kernel
theorem d_M_dependency_52 : decode prog_14_method_43_code 52 = .ok (.ifCond .ne 11, 3) := by decide +kernel
theorem d_M_dependency_55 : decode prog_14_method_43_code 55 = .ok (.aload_n 0, 1) := by decide +kernel
theorem d_M_dependency_56 : decode prog_14_method_43_code 56 = .ok (.getfield 72, 3) := by decide +kernel
theorem d_M_dependency_59 : decode prog_14_method_43_code 59 = .ok (.iload 4, 2) := by decide +kernel
theorem d_M_dependency_61 : decode prog_14_method_43_code 61 = .ok (.iaload, 1) := by decide +kernel
theorem d_M_dependency_62 : decode prog_14_method_43_code 62 = .ok (.ireturn, 1) := by decide +kernel
theorem d_M_dependency_63 : decode prog_14_method_43_code 63 = .ok (.iinc 3 (-1), 3) := by decide +kernel
theorem d_M_dependency_66 : decode prog_14_method_43_code 66 = .ok (.iinc 4 1, 3) := by decide +kernel
theorem d_M_dependency_69 : decode prog_14_method_43_code 69 = .ok (.goto (-38), 3) := by decide +kernel
theorem d_M_dependency_72 : decode prog_14_method_43_code 72 = .ok (.iconst (-1), 1) := by decide +kernel
theorem d_M_dependency_73 : decode prog_14_method_43_code 73 = .ok (.ireturn, 1) := by decide +kernel
noncomputable def f_M_dependency_b31 (r0 : Option Nat) (x1 : Int32) (x3 : Int32) (x4 : Int32) (σ : rb_St) : Option ((Int32 × Int32) ⊕ rb_Rs) :=
  (rb_gI σ r0 13 29).bind fun x_3 => if x_3 ≤ x4 then ((some (some (.int (-1 : Int32)), σ)).map Sum.inr) else ((rb_gR σ r0 13 27).bind fun r_4 => (rb_aI σ r_4 102 x4).bind fun x_5 => if x_5 = x1 then (if x3 = 0 then (((rb_gR σ r0 13 28).bind fun r_6 => (rb_aI σ r_6 102 x4).bind fun x_7 => some (some (.int x_7), σ)).map Sum.inr) else (some (.inl ((x3 + (-1)), (x4 + 1))))) else (some (.inl (x3, (x4 + 1)))))
theorem t_M_dependency_b31 {E : rb_EV} {d : Nat} {σ0 : rb_St} {res : rb_Rs} (hdd : 0 ≤ d)  (r0 : Option Nat) (x1 : Int32) (x3 : Int32) (x4 : Int32) (σ : rb_St) : rb_TC (f_M_dependency_b31 r0 x1 x3 x4 σ) (Sum.elim (fun z : (Int32 × Int32) => rb_WK E k_M_dependency d σ0 res 31 [some (va_rf r0), some (.int x1), none, some (.int z.1), some (.int z.2)] [] σ) (fun r => r = res)) (rb_WK E k_M_dependency d σ0 res 31 [some (va_rf r0), some (.int x1), none, some (.int x3), some (.int x4)] [] σ) := by
  unfold f_M_dependency_b31
  refine rb_TC.mono (rk_iload d_M_dependency_31 rfl) ?_
  refine rb_TC.mono (rk_aload_n 0 d_M_dependency_33 rfl rfl) ?_
  refine rt_gI r0 fw_M_274 d_M_dependency_34 (fun x_3 => ?_)
  refine rt_icmp_ge 72 d_M_dependency_37 (by decide) (fun _ => ?_) (fun _ => ?_)
  · refine rb_TC.out ?_
    refine rb_TC.mono (rk_iconst (-1 : Int32) d_M_dependency_72 (by decide)) ?_
    exact rt_iret (ty := .int) rfl rfl (fun h => h) d_M_dependency_73
  · refine rb_TC.mono (rk_aload_n 0 d_M_dependency_40 rfl rfl) ?_
    refine rt_gR r0 fw_M_69 d_M_dependency_41 (fun r_4 => ?_)
    refine rb_TC.mono (rk_iload d_M_dependency_44 rfl) ?_
    refine rt_iald r_4 d_M_dependency_46 (fun x_5 => ?_)
    refine rb_TC.mono (rk_iload_n 1 d_M_dependency_47 rfl rfl) ?_
    refine rt_icmp_ne 66 d_M_dependency_48 (by decide) (fun _ => ?_) (fun _ => ?_)
    · refine rb_TC.mono (rk_iload_n 3 d_M_dependency_51 rfl rfl) ?_
      refine rt_if_ne 63 d_M_dependency_52 (by decide) (fun _ => ?_) (fun _ => ?_)
      · refine rb_TC.out ?_
        refine rb_TC.mono (rk_aload_n 0 d_M_dependency_55 rfl rfl) ?_
        refine rt_gR r0 fw_M_72 d_M_dependency_56 (fun r_6 => ?_)
        refine rb_TC.mono (rk_iload d_M_dependency_59 rfl) ?_
        refine rt_iald r_6 d_M_dependency_61 (fun x_7 => ?_)
        exact rt_iret (ty := .int) rfl rfl (fun h => h) d_M_dependency_62
      · refine rb_TC.mono (rk_iinc (lv2 := [some (va_rf r0), some (.int x1), none, some (.int (x3 + (-1))), some (.int x4)]) (x3 + (-1)) d_M_dependency_63 rfl rfl (by decide) (fun _ => rb_one_n) rfl) ?_
        refine rb_TC.mono (rk_iinc (lv2 := [some (va_rf r0), some (.int x1), none, some (.int (x3 + (-1))), some (.int (x4 + 1))]) (x4 + 1) d_M_dependency_66 rfl rfl (by decide) (fun _ => rb_one_i) rfl) ?_
        refine rb_TC.mono (rk_goto 31 d_M_dependency_69 (by decide)) ?_
        exact rb_back
    · refine rb_TC.mono (rk_iinc (lv2 := [some (va_rf r0), some (.int x1), none, some (.int x3), some (.int (x4 + 1))]) (x4 + 1) d_M_dependency_66 rfl rfl (by decide) (fun _ => rb_one_i) rfl) ?_
      refine rb_TC.mono (rk_goto 31 d_M_dependency_69 (by decide)) ?_
      exact rb_back
noncomputable def f_M_dependency_j16 (r0 : Option Nat) (x1 : Int32) (sx0 : Int32) (σ : rb_St) : Option rb_Rs :=
  if 0 ≤ sx0 then (rb_it (fun z : (Int32 × Int32) => f_M_dependency_b31 (r0) (x1) (z.1) (z.2) σ) (sx0, (0 : Int32))) else ((rb_gR σ r0 13 61).bind fun r_8 => (rb_aI σ r_8 102 x1).bind fun x_9 => some (some (.int x_9), σ))
theorem t_M_dependency_j16 {E : rb_EV} {d : Nat} {σ0 : rb_St} {res : rb_Rs} (hdd : 0 ≤ d)  (r0 : Option Nat) (x1 : Int32) (sx0 : Int32) (σ : rb_St) : rb_TC (f_M_dependency_j16 r0 x1 sx0 σ) (fun r => r = res) (rb_WK E k_M_dependency d σ0 res 16 [some (va_rf r0), some (.int x1), none, none, none] [.int sx0] σ) := by
  unfold f_M_dependency_j16
  refine rb_TC.mono (rk_istore_n (lv2 := [some (va_rf r0), some (.int x1), none, some (.int sx0), none]) 3 d_M_dependency_16 rfl (by decide) (fun _ => rb_one_n) rfl) ?_
  refine rb_TC.mono (rk_iload_n 3 d_M_dependency_17 rfl rfl) ?_
  refine rt_if_ge 28 d_M_dependency_18 (by decide) (fun _ => ?_) (fun _ => ?_)
  · refine rb_TC.mono (rk_iconst (0 : Int32) d_M_dependency_28 (by decide)) ?_
    refine rb_TC.mono (rk_istore (lv2 := [some (va_rf r0), some (.int x1), none, some (.int sx0), some (.int (0 : Int32))]) d_M_dependency_29 (by decide) (fun _ => rb_one_i) rfl) ?_
    exact rb_TC.loop2 (A := (fun z : (Int32 × Int32) => rb_WK E k_M_dependency d σ0 res 31 [some (va_rf r0), some (.int x1), none, some (.int z.1), some (.int z.2)] [] σ)) (sx0, (0 : Int32)) (fun z => t_M_dependency_b31 hdd  (r0) (x1) (z.1) (z.2) σ)
  · refine rb_TC.mono (rk_aload_n 0 d_M_dependency_21 rfl rfl) ?_
    refine rt_gR r0 fw_M_135 d_M_dependency_22 (fun r_8 => ?_)
    refine rb_TC.mono (rk_iload_n 1 d_M_dependency_25 rfl rfl) ?_
    refine rt_iald r_8 d_M_dependency_26 (fun x_9 => ?_)
    exact rt_iret (ty := .int) rfl rfl (fun h => h) d_M_dependency_27
noncomputable def f_M_dependency (r0 : Option Nat) (x1 : Int32) (x2 : Int32) (σ : rb_St) : Option rb_Rs :=
  (rb_gR σ r0 13 61).bind fun r_1 => (rb_aI σ r_1 102 x1).bind fun x_2 => if x_2 < 0 then (f_M_dependency_j16 (r0) (x1) (x2) σ) else (f_M_dependency_j16 (r0) (x1) ((x2 - (1 : Int32))) σ)
theorem s_M_dependency {E : rb_EV} {d : Nat} (hdd : 0 ≤ d) (r0 : Option Nat) (x1 : Int32) (x2 : Int32) (σ : rb_St) : rb_Does E k_M_dependency d [va_rf r0, .int x1, .int x2] σ (f_M_dependency r0 x1 x2 σ) := by
  refine rb_start (lv := [some (va_rf r0), some (.int x1), some (.int x2), none, none]) (by decide) (by simp [lg_sl, rb_as, lv_args, rb_cat_r, rb_cat_i, rb_cat_l, rb_nL, k_M_dependency]) (fun res => ?_)
  unfold f_M_dependency
  refine rb_TC.mono (rk_aload_n 0 d_M_dependency_0 rfl rfl) ?_
  refine rt_gR r0 fw_M_135 d_M_dependency_1 (fun r_1 => ?_)
  refine rb_TC.mono (rk_iload_n 1 d_M_dependency_4 rfl rfl) ?_
  refine rt_iald r_1 d_M_dependency_5 (fun x_2 => ?_)
  refine rt_if_lt 15 d_M_dependency_6 (by decide) (fun _ => ?_) (fun _ => ?_)
  · refine rb_TC.mono (rk_iload_n 2 d_M_dependency_15 rfl rfl) ?_
    refine rb_TC.mono (rk_less (lv2 := [some (va_rf r0), some (.int x1), none, none, none]) (rb_le_ok (rb_leS (rb_leS (rb_leN (rb_leN (rb_leN rb_le0))))))) ?_
    exact t_M_dependency_j16 hdd  (r0) (x1) (x2) σ
  · refine rb_TC.mono (rk_iload_n 2 d_M_dependency_9 rfl rfl) ?_
    refine rb_TC.mono (rk_iconst (1 : Int32) d_M_dependency_10 (by decide)) ?_
    refine rb_TC.mono (rk_isub d_M_dependency_11) ?_
    refine rb_TC.mono (rk_goto 16 d_M_dependency_12 (by decide)) ?_
    refine rb_TC.mono (rk_less (lv2 := [some (va_rf r0), some (.int x1), none, none, none]) (rb_le_ok (rb_leS (rb_leS (rb_leN (rb_leN (rb_leN rb_le0))))))) ?_
    exact t_M_dependency_j16 hdd  (r0) (x1) ((x2 - (1 : Int32))) σ
-- ===== RuleBuilderModel.appendNewer(I)Z
def k_M_appendNewer : rb_MK := (⟨"RuleBuilderModel", "appendNewer", "(I)Z"⟩, prog_14_method_26_code, 6, some (.boolean))
theorem mw_M_appendNewer : rb_Mw k_M_appendNewer 1 := ⟨rb_inG 1560 (by decide +kernel) rfl, rb_inG 94 (by decide +kernel) rfl, ⟨by decide, by decide, by decide +kernel⟩, by decide⟩
theorem vw_M_245 : rb_Vw "RuleBuilderModel" 245 k_M_appendName 13 1 := ⟨mw_M_appendName, rb_inG 1553 (by decide +kernel) rfl, rb_inG 1555 (by decide +kernel) rfl, rb_inG 54 (by decide +kernel) rfl, by decide, by decide, _, rfl, rfl⟩
theorem vw_M_251 : rb_Vw "RuleBuilderModel" 251 k_M_dependency 13 2 := ⟨mw_M_dependency, rb_inG 1561 (by decide +kernel) rfl, rb_inG 1563 (by decide +kernel) rfl, rb_inG 56 (by decide +kernel) rfl, by decide, by decide, _, rfl, rfl⟩
theorem d_M_appendNewer_0 : decode prog_14_method_26_code 0 = .ok (.iconst 1, 1) := by decide +kernel
theorem d_M_appendNewer_1 : decode prog_14_method_26_code 1 = .ok (.istore_n 2, 1) := by decide +kernel
theorem d_M_appendNewer_2 : decode prog_14_method_26_code 2 = .ok (.iconst 0, 1) := by decide +kernel
theorem d_M_appendNewer_3 : decode prog_14_method_26_code 3 = .ok (.istore_n 3, 1) := by decide +kernel
theorem d_M_appendNewer_4 : decode prog_14_method_26_code 4 = .ok (.aload_n 0, 1) := by decide +kernel
theorem d_M_appendNewer_5 : decode prog_14_method_26_code 5 = .ok (.iload_n 1, 1) := by decide +kernel
theorem d_M_appendNewer_6 : decode prog_14_method_26_code 6 = .ok (.iconst 0, 1) := by decide +kernel
theorem d_M_appendNewer_7 : decode prog_14_method_26_code 7 = .ok (.invokevirtual 251, 3) := by decide +kernel
theorem d_M_appendNewer_10 : decode prog_14_method_26_code 10 = .ok (.istore 4, 2) := by decide +kernel
theorem d_M_appendNewer_12 : decode prog_14_method_26_code 12 = .ok (.iconst 0, 1) := by decide +kernel
theorem d_M_appendNewer_13 : decode prog_14_method_26_code 13 = .ok (.istore 5, 2) := by decide +kernel
theorem d_M_appendNewer_15 : decode prog_14_method_26_code 15 = .ok (.iload 4, 2) := by decide +kernel
theorem d_M_appendNewer_17 : decode prog_14_method_26_code 17 = .ok (.ifCond .lt 69, 3) := by decide +kernel
theorem d_M_appendNewer_20 : decode prog_14_method_26_code 20 = .ok (.aload_n 0, 1) := by decide +kernel
theorem d_M_appendNewer_21 : decode prog_14_method_26_code 21 = .ok (.getfield 150, 3) := by decide +kernel
theorem d_M_appendNewer_24 : decode prog_14_method_26_code 24 = .ok (.iload 5, 2) := by decide +kernel
theorem d_M_appendNewer_26 : decode prog_14_method_26_code 26 = .ok (.baload, 1) := by decide +kernel
theorem d_M_appendNewer_27 : decode prog_14_method_26_code 27 = .ok (.ifCond .eq 42, 3) := by decide +kernel
theorem d_M_appendNewer_30 : decode prog_14_method_26_code 30 = .ok (.iload_n 2, 1) := by decide +kernel
theorem d_M_appendNewer_31 : decode prog_14_method_26_code 31 = .ok (.ifCond .eq 34, 3) := by decide +kernel
theorem d_M_appendNewer_34 : decode prog_14_method_26_code 34 = .ok (.iload_n 3, 1) := by decide +kernel
theorem d_M_appendNewer_35 : decode prog_14_method_26_code 35 = .ok (.ifCond .eq 12, 3) := by decide +kernel
theorem d_M_appendNewer_38 : decode prog_14_method_26_code 38 = .ok (.aload_n 0, 1) := by decide +kernel
theorem d_M_appendNewer_39 : decode prog_14_method_26_code 39 = .ok (.bipush 32, 2) := by decide +kernel
theorem d_M_appendNewer_41 : decode prog_14_method_26_code 41 = .ok (.invokevirtual 206, 3) := by decide +kernel
theorem d_M_appendNewer_44 : decode prog_14_method_26_code 44 = .ok (.ifCond .eq 21, 3) := by decide +kernel
theorem d_M_appendNewer_47 : decode prog_14_method_26_code 47 = .ok (.aload_n 0, 1) := by decide +kernel
theorem d_M_appendNewer_48 : decode prog_14_method_26_code 48 = .ok (.aload_n 0, 1) := by decide +kernel
theorem d_M_appendNewer_49 : decode prog_14_method_26_code 49 = .ok (.getfield 13, 3) := by decide +kernel
theorem d_M_appendNewer_52 : decode prog_14_method_26_code 52 = .ok (.iload 4, 2) := by decide +kernel
theorem d_M_appendNewer_54 : decode prog_14_method_26_code 54 = .ok (.laload, 1) := by decide +kernel
theorem d_M_appendNewer_55 : decode prog_14_method_26_code 55 = .ok (.invokevirtual 245, 3) := by decide +kernel
theorem d_M_appendNewer_58 : decode prog_14_method_26_code 58 = .ok (.ifCond .eq 7, 3) := by decide +kernel
theorem d_M_appendNewer_61 : decode prog_14_method_26_code 61 = .ok (.iconst 1, 1) := by decide +kernel
theorem d_M_appendNewer_62 : decode prog_14_method_26_code 62 = .ok (.goto 4, 3) := by decide +kernel
theorem d_M_appendNewer_65 : decode prog_14_method_26_code 65 = .ok (.iconst 0, 1) := by decide +kernel
theorem d_M_appendNewer_66 : decode prog_14_method_26_code 66 = .ok (.istore_n 2, 1) := by decide +kernel
theorem d_M_appendNewer_67 : decode prog_14_method_26_code 67 = .ok (.iconst 1, 1) := by decide +kernel
theorem d_M_appendNewer_68 : decode prog_14_method_26_code 68 = .ok (.istore_n 3, 1) := by decide +kernel
theorem d_M_appendNewer_69 : decode prog_14_method_26_code 69 = .ok (.aload_n 0, 1) := by decide +kernel
theorem d_M_appendNewer_70 : decode prog_14_method_26_code 70 = .ok (.iload_n 1, 1) := by decide +kernel
theorem d_M_appendNewer_71 : decode prog_14_method_26_code 71 = .ok (.iload 5, 2) := by decide +kernel
theorem d_M_appendNewer_73 : decode prog_14_method_26_code 73 = .ok (.iconst 1, 1) := by decide +kernel
theorem d_M_appendNewer_74 : decode prog_14_method_26_code 74 = .ok (.iadd, 1) := by decide +kernel
theorem d_M_appendNewer_75 : decode prog_14_method_26_code 75 = .ok (.invokevirtual 251, 3) := by decide +kernel
theorem d_M_appendNewer_78 : decode prog_14_method_26_code 78 = .ok (.istore 4, 2) := by decide +kernel
theorem d_M_appendNewer_80 : decode prog_14_method_26_code 80 = .ok (.iinc 5 1, 3) := by decide +kernel
theorem d_M_appendNewer_83 : decode prog_14_method_26_code 83 = .ok (.goto (-68), 3) := by decide +kernel
theorem d_M_appendNewer_86 : decode prog_14_method_26_code 86 = .ok (.iload_n 2, 1) := by decide +kernel
theorem d_M_appendNewer_87 : decode prog_14_method_26_code 87 = .ok (.ireturn, 1) := by decide +kernel
noncomputable def f_M_appendNewer_j69 (r0 : Option Nat) (x1 : Int32) (x2 : Int32) (x3 : Int32) (x5 : Int32) (σ : rb_St) : Option ((Int32 × Int32 × Int32 × Int32 × rb_St) ⊕ rb_Rs) :=
  (rb_fc σ r0 13).bind fun _ => rb_cI (f_M_dependency (r0) (x1) ((x5 + (1 : Int32))) σ) fun x_5 σ_6 => some (.inl (x2, x3, x_5, (x5 + 1), σ_6))
theorem t_M_appendNewer_j69 {E : rb_EV} {d : Nat} {σ0 : rb_St} {res : rb_Rs} (hdd : 2 ≤ d)  (r0 : Option Nat) (x1 : Int32) (x2 : Int32) (x3 : Int32) (x5 : Int32) (σ : rb_St) : rb_TC (f_M_appendNewer_j69 r0 x1 x2 x3 x5 σ) (Sum.elim (fun z : (Int32 × Int32 × Int32 × Int32 × rb_St) => rb_WK E k_M_appendNewer d σ0 res 15 [some (va_rf r0), some (.int x1), some (.int z.1), some (.int z.2.1), some (.int z.2.2.1), some (.int z.2.2.2.1)] [] z.2.2.2.2) (fun r => r = res)) (rb_WK E k_M_appendNewer d σ0 res 69 [some (va_rf r0), some (.int x1), some (.int x2), some (.int x3), none, some (.int x5)] [] σ) := by
  unfold f_M_appendNewer_j69
  refine rb_TC.mono (rk_aload_n 0 d_M_appendNewer_69 rfl rfl) ?_
  refine rb_TC.mono (rk_iload_n 1 d_M_appendNewer_70 rfl rfl) ?_
  refine rb_TC.mono (rk_iload d_M_appendNewer_71 rfl) ?_
  refine rb_TC.mono (rk_iconst (1 : Int32) d_M_appendNewer_73 (by decide)) ?_
  refine rb_TC.mono (rk_iadd d_M_appendNewer_74) ?_
  refine rt_vI (As := [.int x1, .int (x5 + (1 : Int32))]) (st := []) (r0) vw_M_251 (s_M_dependency (Nat.le_refl _) (r0) (x1) ((x5 + (1 : Int32))) σ) (Nat.le_trans (by decide) hdd) rfl (by simp [rb_cat_r, rb_cat_i, rb_cat_l]) d_M_appendNewer_75 (fun x_5 σ_6 => ?_)
  refine rb_TC.mono (rk_istore (lv2 := [some (va_rf r0), some (.int x1), some (.int x2), some (.int x3), some (.int x_5), some (.int x5)]) d_M_appendNewer_78 (by decide) (fun _ => rb_one_i) rfl) ?_
  refine rb_TC.mono (rk_iinc (lv2 := [some (va_rf r0), some (.int x1), some (.int x2), some (.int x3), some (.int x_5), some (.int (x5 + 1))]) (x5 + 1) d_M_appendNewer_80 rfl rfl (by decide) (fun _ => rb_one_i) rfl) ?_
  refine rb_TC.mono (rk_goto 15 d_M_appendNewer_83 (by decide)) ?_
  exact rb_back
noncomputable def f_M_appendNewer_j66 (r0 : Option Nat) (x1 : Int32) (x5 : Int32) (sx0 : Int32) (σ : rb_St) : Option ((Int32 × Int32 × Int32 × Int32 × rb_St) ⊕ rb_Rs) :=
  f_M_appendNewer_j69 (r0) (x1) (sx0) ((1 : Int32)) (x5) σ
theorem t_M_appendNewer_j66 {E : rb_EV} {d : Nat} {σ0 : rb_St} {res : rb_Rs} (hdd : 2 ≤ d)  (r0 : Option Nat) (x1 : Int32) (x5 : Int32) (sx0 : Int32) (σ : rb_St) : rb_TC (f_M_appendNewer_j66 r0 x1 x5 sx0 σ) (Sum.elim (fun z : (Int32 × Int32 × Int32 × Int32 × rb_St) => rb_WK E k_M_appendNewer d σ0 res 15 [some (va_rf r0), some (.int x1), some (.int z.1), some (.int z.2.1), some (.int z.2.2.1), some (.int z.2.2.2.1)] [] z.2.2.2.2) (fun r => r = res)) (rb_WK E k_M_appendNewer d σ0 res 66 [some (va_rf r0), some (.int x1), none, none, none, some (.int x5)] [.int sx0] σ) := by
  unfold f_M_appendNewer_j66
  refine rb_TC.mono (rk_istore_n (lv2 := [some (va_rf r0), some (.int x1), some (.int sx0), none, none, some (.int x5)]) 2 d_M_appendNewer_66 rfl (by decide) (fun _ => rb_one_i) rfl) ?_
  refine rb_TC.mono (rk_iconst (1 : Int32) d_M_appendNewer_67 (by decide)) ?_
  refine rb_TC.mono (rk_istore_n (lv2 := [some (va_rf r0), some (.int x1), some (.int sx0), some (.int (1 : Int32)), none, some (.int x5)]) 3 d_M_appendNewer_68 rfl (by decide) (fun _ => rb_one_i) rfl) ?_
  exact t_M_appendNewer_j69 hdd  (r0) (x1) (sx0) ((1 : Int32)) (x5) σ
noncomputable def f_M_appendNewer_j65 (r0 : Option Nat) (x1 : Int32) (x5 : Int32) (σ : rb_St) : Option ((Int32 × Int32 × Int32 × Int32 × rb_St) ⊕ rb_Rs) :=
  f_M_appendNewer_j66 (r0) (x1) (x5) ((0 : Int32)) σ
theorem t_M_appendNewer_j65 {E : rb_EV} {d : Nat} {σ0 : rb_St} {res : rb_Rs} (hdd : 2 ≤ d)  (r0 : Option Nat) (x1 : Int32) (x5 : Int32) (σ : rb_St) : rb_TC (f_M_appendNewer_j65 r0 x1 x5 σ) (Sum.elim (fun z : (Int32 × Int32 × Int32 × Int32 × rb_St) => rb_WK E k_M_appendNewer d σ0 res 15 [some (va_rf r0), some (.int x1), some (.int z.1), some (.int z.2.1), some (.int z.2.2.1), some (.int z.2.2.2.1)] [] z.2.2.2.2) (fun r => r = res)) (rb_WK E k_M_appendNewer d σ0 res 65 [some (va_rf r0), some (.int x1), none, none, none, some (.int x5)] [] σ) := by
  unfold f_M_appendNewer_j65
  refine rb_TC.mono (rk_iconst (0 : Int32) d_M_appendNewer_65 (by decide)) ?_
  exact t_M_appendNewer_j66 hdd  (r0) (x1) (x5) ((0 : Int32)) σ
noncomputable def f_M_appendNewer_j47 (r0 : Option Nat) (x1 : Int32) (x4 : Int32) (x5 : Int32) (σ : rb_St) : Option ((Int32 × Int32 × Int32 × Int32 × rb_St) ⊕ rb_Rs) :=
  (rb_gR σ r0 13 3).bind fun r_7 => (rb_aL σ r_7 103 x4).bind fun y_8 => (rb_fc σ r0 13).bind fun _ => rb_cI (f_M_appendName (r0) (y_8) σ) fun x_9 σ_10 => if x_9 = 0 then (f_M_appendNewer_j65 (r0) (x1) (x5) σ_10) else (f_M_appendNewer_j66 (r0) (x1) (x5) ((1 : Int32)) σ_10)
theorem t_M_appendNewer_j47 {E : rb_EV} {d : Nat} {σ0 : rb_St} {res : rb_Rs} (hdd : 2 ≤ d)  (r0 : Option Nat) (x1 : Int32) (x4 : Int32) (x5 : Int32) (σ : rb_St) : rb_TC (f_M_appendNewer_j47 r0 x1 x4 x5 σ) (Sum.elim (fun z : (Int32 × Int32 × Int32 × Int32 × rb_St) => rb_WK E k_M_appendNewer d σ0 res 15 [some (va_rf r0), some (.int x1), some (.int z.1), some (.int z.2.1), some (.int z.2.2.1), some (.int z.2.2.2.1)] [] z.2.2.2.2) (fun r => r = res)) (rb_WK E k_M_appendNewer d σ0 res 47 [some (va_rf r0), some (.int x1), none, none, some (.int x4), some (.int x5)] [] σ) := by
  unfold f_M_appendNewer_j47
  refine rb_TC.mono (rk_aload_n 0 d_M_appendNewer_47 rfl rfl) ?_
  refine rb_TC.mono (rk_aload_n 0 d_M_appendNewer_48 rfl rfl) ?_
  refine rt_gR r0 fw_M_13 d_M_appendNewer_49 (fun r_7 => ?_)
  refine rb_TC.mono (rk_iload d_M_appendNewer_52 rfl) ?_
  refine rt_lald r_7 d_M_appendNewer_54 (fun y_8 => ?_)
  refine rt_vI (As := [.long y_8]) (st := []) (r0) vw_M_245 (s_M_appendName (Nat.le_refl _) (r0) (y_8) σ) (Nat.le_trans (by decide) hdd) rfl (by simp [rb_cat_r, rb_cat_i, rb_cat_l]) d_M_appendNewer_55 (fun x_9 σ_10 => ?_)
  refine rt_if_eq 65 d_M_appendNewer_58 (by decide) (fun _ => ?_) (fun _ => ?_)
  · refine rb_TC.mono (rk_less (lv2 := [some (va_rf r0), some (.int x1), none, none, none, some (.int x5)]) (rb_le_ok (rb_leS (rb_leS (rb_leN (rb_leN (rb_leN (rb_leS rb_le0)))))))) ?_
    exact t_M_appendNewer_j65 hdd  (r0) (x1) (x5) σ_10
  · refine rb_TC.mono (rk_iconst (1 : Int32) d_M_appendNewer_61 (by decide)) ?_
    refine rb_TC.mono (rk_goto 66 d_M_appendNewer_62 (by decide)) ?_
    refine rb_TC.mono (rk_less (lv2 := [some (va_rf r0), some (.int x1), none, none, none, some (.int x5)]) (rb_le_ok (rb_leS (rb_leS (rb_leN (rb_leN (rb_leN (rb_leS rb_le0)))))))) ?_
    exact t_M_appendNewer_j66 hdd  (r0) (x1) (x5) ((1 : Int32)) σ_10
noncomputable def f_M_appendNewer_b15 (r0 : Option Nat) (x1 : Int32) (x2 : Int32) (x3 : Int32) (x4 : Int32) (x5 : Int32) (σ : rb_St) : Option ((Int32 × Int32 × Int32 × Int32 × rb_St) ⊕ rb_Rs) :=
  if x4 < 0 then ((if rb_isZ x2 then some (some (.int x2), σ) else none).map Sum.inr) else ((rb_gR σ r0 13 67).bind fun r_3 => (rb_aI σ r_3 104 x5).bind fun x_4 => if x_4 = 0 then (f_M_appendNewer_j69 (r0) (x1) (x2) (x3) (x5) σ) else (if x2 = 0 then (f_M_appendNewer_j65 (r0) (x1) (x5) σ) else (if x3 = 0 then (f_M_appendNewer_j47 (r0) (x1) (x4) (x5) σ) else ((rb_fc σ r0 13).bind fun _ => rb_cI (f_M_append (r0) ((32 : Int32)) σ) fun x_11 σ_12 => if x_11 = 0 then (f_M_appendNewer_j65 (r0) (x1) (x5) σ_12) else (f_M_appendNewer_j47 (r0) (x1) (x4) (x5) σ_12)))))
theorem t_M_appendNewer_b15 {E : rb_EV} {d : Nat} {σ0 : rb_St} {res : rb_Rs} (hdd : 2 ≤ d)  (r0 : Option Nat) (x1 : Int32) (x2 : Int32) (x3 : Int32) (x4 : Int32) (x5 : Int32) (σ : rb_St) : rb_TC (f_M_appendNewer_b15 r0 x1 x2 x3 x4 x5 σ) (Sum.elim (fun z : (Int32 × Int32 × Int32 × Int32 × rb_St) => rb_WK E k_M_appendNewer d σ0 res 15 [some (va_rf r0), some (.int x1), some (.int z.1), some (.int z.2.1), some (.int z.2.2.1), some (.int z.2.2.2.1)] [] z.2.2.2.2) (fun r => r = res)) (rb_WK E k_M_appendNewer d σ0 res 15 [some (va_rf r0), some (.int x1), some (.int x2), some (.int x3), some (.int x4), some (.int x5)] [] σ) := by
  unfold f_M_appendNewer_b15
  refine rb_TC.mono (rk_iload d_M_appendNewer_15 rfl) ?_
  refine rt_if_lt 86 d_M_appendNewer_17 (by decide) (fun _ => ?_) (fun _ => ?_)
  · refine rb_TC.out ?_
    refine rb_TC.mono (rk_iload_n 2 d_M_appendNewer_86 rfl rfl) ?_
    refine rb_TC.ite (fun hn => ?_) (fun _ => rb_TC.none)
    exact rt_iret (ty := .boolean) rfl (rb_nar_Z hn) (fun h => h) d_M_appendNewer_87
  · refine rb_TC.mono (rk_aload_n 0 d_M_appendNewer_20 rfl rfl) ?_
    refine rt_gR r0 fw_M_150 d_M_appendNewer_21 (fun r_3 => ?_)
    refine rb_TC.mono (rk_iload d_M_appendNewer_24 rfl) ?_
    refine rt_zald r_3 d_M_appendNewer_26 (fun x_4 => ?_)
    refine rt_if_eq 69 d_M_appendNewer_27 (by decide) (fun _ => ?_) (fun _ => ?_)
    · refine rb_TC.mono (rk_less (lv2 := [some (va_rf r0), some (.int x1), some (.int x2), some (.int x3), none, some (.int x5)]) (rb_le_ok (rb_leS (rb_leS (rb_leS (rb_leS (rb_leN (rb_leS rb_le0)))))))) ?_
      exact t_M_appendNewer_j69 hdd  (r0) (x1) (x2) (x3) (x5) σ
    · refine rb_TC.mono (rk_iload_n 2 d_M_appendNewer_30 rfl rfl) ?_
      refine rt_if_eq 65 d_M_appendNewer_31 (by decide) (fun _ => ?_) (fun _ => ?_)
      · refine rb_TC.mono (rk_less (lv2 := [some (va_rf r0), some (.int x1), none, none, none, some (.int x5)]) (rb_le_ok (rb_leS (rb_leS (rb_leN (rb_leN (rb_leN (rb_leS rb_le0)))))))) ?_
        exact t_M_appendNewer_j65 hdd  (r0) (x1) (x5) σ
      · refine rb_TC.mono (rk_iload_n 3 d_M_appendNewer_34 rfl rfl) ?_
        refine rt_if_eq 47 d_M_appendNewer_35 (by decide) (fun _ => ?_) (fun _ => ?_)
        · refine rb_TC.mono (rk_less (lv2 := [some (va_rf r0), some (.int x1), none, none, some (.int x4), some (.int x5)]) (rb_le_ok (rb_leS (rb_leS (rb_leN (rb_leN (rb_leS (rb_leS rb_le0)))))))) ?_
          exact t_M_appendNewer_j47 hdd  (r0) (x1) (x4) (x5) σ
        · refine rb_TC.mono (rk_aload_n 0 d_M_appendNewer_38 rfl rfl) ?_
          refine rb_TC.mono (rk_bipush (32 : Int32) d_M_appendNewer_39 (by decide)) ?_
          refine rt_vI (As := [.int (32 : Int32)]) (st := []) (r0) vw_M_206 (s_M_append (Nat.le_refl _) (r0) ((32 : Int32)) σ) (Nat.le_trans (by decide) hdd) rfl (by simp [rb_cat_r, rb_cat_i, rb_cat_l]) d_M_appendNewer_41 (fun x_11 σ_12 => ?_)
          refine rt_if_eq 65 d_M_appendNewer_44 (by decide) (fun _ => ?_) (fun _ => ?_)
          · refine rb_TC.mono (rk_less (lv2 := [some (va_rf r0), some (.int x1), none, none, none, some (.int x5)]) (rb_le_ok (rb_leS (rb_leS (rb_leN (rb_leN (rb_leN (rb_leS rb_le0)))))))) ?_
            exact t_M_appendNewer_j65 hdd  (r0) (x1) (x5) σ_12
          · refine rb_TC.mono (rk_less (lv2 := [some (va_rf r0), some (.int x1), none, none, some (.int x4), some (.int x5)]) (rb_le_ok (rb_leS (rb_leS (rb_leN (rb_leN (rb_leS (rb_leS rb_le0)))))))) ?_
            exact t_M_appendNewer_j47 hdd  (r0) (x1) (x4) (x5) σ_12
noncomputable def f_M_appendNewer (r0 : Option Nat) (x1 : Int32) (σ : rb_St) : Option rb_Rs :=
  (rb_fc σ r0 13).bind fun _ => rb_cI (f_M_dependency (r0) (x1) ((0 : Int32)) σ) fun x_1 σ_2 => rb_it (fun z : (Int32 × Int32 × Int32 × Int32 × rb_St) => f_M_appendNewer_b15 (r0) (x1) (z.1) (z.2.1) (z.2.2.1) (z.2.2.2.1) z.2.2.2.2) ((1 : Int32), (0 : Int32), x_1, (0 : Int32), σ_2)
theorem s_M_appendNewer {E : rb_EV} {d : Nat} (hdd : 2 ≤ d) (r0 : Option Nat) (x1 : Int32) (σ : rb_St) : rb_Does E k_M_appendNewer d [va_rf r0, .int x1] σ (f_M_appendNewer r0 x1 σ) := by
  refine rb_start (lv := [some (va_rf r0), some (.int x1), none, none, none, none]) (by decide) (by simp [lg_sl, rb_as, lv_args, rb_cat_r, rb_cat_i, rb_cat_l, rb_nL, k_M_appendNewer]) (fun res => ?_)
  unfold f_M_appendNewer
  refine rb_TC.mono (rk_iconst (1 : Int32) d_M_appendNewer_0 (by decide)) ?_
  refine rb_TC.mono (rk_istore_n (lv2 := [some (va_rf r0), some (.int x1), some (.int (1 : Int32)), none, none, none]) 2 d_M_appendNewer_1 rfl (by decide) (fun _ => rb_one_i) rfl) ?_
  refine rb_TC.mono (rk_iconst (0 : Int32) d_M_appendNewer_2 (by decide)) ?_
  refine rb_TC.mono (rk_istore_n (lv2 := [some (va_rf r0), some (.int x1), some (.int (1 : Int32)), some (.int (0 : Int32)), none, none]) 3 d_M_appendNewer_3 rfl (by decide) (fun _ => rb_one_i) rfl) ?_
  refine rb_TC.mono (rk_aload_n 0 d_M_appendNewer_4 rfl rfl) ?_
  refine rb_TC.mono (rk_iload_n 1 d_M_appendNewer_5 rfl rfl) ?_
  refine rb_TC.mono (rk_iconst (0 : Int32) d_M_appendNewer_6 (by decide)) ?_
  refine rt_vI (As := [.int x1, .int (0 : Int32)]) (st := []) (r0) vw_M_251 (s_M_dependency (Nat.le_refl _) (r0) (x1) ((0 : Int32)) σ) (Nat.le_trans (by decide) hdd) rfl (by simp [rb_cat_r, rb_cat_i, rb_cat_l]) d_M_appendNewer_7 (fun x_1 σ_2 => ?_)
  refine rb_TC.mono (rk_istore (lv2 := [some (va_rf r0), some (.int x1), some (.int (1 : Int32)), some (.int (0 : Int32)), some (.int x_1), none]) d_M_appendNewer_10 (by decide) (fun _ => rb_one_i) rfl) ?_
  refine rb_TC.mono (rk_iconst (0 : Int32) d_M_appendNewer_12 (by decide)) ?_
  refine rb_TC.mono (rk_istore (lv2 := [some (va_rf r0), some (.int x1), some (.int (1 : Int32)), some (.int (0 : Int32)), some (.int x_1), some (.int (0 : Int32))]) d_M_appendNewer_13 (by decide) (fun _ => rb_one_i) rfl) ?_
  exact rb_TC.loop2 (A := (fun z : (Int32 × Int32 × Int32 × Int32 × rb_St) => rb_WK E k_M_appendNewer d σ res 15 [some (va_rf r0), some (.int x1), some (.int z.1), some (.int z.2.1), some (.int z.2.2.1), some (.int z.2.2.2.1)] [] z.2.2.2.2)) ((1 : Int32), (0 : Int32), x_1, (0 : Int32), σ_2) (fun z => t_M_appendNewer_b15 hdd  (r0) (x1) (z.1) (z.2.1) (z.2.2.1) (z.2.2.2.1) z.2.2.2.2)
-- ===== RuleBuilderModel.automatic(I)Z
def k_M_automatic : rb_MK := (⟨"RuleBuilderModel", "automatic", "(I)Z"⟩, prog_14_method_25_code, 3, some (.boolean))
theorem mw_M_automatic : rb_Mw k_M_automatic 1 := ⟨rb_inG 1552 (by decide +kernel) rfl, rb_inG 94 (by decide +kernel) rfl, ⟨by decide, by decide, by decide +kernel⟩, by decide⟩
theorem fw_M_242 : rb_Fw "RuleBuilderModel" 242 13 68 := ⟨_, rfl, by decide, by decide, by decide, rfl, rb_inG 1288 (by decide +kernel) rfl⟩
theorem vw_M_248 : rb_Vw "RuleBuilderModel" 248 k_M_appendNewer 13 1 := ⟨mw_M_appendNewer, rb_inG 1557 (by decide +kernel) rfl, rb_inG 1559 (by decide +kernel) rfl, rb_inG 55 (by decide +kernel) rfl, by decide, by decide, _, rfl, rfl⟩
theorem d_M_automatic_0 : decode prog_14_method_25_code 0 = .ok (.aload_n 0, 1) := by decide +kernel
theorem d_M_automatic_1 : decode prog_14_method_25_code 1 = .ok (.getfield 242, 3) := by decide +kernel
theorem d_M_automatic_4 : decode prog_14_method_25_code 4 = .ok (.istore_n 2, 1) := by decide +kernel
theorem d_M_automatic_5 : decode prog_14_method_25_code 5 = .ok (.iload_n 1, 1) := by decide +kernel
theorem d_M_automatic_6 : decode prog_14_method_25_code 6 = .ok (.lookupswitch 142 #[(42, 108), (60, 53), (63, 136), (64, 42)], 42) := by decide +kernel
theorem d_M_automatic_48 : decode prog_14_method_25_code 48 = .ok (.aload_n 0, 1) := by decide +kernel
theorem d_M_automatic_49 : decode prog_14_method_25_code 49 = .ok (.aload_n 0, 1) := by decide +kernel
theorem d_M_automatic_50 : decode prog_14_method_25_code 50 = .ok (.getfield 13, 3) := by decide +kernel
theorem d_M_automatic_53 : decode prog_14_method_25_code 53 = .ok (.iload_n 2, 1) := by decide +kernel
theorem d_M_automatic_54 : decode prog_14_method_25_code 54 = .ok (.laload, 1) := by decide +kernel
theorem d_M_automatic_55 : decode prog_14_method_25_code 55 = .ok (.invokevirtual 245, 3) := by decide +kernel
theorem d_M_automatic_58 : decode prog_14_method_25_code 58 = .ok (.ireturn, 1) := by decide +kernel
theorem d_M_automatic_59 : decode prog_14_method_25_code 59 = .ok (.aload_n 0, 1) := by decide +kernel
theorem d_M_automatic_60 : decode prog_14_method_25_code 60 = .ok (.getfield 144, 3) := by decide +kernel
theorem d_M_automatic_63 : decode prog_14_method_25_code 63 = .ok (.iload_n 2, 1) := by decide +kernel
theorem d_M_automatic_64 : decode prog_14_method_25_code 64 = .ok (.baload, 1) := by decide +kernel
theorem d_M_automatic_65 : decode prog_14_method_25_code 65 = .ok (.ifCond .eq 16, 3) := by decide +kernel
theorem d_M_automatic_68 : decode prog_14_method_25_code 68 = .ok (.aload_n 0, 1) := by decide +kernel
theorem d_M_automatic_69 : decode prog_14_method_25_code 69 = .ok (.aload_n 0, 1) := by decide +kernel
theorem d_M_automatic_70 : decode prog_14_method_25_code 70 = .ok (.getfield 13, 3) := by decide +kernel
theorem d_M_automatic_73 : decode prog_14_method_25_code 73 = .ok (.iload_n 2, 1) := by decide +kernel
theorem d_M_automatic_74 : decode prog_14_method_25_code 74 = .ok (.laload, 1) := by decide +kernel
theorem d_M_automatic_75 : decode prog_14_method_25_code 75 = .ok (.invokevirtual 245, 3) := by decide +kernel
theorem d_M_automatic_78 : decode prog_14_method_25_code 78 = .ok (.goto 35, 3) := by decide +kernel
theorem d_M_automatic_81 : decode prog_14_method_25_code 81 = .ok (.aload_n 0, 1) := by decide +kernel
theorem d_M_automatic_82 : decode prog_14_method_25_code 82 = .ok (.getfield 135, 3) := by decide +kernel
theorem d_M_automatic_85 : decode prog_14_method_25_code 85 = .ok (.iload_n 2, 1) := by decide +kernel
theorem d_M_automatic_86 : decode prog_14_method_25_code 86 = .ok (.iaload, 1) := by decide +kernel
theorem d_M_automatic_87 : decode prog_14_method_25_code 87 = .ok (.ifCond .lt 21, 3) := by decide +kernel
theorem d_M_automatic_90 : decode prog_14_method_25_code 90 = .ok (.aload_n 0, 1) := by decide +kernel
theorem d_M_automatic_91 : decode prog_14_method_25_code 91 = .ok (.aload_n 0, 1) := by decide +kernel
theorem d_M_automatic_92 : decode prog_14_method_25_code 92 = .ok (.getfield 13, 3) := by decide +kernel
theorem d_M_automatic_95 : decode prog_14_method_25_code 95 = .ok (.aload_n 0, 1) := by decide +kernel
theorem d_M_automatic_96 : decode prog_14_method_25_code 96 = .ok (.getfield 135, 3) := by decide +kernel
theorem d_M_automatic_99 : decode prog_14_method_25_code 99 = .ok (.iload_n 2, 1) := by decide +kernel
theorem d_M_automatic_100 : decode prog_14_method_25_code 100 = .ok (.iaload, 1) := by decide +kernel
theorem d_M_automatic_101 : decode prog_14_method_25_code 101 = .ok (.laload, 1) := by decide +kernel
theorem d_M_automatic_102 : decode prog_14_method_25_code 102 = .ok (.invokevirtual 245, 3) := by decide +kernel
theorem d_M_automatic_105 : decode prog_14_method_25_code 105 = .ok (.ifCond .eq 7, 3) := by decide +kernel
theorem d_M_automatic_108 : decode prog_14_method_25_code 108 = .ok (.iconst 1, 1) := by decide +kernel
theorem d_M_automatic_109 : decode prog_14_method_25_code 109 = .ok (.goto 4, 3) := by decide +kernel
theorem d_M_automatic_112 : decode prog_14_method_25_code 112 = .ok (.iconst 0, 1) := by decide +kernel
theorem d_M_automatic_113 : decode prog_14_method_25_code 113 = .ok (.ireturn, 1) := by decide +kernel
theorem d_M_automatic_114 : decode prog_14_method_25_code 114 = .ok (.aload_n 0, 1) := by decide +kernel
theorem d_M_automatic_115 : decode prog_14_method_25_code 115 = .ok (.getfield 135, 3) := by decide +kernel
theorem d_M_automatic_118 : decode prog_14_method_25_code 118 = .ok (.iload_n 2, 1) := by decide +kernel
theorem d_M_automatic_119 : decode prog_14_method_25_code 119 = .ok (.iaload, 1) := by decide +kernel
theorem d_M_automatic_120 : decode prog_14_method_25_code 120 = .ok (.ifCond .lt 16, 3) := by decide +kernel
theorem d_M_automatic_123 : decode prog_14_method_25_code 123 = .ok (.aload_n 0, 1) := by decide +kernel
theorem d_M_automatic_124 : decode prog_14_method_25_code 124 = .ok (.aload_n 0, 1) := by decide +kernel
theorem d_M_automatic_125 : decode prog_14_method_25_code 125 = .ok (.getfield 138, 3) := by decide +kernel
theorem d_M_automatic_128 : decode prog_14_method_25_code 128 = .ok (.iload_n 2, 1) := by decide +kernel
theorem d_M_automatic_129 : decode prog_14_method_25_code 129 = .ok (.laload, 1) := by decide +kernel
theorem d_M_automatic_130 : decode prog_14_method_25_code 130 = .ok (.invokevirtual 245, 3) := by decide +kernel
theorem d_M_automatic_133 : decode prog_14_method_25_code 133 = .ok (.ifCond .eq 7, 3) := by decide +kernel
theorem d_M_automatic_136 : decode prog_14_method_25_code 136 = .ok (.iconst 1, 1) := by decide +kernel
theorem d_M_automatic_137 : decode prog_14_method_25_code 137 = .ok (.goto 4, 3) := by decide +kernel
theorem d_M_automatic_140 : decode prog_14_method_25_code 140 = .ok (.iconst 0, 1) := by decide +kernel
theorem d_M_automatic_141 : decode prog_14_method_25_code 141 = .ok (.ireturn, 1) := by decide +kernel
theorem d_M_automatic_142 : decode prog_14_method_25_code 142 = .ok (.aload_n 0, 1) := by decide +kernel
theorem d_M_automatic_143 : decode prog_14_method_25_code 143 = .ok (.iload_n 2, 1) := by decide +kernel
theorem d_M_automatic_144 : decode prog_14_method_25_code 144 = .ok (.invokevirtual 248, 3) := by decide +kernel
theorem d_M_automatic_147 : decode prog_14_method_25_code 147 = .ok (.ireturn, 1) := by decide +kernel
theorem d_M_automatic_148 : decode prog_14_method_25_code 148 = .ok (.iconst 0, 1) := by decide +kernel
theorem d_M_automatic_149 : decode prog_14_method_25_code 149 = .ok (.ireturn, 1) := by decide +kernel
noncomputable def f_M_automatic (r0 : Option Nat) (x1 : Int32) (σ : rb_St) : Option rb_Rs :=
  (rb_gI σ r0 13 68).bind fun x_1 => if x1 = 42 then ((rb_gR σ r0 13 61).bind fun r_3 => (rb_aI σ r_3 102 x_1).bind fun x_4 => if x_4 < 0 then (some (some (.int (1 : Int32)), σ)) else ((rb_gR σ r0 13 62).bind fun r_5 => (rb_aL σ r_5 103 x_1).bind fun y_6 => (rb_fc σ r0 13).bind fun _ => rb_cI (f_M_appendName (r0) (y_6) σ) fun x_7 σ_8 => if x_7 = 0 then (some (some (.int (0 : Int32)), σ_8)) else (some (some (.int (1 : Int32)), σ_8)))) else if x1 = 60 then ((rb_gR σ r0 13 64).bind fun r_10 => (rb_aI σ r_10 104 x_1).bind fun x_11 => if x_11 = 0 then ((rb_gR σ r0 13 61).bind fun r_12 => (rb_aI σ r_12 102 x_1).bind fun x_13 => if x_13 < 0 then (some (some (.int (1 : Int32)), σ)) else ((rb_gR σ r0 13 3).bind fun r_14 => (rb_gR σ r0 13 61).bind fun r_15 => (rb_aI σ r_15 102 x_1).bind fun x_16 => (rb_aL σ r_14 103 x_16).bind fun y_17 => (rb_fc σ r0 13).bind fun _ => rb_cI (f_M_appendName (r0) (y_17) σ) fun x_18 σ_19 => if x_18 = 0 then (some (some (.int (0 : Int32)), σ_19)) else (some (some (.int (1 : Int32)), σ_19)))) else ((rb_gR σ r0 13 3).bind fun r_20 => (rb_aL σ r_20 103 x_1).bind fun y_21 => (rb_fc σ r0 13).bind fun _ => rb_cI (f_M_appendName (r0) (y_21) σ) fun x_22 σ_23 => if rb_isZ x_22 then some (some (.int x_22), σ_23) else none)) else if x1 = 63 then ((rb_fc σ r0 13).bind fun _ => rb_cI (f_M_appendNewer (r0) (x_1) σ) fun x_25 σ_26 => if rb_isZ x_25 then some (some (.int x_25), σ_26) else none) else if x1 = 64 then ((rb_gR σ r0 13 3).bind fun r_28 => (rb_aL σ r_28 103 x_1).bind fun y_29 => (rb_fc σ r0 13).bind fun _ => rb_cI (f_M_appendName (r0) (y_29) σ) fun x_30 σ_31 => if rb_isZ x_30 then some (some (.int x_30), σ_31) else none) else (some (some (.int (0 : Int32)), σ))
theorem s_M_automatic {E : rb_EV} {d : Nat} (hdd : 3 ≤ d) (r0 : Option Nat) (x1 : Int32) (σ : rb_St) : rb_Does E k_M_automatic d [va_rf r0, .int x1] σ (f_M_automatic r0 x1 σ) := by
  refine rb_start (lv := [some (va_rf r0), some (.int x1), none]) (by decide) (by simp [lg_sl, rb_as, lv_args, rb_cat_r, rb_cat_i, rb_cat_l, rb_nL, k_M_automatic]) (fun res => ?_)
  unfold f_M_automatic
  refine rb_TC.mono (rk_aload_n 0 d_M_automatic_0 rfl rfl) ?_
  refine rt_gI r0 fw_M_242 d_M_automatic_1 (fun x_1 => ?_)
  refine rb_TC.mono (rk_istore_n (lv2 := [some (va_rf r0), some (.int x1), some (.int x_1)]) 2 d_M_automatic_4 rfl (by decide) (fun _ => rb_one_i) rfl) ?_
  refine rb_TC.mono (rk_iload_n 1 d_M_automatic_5 rfl rfl) ?_
  refine rb_TC.ite (fun h_2 => ?_) (fun h_2 => ?_)
  · refine rb_TC.mono (rk_look (off := 108) 114 d_M_automatic_6 (by decide) (by rw [h_2]; decide) (by decide)) ?_
    refine rb_TC.mono (rk_aload_n 0 d_M_automatic_114 rfl rfl) ?_
    refine rt_gR r0 fw_M_135 d_M_automatic_115 (fun r_3 => ?_)
    refine rb_TC.mono (rk_iload_n 2 d_M_automatic_118 rfl rfl) ?_
    refine rt_iald r_3 d_M_automatic_119 (fun x_4 => ?_)
    refine rt_if_lt 136 d_M_automatic_120 (by decide) (fun _ => ?_) (fun _ => ?_)
    · refine rb_TC.mono (rk_iconst (1 : Int32) d_M_automatic_136 (by decide)) ?_
      refine rb_TC.mono (rk_goto 141 d_M_automatic_137 (by decide)) ?_
      exact rt_iret (ty := .boolean) rfl (by decide) (fun h => h) d_M_automatic_141
    · refine rb_TC.mono (rk_aload_n 0 d_M_automatic_123 rfl rfl) ?_
      refine rb_TC.mono (rk_aload_n 0 d_M_automatic_124 rfl rfl) ?_
      refine rt_gR r0 fw_M_138 d_M_automatic_125 (fun r_5 => ?_)
      refine rb_TC.mono (rk_iload_n 2 d_M_automatic_128 rfl rfl) ?_
      refine rt_lald r_5 d_M_automatic_129 (fun y_6 => ?_)
      refine rt_vI (As := [.long y_6]) (st := []) (r0) vw_M_245 (s_M_appendName (Nat.le_refl _) (r0) (y_6) σ) (Nat.le_trans (by decide) hdd) rfl (by simp [rb_cat_r, rb_cat_i, rb_cat_l]) d_M_automatic_130 (fun x_7 σ_8 => ?_)
      refine rt_if_eq 140 d_M_automatic_133 (by decide) (fun _ => ?_) (fun _ => ?_)
      · refine rb_TC.mono (rk_iconst (0 : Int32) d_M_automatic_140 (by decide)) ?_
        exact rt_iret (ty := .boolean) rfl (by decide) (fun h => h) d_M_automatic_141
      · refine rb_TC.mono (rk_iconst (1 : Int32) d_M_automatic_136 (by decide)) ?_
        refine rb_TC.mono (rk_goto 141 d_M_automatic_137 (by decide)) ?_
        exact rt_iret (ty := .boolean) rfl (by decide) (fun h => h) d_M_automatic_141
  refine rb_TC.ite (fun h_9 => ?_) (fun h_9 => ?_)
  · refine rb_TC.mono (rk_look (off := 53) 59 d_M_automatic_6 (by decide) (by rw [h_9]; decide) (by decide)) ?_
    refine rb_TC.mono (rk_aload_n 0 d_M_automatic_59 rfl rfl) ?_
    refine rt_gR r0 fw_M_144 d_M_automatic_60 (fun r_10 => ?_)
    refine rb_TC.mono (rk_iload_n 2 d_M_automatic_63 rfl rfl) ?_
    refine rt_zald r_10 d_M_automatic_64 (fun x_11 => ?_)
    refine rt_if_eq 81 d_M_automatic_65 (by decide) (fun _ => ?_) (fun _ => ?_)
    · refine rb_TC.mono (rk_aload_n 0 d_M_automatic_81 rfl rfl) ?_
      refine rt_gR r0 fw_M_135 d_M_automatic_82 (fun r_12 => ?_)
      refine rb_TC.mono (rk_iload_n 2 d_M_automatic_85 rfl rfl) ?_
      refine rt_iald r_12 d_M_automatic_86 (fun x_13 => ?_)
      refine rt_if_lt 108 d_M_automatic_87 (by decide) (fun _ => ?_) (fun _ => ?_)
      · refine rb_TC.mono (rk_iconst (1 : Int32) d_M_automatic_108 (by decide)) ?_
        refine rb_TC.mono (rk_goto 113 d_M_automatic_109 (by decide)) ?_
        exact rt_iret (ty := .boolean) rfl (by decide) (fun h => h) d_M_automatic_113
      · refine rb_TC.mono (rk_aload_n 0 d_M_automatic_90 rfl rfl) ?_
        refine rb_TC.mono (rk_aload_n 0 d_M_automatic_91 rfl rfl) ?_
        refine rt_gR r0 fw_M_13 d_M_automatic_92 (fun r_14 => ?_)
        refine rb_TC.mono (rk_aload_n 0 d_M_automatic_95 rfl rfl) ?_
        refine rt_gR r0 fw_M_135 d_M_automatic_96 (fun r_15 => ?_)
        refine rb_TC.mono (rk_iload_n 2 d_M_automatic_99 rfl rfl) ?_
        refine rt_iald r_15 d_M_automatic_100 (fun x_16 => ?_)
        refine rt_lald r_14 d_M_automatic_101 (fun y_17 => ?_)
        refine rt_vI (As := [.long y_17]) (st := []) (r0) vw_M_245 (s_M_appendName (Nat.le_refl _) (r0) (y_17) σ) (Nat.le_trans (by decide) hdd) rfl (by simp [rb_cat_r, rb_cat_i, rb_cat_l]) d_M_automatic_102 (fun x_18 σ_19 => ?_)
        refine rt_if_eq 112 d_M_automatic_105 (by decide) (fun _ => ?_) (fun _ => ?_)
        · refine rb_TC.mono (rk_iconst (0 : Int32) d_M_automatic_112 (by decide)) ?_
          exact rt_iret (ty := .boolean) rfl (by decide) (fun h => h) d_M_automatic_113
        · refine rb_TC.mono (rk_iconst (1 : Int32) d_M_automatic_108 (by decide)) ?_
          refine rb_TC.mono (rk_goto 113 d_M_automatic_109 (by decide)) ?_
          exact rt_iret (ty := .boolean) rfl (by decide) (fun h => h) d_M_automatic_113
    · refine rb_TC.mono (rk_aload_n 0 d_M_automatic_68 rfl rfl) ?_
      refine rb_TC.mono (rk_aload_n 0 d_M_automatic_69 rfl rfl) ?_
      refine rt_gR r0 fw_M_13 d_M_automatic_70 (fun r_20 => ?_)
      refine rb_TC.mono (rk_iload_n 2 d_M_automatic_73 rfl rfl) ?_
      refine rt_lald r_20 d_M_automatic_74 (fun y_21 => ?_)
      refine rt_vI (As := [.long y_21]) (st := []) (r0) vw_M_245 (s_M_appendName (Nat.le_refl _) (r0) (y_21) σ) (Nat.le_trans (by decide) hdd) rfl (by simp [rb_cat_r, rb_cat_i, rb_cat_l]) d_M_automatic_75 (fun x_22 σ_23 => ?_)
      refine rb_TC.mono (rk_goto 113 d_M_automatic_78 (by decide)) ?_
      refine rb_TC.ite (fun hn => ?_) (fun _ => rb_TC.none)
      exact rt_iret (ty := .boolean) rfl (rb_nar_Z hn) (fun h => h) d_M_automatic_113
  refine rb_TC.ite (fun h_24 => ?_) (fun h_24 => ?_)
  · refine rb_TC.mono (rk_look (off := 136) 142 d_M_automatic_6 (by decide) (by rw [h_24]; decide) (by decide)) ?_
    refine rb_TC.mono (rk_aload_n 0 d_M_automatic_142 rfl rfl) ?_
    refine rb_TC.mono (rk_iload_n 2 d_M_automatic_143 rfl rfl) ?_
    refine rt_vI (As := [.int x_1]) (st := []) (r0) vw_M_248 (s_M_appendNewer (Nat.le_refl _) (r0) (x_1) σ) (Nat.le_trans (by decide) hdd) rfl (by simp [rb_cat_r, rb_cat_i, rb_cat_l]) d_M_automatic_144 (fun x_25 σ_26 => ?_)
    refine rb_TC.ite (fun hn => ?_) (fun _ => rb_TC.none)
    exact rt_iret (ty := .boolean) rfl (rb_nar_Z hn) (fun h => h) d_M_automatic_147
  refine rb_TC.ite (fun h_27 => ?_) (fun h_27 => ?_)
  · refine rb_TC.mono (rk_look (off := 42) 48 d_M_automatic_6 (by decide) (by rw [h_27]; decide) (by decide)) ?_
    refine rb_TC.mono (rk_aload_n 0 d_M_automatic_48 rfl rfl) ?_
    refine rb_TC.mono (rk_aload_n 0 d_M_automatic_49 rfl rfl) ?_
    refine rt_gR r0 fw_M_13 d_M_automatic_50 (fun r_28 => ?_)
    refine rb_TC.mono (rk_iload_n 2 d_M_automatic_53 rfl rfl) ?_
    refine rt_lald r_28 d_M_automatic_54 (fun y_29 => ?_)
    refine rt_vI (As := [.long y_29]) (st := []) (r0) vw_M_245 (s_M_appendName (Nat.le_refl _) (r0) (y_29) σ) (Nat.le_trans (by decide) hdd) rfl (by simp [rb_cat_r, rb_cat_i, rb_cat_l]) d_M_automatic_55 (fun x_30 σ_31 => ?_)
    refine rb_TC.ite (fun hn => ?_) (fun _ => rb_TC.none)
    exact rt_iret (ty := .boolean) rfl (rb_nar_Z hn) (fun h => h) d_M_automatic_58
  refine rb_TC.mono (rk_look (off := 142) 148 d_M_automatic_6 (by decide) ((lv_osw h_2 (by decide)).trans ((lv_osw h_9 (by decide)).trans ((lv_osw h_24 (by decide)).trans ((lv_osw h_27 (by decide)).trans rfl)))) (by decide)) ?_
  refine rb_TC.mono (rk_iconst (0 : Int32) d_M_automatic_148 (by decide)) ?_
  exact rt_iret (ty := .boolean) rfl (by decide) (fun h => h) d_M_automatic_149
-- ===== RuleBuilderModel.dollar(Z)Z
def k_M_dollar : rb_MK := (⟨"RuleBuilderModel", "dollar", "(Z)Z"⟩, prog_14_method_19_code, 3, some (.boolean))
theorem mw_M_dollar : rb_Mw k_M_dollar 1 := ⟨rb_inG 1536 (by decide +kernel) rfl, rb_inG 94 (by decide +kernel) rfl, ⟨by decide, by decide, by decide +kernel⟩, by decide⟩
theorem vw_M_228 : rb_Vw "RuleBuilderModel" 228 k_M_parenthesis 13 0 := ⟨mw_M_parenthesis, rb_inG 1545 (by decide +kernel) rfl, rb_inG 1547 (by decide +kernel) rfl, rb_inG 52 (by decide +kernel) rfl, by decide, by decide, _, rfl, rfl⟩
theorem vw_M_231 : rb_Vw "RuleBuilderModel" 231 k_M_automatic 13 1 := ⟨mw_M_automatic, rb_inG 1549 (by decide +kernel) rfl, rb_inG 1551 (by decide +kernel) rfl, rb_inG 53 (by decide +kernel) rfl, by decide, by decide, _, rfl, rfl⟩
theorem d_M_dollar_0 : decode prog_14_method_19_code 0 = .ok (.aload_n 0, 1) := by decide +kernel
theorem d_M_dollar_1 : decode prog_14_method_19_code 1 = .ok (.getfield 105, 3) := by decide +kernel
theorem d_M_dollar_4 : decode prog_14_method_19_code 4 = .ok (.aload_n 0, 1) := by decide +kernel
theorem d_M_dollar_5 : decode prog_14_method_19_code 5 = .ok (.getfield 209, 3) := by decide +kernel
theorem d_M_dollar_8 : decode prog_14_method_19_code 8 = .ok (.iaload, 1) := by decide +kernel
theorem d_M_dollar_9 : decode prog_14_method_19_code 9 = .ok (.aload_n 0, 1) := by decide +kernel
theorem d_M_dollar_10 : decode prog_14_method_19_code 10 = .ok (.getfield 108, 3) := by decide +kernel
theorem d_M_dollar_13 : decode prog_14_method_19_code 13 = .ok (.aload_n 0, 1) := by decide +kernel
theorem d_M_dollar_14 : decode prog_14_method_19_code 14 = .ok (.getfield 209, 3) := by decide +kernel
theorem d_M_dollar_17 : decode prog_14_method_19_code 17 = .ok (.iaload, 1) := by decide +kernel
theorem d_M_dollar_18 : decode prog_14_method_19_code 18 = .ok (.if_icmp .ne 5, 3) := by decide +kernel
theorem d_M_dollar_21 : decode prog_14_method_19_code 21 = .ok (.iconst 0, 1) := by decide +kernel
theorem d_M_dollar_22 : decode prog_14_method_19_code 22 = .ok (.ireturn, 1) := by decide +kernel
theorem d_M_dollar_23 : decode prog_14_method_19_code 23 = .ok (.aload_n 0, 1) := by decide +kernel
theorem d_M_dollar_24 : decode prog_14_method_19_code 24 = .ok (.aload_n 0, 1) := by decide +kernel
theorem d_M_dollar_25 : decode prog_14_method_19_code 25 = .ok (.getfield 209, 3) := by decide +kernel
theorem d_M_dollar_28 : decode prog_14_method_19_code 28 = .ok (.aload_n 0, 1) := by decide +kernel
theorem d_M_dollar_29 : decode prog_14_method_19_code 29 = .ok (.getfield 105, 3) := by decide +kernel
theorem d_M_dollar_32 : decode prog_14_method_19_code 32 = .ok (.aload_n 0, 1) := by decide +kernel
theorem d_M_dollar_33 : decode prog_14_method_19_code 33 = .ok (.getfield 209, 3) := by decide +kernel
theorem d_M_dollar_36 : decode prog_14_method_19_code 36 = .ok (.iaload, 1) := by decide +kernel
theorem d_M_dollar_37 : decode prog_14_method_19_code 37 = .ok (.invokevirtual 216, 3) := by decide +kernel
theorem d_M_dollar_40 : decode prog_14_method_19_code 40 = .ok (.istore_n 2, 1) := by decide +kernel
theorem d_M_dollar_41 : decode prog_14_method_19_code 41 = .ok (.aload_n 0, 1) := by decide +kernel
theorem d_M_dollar_42 : decode prog_14_method_19_code 42 = .ok (.getfield 105, 3) := by decide +kernel
theorem d_M_dollar_45 : decode prog_14_method_19_code 45 = .ok (.aload_n 0, 1) := by decide +kernel
theorem d_M_dollar_46 : decode prog_14_method_19_code 46 = .ok (.getfield 209, 3) := by decide +kernel
theorem d_M_dollar_49 : decode prog_14_method_19_code 49 = .ok (.dup2, 1) := by decide +kernel
theorem d_M_dollar_50 : decode prog_14_method_19_code 50 = .ok (.iaload, 1) := by decide +kernel
theorem d_M_dollar_51 : decode prog_14_method_19_code 51 = .ok (.iconst 1, 1) := by decide +kernel
theorem d_M_dollar_52 : decode prog_14_method_19_code 52 = .ok (.iadd, 1) := by decide +kernel
theorem d_M_dollar_53 : decode prog_14_method_19_code 53 = .ok (.iastore, 1) := by decide +kernel
theorem d_M_dollar_54 : decode prog_14_method_19_code 54 = .ok (.iload_n 2, 1) := by decide +kernel
theorem d_M_dollar_55 : decode prog_14_method_19_code 55 = .ok (.bipush 36, 2) := by decide +kernel
theorem d_M_dollar_57 : decode prog_14_method_19_code 57 = .ok (.if_icmp .ne 9, 3) := by decide +kernel
theorem d_M_dollar_60 : decode prog_14_method_19_code 60 = .ok (.aload_n 0, 1) := by decide +kernel
theorem d_M_dollar_61 : decode prog_14_method_19_code 61 = .ok (.iload_n 2, 1) := by decide +kernel
theorem d_M_dollar_62 : decode prog_14_method_19_code 62 = .ok (.invokevirtual 206, 3) := by decide +kernel
theorem d_M_dollar_65 : decode prog_14_method_19_code 65 = .ok (.ireturn, 1) := by decide +kernel
theorem d_M_dollar_66 : decode prog_14_method_19_code 66 = .ok (.iload_n 2, 1) := by decide +kernel
theorem d_M_dollar_67 : decode prog_14_method_19_code 67 = .ok (.invokestatic 163, 3) := by decide +kernel
theorem d_M_dollar_70 : decode prog_14_method_19_code 70 = .ok (.ifCond .eq 15, 3) := by decide +kernel
theorem d_M_dollar_73 : decode prog_14_method_19_code 73 = .ok (.aload_n 0, 1) := by decide +kernel
theorem d_M_dollar_74 : decode prog_14_method_19_code 74 = .ok (.iload_n 2, 1) := by decide +kernel
theorem d_M_dollar_75 : decode prog_14_method_19_code 75 = .ok (.bipush 65, 2) := by decide +kernel
theorem d_M_dollar_77 : decode prog_14_method_19_code 77 = .ok (.isub, 1) := by decide +kernel
theorem d_M_dollar_78 : decode prog_14_method_19_code 78 = .ok (.iconst (-1), 1) := by decide +kernel
theorem d_M_dollar_79 : decode prog_14_method_19_code 79 = .ok (.iconst (-1), 1) := by decide +kernel
theorem d_M_dollar_80 : decode prog_14_method_19_code 80 = .ok (.iconst (-1), 1) := by decide +kernel
theorem d_M_dollar_81 : decode prog_14_method_19_code 81 = .ok (.invokevirtual 224, 3) := by decide +kernel
theorem d_M_dollar_84 : decode prog_14_method_19_code 84 = .ok (.ireturn, 1) := by decide +kernel
theorem d_M_dollar_85 : decode prog_14_method_19_code 85 = .ok (.iload_n 2, 1) := by decide +kernel
theorem d_M_dollar_86 : decode prog_14_method_19_code 86 = .ok (.bipush 40, 2) := by decide +kernel
theorem d_M_dollar_88 : decode prog_14_method_19_code 88 = .ok (.if_icmp .ne 8, 3) := by decide +kernel
theorem d_M_dollar_91 : decode prog_14_method_19_code 91 = .ok (.aload_n 0, 1) := by decide +kernel
theorem d_M_dollar_92 : decode prog_14_method_19_code 92 = .ok (.invokevirtual 228, 3) := by decide +kernel
theorem d_M_dollar_95 : decode prog_14_method_19_code 95 = .ok (.ireturn, 1) := by decide +kernel
theorem d_M_dollar_96 : decode prog_14_method_19_code 96 = .ok (.iload_n 1, 1) := by decide +kernel
theorem d_M_dollar_97 : decode prog_14_method_19_code 97 = .ok (.ifCond .eq 15, 3) := by decide +kernel
theorem d_M_dollar_100 : decode prog_14_method_19_code 100 = .ok (.aload_n 0, 1) := by decide +kernel
theorem d_M_dollar_101 : decode prog_14_method_19_code 101 = .ok (.iload_n 2, 1) := by decide +kernel
theorem d_M_dollar_102 : decode prog_14_method_19_code 102 = .ok (.invokevirtual 231, 3) := by decide +kernel
theorem d_M_dollar_105 : decode prog_14_method_19_code 105 = .ok (.ifCond .eq 7, 3) := by decide +kernel
theorem d_M_dollar_108 : decode prog_14_method_19_code 108 = .ok (.iconst 1, 1) := by decide +kernel
theorem d_M_dollar_109 : decode prog_14_method_19_code 109 = .ok (.goto 4, 3) := by decide +kernel
theorem d_M_dollar_112 : decode prog_14_method_19_code 112 = .ok (.iconst 0, 1) := by decide +kernel
theorem d_M_dollar_113 : decode prog_14_method_19_code 113 = .ok (.ireturn, 1) := by decide +kernel
noncomputable def f_M_dollar (r0 : Option Nat) (x1 : Int32) (σ : rb_St) : Option rb_Rs :=
  (rb_gR σ r0 13 50).bind fun r_1 => (rb_gI σ r0 13 48).bind fun x_2 => (rb_aI σ r_1 102 x_2).bind fun x_3 => (rb_gR σ r0 13 51).bind fun r_4 => (rb_gI σ r0 13 48).bind fun x_5 => (rb_aI σ r_4 102 x_5).bind fun x_6 => if x_3 = x_6 then (some (some (.int (0 : Int32)), σ)) else ((rb_gI σ r0 13 48).bind fun x_7 => (rb_gR σ r0 13 50).bind fun r_8 => (rb_gI σ r0 13 48).bind fun x_9 => (rb_aI σ r_8 102 x_9).bind fun x_10 => (rb_fc σ r0 13).bind fun _ => rb_cI (f_M_charAt (r0) (x_7) (x_10) σ) fun x_11 σ_12 => (rb_gR σ_12 r0 13 50).bind fun r_13 => (rb_gI σ_12 r0 13 48).bind fun x_14 => (rb_aI σ_12 r_13 102 x_14).bind fun x_15 => (rb_sI σ_12 r_13 102 x_14 (x_15 + (1 : Int32))).bind fun σ_16 => if x_11 = (36 : Int32) then ((rb_fc σ_16 r0 13).bind fun _ => rb_cI (f_M_append (r0) (x_11) σ_16) fun x_17 σ_18 => if rb_isZ x_17 then some (some (.int x_17), σ_18) else none) else (rb_cI (f_M_capital (x_11) σ_16) fun x_19 σ_20 => if x_19 = 0 then (if x_11 = (40 : Int32) then ((rb_fc σ_20 r0 13).bind fun _ => rb_cI (f_M_parenthesis (r0)  σ_20) fun x_21 σ_22 => if rb_isZ x_21 then some (some (.int x_21), σ_22) else none) else (if x1 = 0 then (some (some (.int (0 : Int32)), σ_20)) else ((rb_fc σ_20 r0 13).bind fun _ => rb_cI (f_M_automatic (r0) (x_11) σ_20) fun x_23 σ_24 => if x_23 = 0 then (some (some (.int (0 : Int32)), σ_24)) else (some (some (.int (1 : Int32)), σ_24))))) else ((rb_fc σ_20 r0 13).bind fun _ => rb_cI (f_M_enter (r0) ((x_11 - (65 : Int32))) ((-1 : Int32)) ((-1 : Int32)) ((-1 : Int32)) σ_20) fun x_25 σ_26 => if rb_isZ x_25 then some (some (.int x_25), σ_26) else none)))
theorem s_M_dollar {E : rb_EV} {d : Nat} (hdd : 4 ≤ d) (r0 : Option Nat) (x1 : Int32) (σ : rb_St) : rb_Does E k_M_dollar d [va_rf r0, .int x1] σ (f_M_dollar r0 x1 σ) := by
  refine rb_start (lv := [some (va_rf r0), some (.int x1), none]) (by decide) (by simp [lg_sl, rb_as, lv_args, rb_cat_r, rb_cat_i, rb_cat_l, rb_nL, k_M_dollar]) (fun res => ?_)
  unfold f_M_dollar
  refine rb_TC.mono (rk_aload_n 0 d_M_dollar_0 rfl rfl) ?_
  refine rt_gR r0 fw_M_105 d_M_dollar_1 (fun r_1 => ?_)
  refine rb_TC.mono (rk_aload_n 0 d_M_dollar_4 rfl rfl) ?_
  refine rt_gI r0 fw_M_209 d_M_dollar_5 (fun x_2 => ?_)
  refine rt_iald r_1 d_M_dollar_8 (fun x_3 => ?_)
  refine rb_TC.mono (rk_aload_n 0 d_M_dollar_9 rfl rfl) ?_
  refine rt_gR r0 fw_M_108 d_M_dollar_10 (fun r_4 => ?_)
  refine rb_TC.mono (rk_aload_n 0 d_M_dollar_13 rfl rfl) ?_
  refine rt_gI r0 fw_M_209 d_M_dollar_14 (fun x_5 => ?_)
  refine rt_iald r_4 d_M_dollar_17 (fun x_6 => ?_)
  refine rt_icmp_ne 23 d_M_dollar_18 (by decide) (fun _ => ?_) (fun _ => ?_)
  · refine rb_TC.mono (rk_iconst (0 : Int32) d_M_dollar_21 (by decide)) ?_
    exact rt_iret (ty := .boolean) rfl (by decide) (fun h => h) d_M_dollar_22
  · refine rb_TC.mono (rk_aload_n 0 d_M_dollar_23 rfl rfl) ?_
    refine rb_TC.mono (rk_aload_n 0 d_M_dollar_24 rfl rfl) ?_
    refine rt_gI r0 fw_M_209 d_M_dollar_25 (fun x_7 => ?_)
    refine rb_TC.mono (rk_aload_n 0 d_M_dollar_28 rfl rfl) ?_
    refine rt_gR r0 fw_M_105 d_M_dollar_29 (fun r_8 => ?_)
    refine rb_TC.mono (rk_aload_n 0 d_M_dollar_32 rfl rfl) ?_
    refine rt_gI r0 fw_M_209 d_M_dollar_33 (fun x_9 => ?_)
    refine rt_iald r_8 d_M_dollar_36 (fun x_10 => ?_)
    refine rt_vI (As := [.int x_7, .int x_10]) (st := []) (r0) vw_M_216 (s_M_charAt (Nat.le_refl _) (r0) (x_7) (x_10) σ) (Nat.le_trans (by decide) hdd) rfl (by simp [rb_cat_r, rb_cat_i, rb_cat_l]) d_M_dollar_37 (fun x_11 σ_12 => ?_)
    refine rb_TC.mono (rk_istore_n (lv2 := [some (va_rf r0), some (.int x1), some (.int x_11)]) 2 d_M_dollar_40 rfl (by decide) (fun _ => rb_one_i) rfl) ?_
    refine rb_TC.mono (rk_aload_n 0 d_M_dollar_41 rfl rfl) ?_
    refine rt_gR r0 fw_M_105 d_M_dollar_42 (fun r_13 => ?_)
    refine rb_TC.mono (rk_aload_n 0 d_M_dollar_45 rfl rfl) ?_
    refine rt_gI r0 fw_M_209 d_M_dollar_46 (fun x_14 => ?_)
    refine rb_TC.mono (rk_dup2ir d_M_dollar_49) ?_
    refine rt_iald r_13 d_M_dollar_50 (fun x_15 => ?_)
    refine rb_TC.mono (rk_iconst (1 : Int32) d_M_dollar_51 (by decide)) ?_
    refine rb_TC.mono (rk_iadd d_M_dollar_52) ?_
    refine rt_iast r_13 d_M_dollar_53 (fun σ_16 => ?_)
    refine rb_TC.mono (rk_iload_n 2 d_M_dollar_54 rfl rfl) ?_
    refine rb_TC.mono (rk_bipush (36 : Int32) d_M_dollar_55 (by decide)) ?_
    refine rt_icmp_ne 66 d_M_dollar_57 (by decide) (fun _ => ?_) (fun _ => ?_)
    · refine rb_TC.mono (rk_aload_n 0 d_M_dollar_60 rfl rfl) ?_
      refine rb_TC.mono (rk_iload_n 2 d_M_dollar_61 rfl rfl) ?_
      refine rt_vI (As := [.int x_11]) (st := []) (r0) vw_M_206 (s_M_append (Nat.le_refl _) (r0) (x_11) σ_16) (Nat.le_trans (by decide) hdd) rfl (by simp [rb_cat_r, rb_cat_i, rb_cat_l]) d_M_dollar_62 (fun x_17 σ_18 => ?_)
      refine rb_TC.ite (fun hn => ?_) (fun _ => rb_TC.none)
      exact rt_iret (ty := .boolean) rfl (rb_nar_Z hn) (fun h => h) d_M_dollar_65
    · refine rb_TC.mono (rk_iload_n 2 d_M_dollar_66 rfl rfl) ?_
      refine rt_sI (As := [.int x_11]) (st := []) sw_M_163 (s_M_capital (Nat.le_refl _) (x_11) σ_16) (Nat.le_trans (by decide) hdd) rfl (by simp [rb_cat_r, rb_cat_i, rb_cat_l]) d_M_dollar_67 (fun x_19 σ_20 => ?_)
      refine rt_if_eq 85 d_M_dollar_70 (by decide) (fun _ => ?_) (fun _ => ?_)
      · refine rb_TC.mono (rk_iload_n 2 d_M_dollar_85 rfl rfl) ?_
        refine rb_TC.mono (rk_bipush (40 : Int32) d_M_dollar_86 (by decide)) ?_
        refine rt_icmp_ne 96 d_M_dollar_88 (by decide) (fun _ => ?_) (fun _ => ?_)
        · refine rb_TC.mono (rk_aload_n 0 d_M_dollar_91 rfl rfl) ?_
          refine rt_vI (As := []) (st := []) (r0) vw_M_228 (s_M_parenthesis (Nat.le_refl _) (r0)  σ_20) (Nat.le_trans (by decide) hdd) rfl (by simp [rb_cat_r, rb_cat_i, rb_cat_l]) d_M_dollar_92 (fun x_21 σ_22 => ?_)
          refine rb_TC.ite (fun hn => ?_) (fun _ => rb_TC.none)
          exact rt_iret (ty := .boolean) rfl (rb_nar_Z hn) (fun h => h) d_M_dollar_95
        · refine rb_TC.mono (rk_iload_n 1 d_M_dollar_96 rfl rfl) ?_
          refine rt_if_eq 112 d_M_dollar_97 (by decide) (fun _ => ?_) (fun _ => ?_)
          · refine rb_TC.mono (rk_iconst (0 : Int32) d_M_dollar_112 (by decide)) ?_
            exact rt_iret (ty := .boolean) rfl (by decide) (fun h => h) d_M_dollar_113
          · refine rb_TC.mono (rk_aload_n 0 d_M_dollar_100 rfl rfl) ?_
            refine rb_TC.mono (rk_iload_n 2 d_M_dollar_101 rfl rfl) ?_
            refine rt_vI (As := [.int x_11]) (st := []) (r0) vw_M_231 (s_M_automatic (Nat.le_refl _) (r0) (x_11) σ_20) (Nat.le_trans (by decide) hdd) rfl (by simp [rb_cat_r, rb_cat_i, rb_cat_l]) d_M_dollar_102 (fun x_23 σ_24 => ?_)
            refine rt_if_eq 112 d_M_dollar_105 (by decide) (fun _ => ?_) (fun _ => ?_)
            · refine rb_TC.mono (rk_iconst (0 : Int32) d_M_dollar_112 (by decide)) ?_
              exact rt_iret (ty := .boolean) rfl (by decide) (fun h => h) d_M_dollar_113
            · refine rb_TC.mono (rk_iconst (1 : Int32) d_M_dollar_108 (by decide)) ?_
              refine rb_TC.mono (rk_goto 113 d_M_dollar_109 (by decide)) ?_
              exact rt_iret (ty := .boolean) rfl (by decide) (fun h => h) d_M_dollar_113
      · refine rb_TC.mono (rk_aload_n 0 d_M_dollar_73 rfl rfl) ?_
        refine rb_TC.mono (rk_iload_n 2 d_M_dollar_74 rfl rfl) ?_
        refine rb_TC.mono (rk_bipush (65 : Int32) d_M_dollar_75 (by decide)) ?_
        refine rb_TC.mono (rk_isub d_M_dollar_77) ?_
        refine rb_TC.mono (rk_iconst (-1 : Int32) d_M_dollar_78 (by decide)) ?_
        refine rb_TC.mono (rk_iconst (-1 : Int32) d_M_dollar_79 (by decide)) ?_
        refine rb_TC.mono (rk_iconst (-1 : Int32) d_M_dollar_80 (by decide)) ?_
        refine rt_vI (As := [.int (x_11 - (65 : Int32)), .int (-1 : Int32), .int (-1 : Int32), .int (-1 : Int32)]) (st := []) (r0) vw_M_224 (s_M_enter (Nat.le_refl _) (r0) ((x_11 - (65 : Int32))) ((-1 : Int32)) ((-1 : Int32)) ((-1 : Int32)) σ_20) (Nat.le_trans (by decide) hdd) rfl (by simp [rb_cat_r, rb_cat_i, rb_cat_l]) d_M_dollar_81 (fun x_25 σ_26 => ?_)
        refine rb_TC.ite (fun hn => ?_) (fun _ => rb_TC.none)
        exact rt_iret (ty := .boolean) rfl (rb_nar_Z hn) (fun h => h) d_M_dollar_84
-- ===== RuleBuilderModel.expand(IIZ)Z
def k_M_expand : rb_MK := (⟨"RuleBuilderModel", "expand", "(IIZ)Z"⟩, prog_14_method_18_code, 6, some (.boolean))
theorem mw_M_expand : rb_Mw k_M_expand 3 := ⟨rb_inG 1516 (by decide +kernel) rfl, rb_inG 94 (by decide +kernel) rfl, ⟨by decide, by decide, by decide +kernel⟩, by decide⟩
theorem fp_M_expand_203 : rb_Fp k_M_expand 203 13 44 .int := ⟨fw_M_203, rfl, fun q h => by cases h; exact Or.inl rfl⟩
theorem fp_M_expand_209 : rb_Fp k_M_expand 209 13 48 .int := ⟨fw_M_209, rfl, fun q h => by cases h; exact Or.inl rfl⟩
theorem vw_M_212 : rb_Vw "RuleBuilderModel" 212 k_M_leave 13 0 := ⟨mw_M_leave, rb_inG 1517 (by decide +kernel) rfl, rb_inG 1519 (by decide +kernel) rfl, rb_inG 45 (by decide +kernel) rfl, by decide, by decide, _, rfl, rfl⟩
theorem vw_M_220 : rb_Vw "RuleBuilderModel" 220 k_M_dollar 13 1 := ⟨mw_M_dollar, rb_inG 1533 (by decide +kernel) rfl, rb_inG 1535 (by decide +kernel) rfl, rb_inG 49 (by decide +kernel) rfl, by decide, by decide, _, rfl, rfl⟩
theorem d_M_expand_0 : decode prog_14_method_18_code 0 = .ok (.aload_n 0, 1) := by decide +kernel
theorem d_M_expand_1 : decode prog_14_method_18_code 1 = .ok (.iconst 0, 1) := by decide +kernel
theorem d_M_expand_2 : decode prog_14_method_18_code 2 = .ok (.putfield 203, 3) := by decide +kernel
theorem d_M_expand_5 : decode prog_14_method_18_code 5 = .ok (.aload_n 0, 1) := by decide +kernel
theorem d_M_expand_6 : decode prog_14_method_18_code 6 = .ok (.iconst 0, 1) := by decide +kernel
theorem d_M_expand_7 : decode prog_14_method_18_code 7 = .ok (.putfield 209, 3) := by decide +kernel
theorem d_M_expand_10 : decode prog_14_method_18_code 10 = .ok (.aload_n 0, 1) := by decide +kernel
theorem d_M_expand_11 : decode prog_14_method_18_code 11 = .ok (.getfield 102, 3) := by decide +kernel
theorem d_M_expand_14 : decode prog_14_method_18_code 14 = .ok (.iconst 0, 1) := by decide +kernel
theorem d_M_expand_15 : decode prog_14_method_18_code 15 = .ok (.iconst (-1), 1) := by decide +kernel
theorem d_M_expand_16 : decode prog_14_method_18_code 16 = .ok (.iastore, 1) := by decide +kernel
theorem d_M_expand_17 : decode prog_14_method_18_code 17 = .ok (.aload_n 0, 1) := by decide +kernel
theorem d_M_expand_18 : decode prog_14_method_18_code 18 = .ok (.getfield 105, 3) := by decide +kernel
theorem d_M_expand_21 : decode prog_14_method_18_code 21 = .ok (.iconst 0, 1) := by decide +kernel
theorem d_M_expand_22 : decode prog_14_method_18_code 22 = .ok (.iload_n 1, 1) := by decide +kernel
theorem d_M_expand_23 : decode prog_14_method_18_code 23 = .ok (.iastore, 1) := by decide +kernel
theorem d_M_expand_24 : decode prog_14_method_18_code 24 = .ok (.aload_n 0, 1) := by decide +kernel
theorem d_M_expand_25 : decode prog_14_method_18_code 25 = .ok (.getfield 108, 3) := by decide +kernel
theorem d_M_expand_28 : decode prog_14_method_18_code 28 = .ok (.iconst 0, 1) := by decide +kernel
theorem d_M_expand_29 : decode prog_14_method_18_code 29 = .ok (.iload_n 2, 1) := by decide +kernel
theorem d_M_expand_30 : decode prog_14_method_18_code 30 = .ok (.iastore, 1) := by decide +kernel
theorem d_M_expand_31 : decode prog_14_method_18_code 31 = .ok (.iconst 1, 1) := by decide +kernel
theorem d_M_expand_32 : decode prog_14_method_18_code 32 = .ok (.istore 4, 2) := by decide +kernel
theorem d_M_expand_34 : decode prog_14_method_18_code 34 = .ok (.iload 4, 2) := by decide +kernel
theorem d_M_expand_36 : decode prog_14_method_18_code 36 = .ok (.ifCond .eq 98, 3) := by decide +kernel
theorem d_M_expand_39 : decode prog_14_method_18_code 39 = .ok (.aload_n 0, 1) := by decide +kernel
theorem d_M_expand_40 : decode prog_14_method_18_code 40 = .ok (.getfield 209, 3) := by decide +kernel
theorem d_M_expand_43 : decode prog_14_method_18_code 43 = .ok (.ifCond .lt 91, 3) := by decide +kernel
theorem d_M_expand_46 : decode prog_14_method_18_code 46 = .ok (.aload_n 0, 1) := by decide +kernel
theorem d_M_expand_47 : decode prog_14_method_18_code 47 = .ok (.getfield 105, 3) := by decide +kernel
theorem d_M_expand_50 : decode prog_14_method_18_code 50 = .ok (.aload_n 0, 1) := by decide +kernel
theorem d_M_expand_51 : decode prog_14_method_18_code 51 = .ok (.getfield 209, 3) := by decide +kernel
theorem d_M_expand_54 : decode prog_14_method_18_code 54 = .ok (.iaload, 1) := by decide +kernel
theorem d_M_expand_55 : decode prog_14_method_18_code 55 = .ok (.aload_n 0, 1) := by decide +kernel
theorem d_M_expand_56 : decode prog_14_method_18_code 56 = .ok (.getfield 108, 3) := by decide +kernel
theorem d_M_expand_59 : decode prog_14_method_18_code 59 = .ok (.aload_n 0, 1) := by decide +kernel
theorem d_M_expand_60 : decode prog_14_method_18_code 60 = .ok (.getfield 209, 3) := by decide +kernel
theorem d_M_expand_63 : decode prog_14_method_18_code 63 = .ok (.iaload, 1) := by decide +kernel
theorem d_M_expand_64 : decode prog_14_method_18_code 64 = .ok (.if_icmp .ne 12, 3) := by decide +kernel
theorem d_M_expand_67 : decode prog_14_method_18_code 67 = .ok (.aload_n 0, 1) := by decide +kernel
theorem d_M_expand_68 : decode prog_14_method_18_code 68 = .ok (.invokevirtual 212, 3) := by decide +kernel
theorem d_M_expand_71 : decode prog_14_method_18_code 71 = .ok (.istore 4, 2) := by decide +kernel
theorem d_M_expand_73 : decode prog_14_method_18_code 73 = .ok (.goto (-39), 3) := by decide +kernel
theorem d_M_expand_76 : decode prog_14_method_18_code 76 = .ok (.aload_n 0, 1) := by decide +kernel
theorem d_M_expand_77 : decode prog_14_method_18_code 77 = .ok (.aload_n 0, 1) := by decide +kernel
theorem d_M_expand_78 : decode prog_14_method_18_code 78 = .ok (.getfield 209, 3) := by decide +kernel
theorem d_M_expand_81 : decode prog_14_method_18_code 81 = .ok (.aload_n 0, 1) := by decide +kernel
theorem d_M_expand_82 : decode prog_14_method_18_code 82 = .ok (.getfield 105, 3) := by decide +kernel
theorem d_M_expand_85 : decode prog_14_method_18_code 85 = .ok (.aload_n 0, 1) := by decide +kernel
theorem d_M_expand_86 : decode prog_14_method_18_code 86 = .ok (.getfield 209, 3) := by decide +kernel
theorem d_M_expand_89 : decode prog_14_method_18_code 89 = .ok (.iaload, 1) := by decide +kernel
theorem d_M_expand_90 : decode prog_14_method_18_code 90 = .ok (.invokevirtual 216, 3) := by decide +kernel
theorem d_M_expand_93 : decode prog_14_method_18_code 93 = .ok (.istore 5, 2) := by decide +kernel
theorem d_M_expand_95 : decode prog_14_method_18_code 95 = .ok (.aload_n 0, 1) := by decide +kernel
theorem d_M_expand_96 : decode prog_14_method_18_code 96 = .ok (.getfield 105, 3) := by decide +kernel
theorem d_M_expand_99 : decode prog_14_method_18_code 99 = .ok (.aload_n 0, 1) := by decide +kernel
theorem d_M_expand_100 : decode prog_14_method_18_code 100 = .ok (.getfield 209, 3) := by decide +kernel
theorem d_M_expand_103 : decode prog_14_method_18_code 103 = .ok (.dup2, 1) := by decide +kernel
theorem d_M_expand_104 : decode prog_14_method_18_code 104 = .ok (.iaload, 1) := by decide +kernel
theorem d_M_expand_105 : decode prog_14_method_18_code 105 = .ok (.iconst 1, 1) := by decide +kernel
theorem d_M_expand_106 : decode prog_14_method_18_code 106 = .ok (.iadd, 1) := by decide +kernel
theorem d_M_expand_107 : decode prog_14_method_18_code 107 = .ok (.iastore, 1) := by decide +kernel
theorem d_M_expand_108 : decode prog_14_method_18_code 108 = .ok (.iload 5, 2) := by decide +kernel
theorem d_M_expand_110 : decode prog_14_method_18_code 110 = .ok (.bipush 36, 2) := by decide +kernel
theorem d_M_expand_112 : decode prog_14_method_18_code 112 = .ok (.if_icmp .ne 11, 3) := by decide +kernel
theorem d_M_expand_115 : decode prog_14_method_18_code 115 = .ok (.aload_n 0, 1) := by decide +kernel
theorem d_M_expand_116 : decode prog_14_method_18_code 116 = .ok (.iload_n 3, 1) := by decide +kernel
theorem d_M_expand_117 : decode prog_14_method_18_code 117 = .ok (.invokevirtual 220, 3) := by decide +kernel
theorem d_M_expand_120 : decode prog_14_method_18_code 120 = .ok (.goto 9, 3) := by decide +kernel
theorem d_M_expand_123 : decode prog_14_method_18_code 123 = .ok (.aload_n 0, 1) := by decide +kernel
theorem d_M_expand_124 : decode prog_14_method_18_code 124 = .ok (.iload 5, 2) := by decide +kernel
theorem d_M_expand_126 : decode prog_14_method_18_code 126 = .ok (.invokevirtual 206, 3) := by decide +kernel
theorem d_M_expand_129 : decode prog_14_method_18_code 129 = .ok (.istore 4, 2) := by decide +kernel
theorem d_M_expand_131 : decode prog_14_method_18_code 131 = .ok (.goto (-97), 3) := by decide +kernel
theorem d_M_expand_134 : decode prog_14_method_18_code 134 = .ok (.iload 4, 2) := by decide +kernel
theorem d_M_expand_136 : decode prog_14_method_18_code 136 = .ok (.ireturn, 1) := by decide +kernel
noncomputable def f_M_expand_j134 (x4 : Int32) (σ : rb_St) : Option rb_Rs :=
  if rb_isZ x4 then some (some (.int x4), σ) else none
theorem t_M_expand_j134 {E : rb_EV} {d : Nat} {σ0 : rb_St} {res : rb_Rs} (hdd : 5 ≤ d)  (x4 : Int32) (σ : rb_St) : rb_TC (f_M_expand_j134 x4 σ) (fun r => r = res) (rb_WK E k_M_expand d σ0 res 134 [none, none, none, none, some (.int x4), none] [] σ) := by
  unfold f_M_expand_j134
  refine rb_TC.mono (rk_iload d_M_expand_134 rfl) ?_
  refine rb_TC.ite (fun hn => ?_) (fun _ => rb_TC.none)
  exact rt_iret (ty := .boolean) rfl (rb_nar_Z hn) (fun h => h) d_M_expand_136
noncomputable def f_M_expand_b34 (r0 : Option Nat) (x3 : Int32) (x4 : Int32) (σ : rb_St) : Option ((Int32 × rb_St) ⊕ rb_Rs) :=
  if x4 = 0 then ((f_M_expand_j134 (x4) σ).map Sum.inr) else ((rb_gI σ r0 13 48).bind fun x_9 => if x_9 < 0 then ((f_M_expand_j134 (x4) σ).map Sum.inr) else ((rb_gR σ r0 13 50).bind fun r_10 => (rb_gI σ r0 13 48).bind fun x_11 => (rb_aI σ r_10 102 x_11).bind fun x_12 => (rb_gR σ r0 13 51).bind fun r_13 => (rb_gI σ r0 13 48).bind fun x_14 => (rb_aI σ r_13 102 x_14).bind fun x_15 => if x_12 = x_15 then ((rb_fc σ r0 13).bind fun _ => rb_cI (f_M_leave (r0)  σ) fun x_16 σ_17 => some (.inl (x_16, σ_17))) else ((rb_gI σ r0 13 48).bind fun x_18 => (rb_gR σ r0 13 50).bind fun r_19 => (rb_gI σ r0 13 48).bind fun x_20 => (rb_aI σ r_19 102 x_20).bind fun x_21 => (rb_fc σ r0 13).bind fun _ => rb_cI (f_M_charAt (r0) (x_18) (x_21) σ) fun x_22 σ_23 => (rb_gR σ_23 r0 13 50).bind fun r_24 => (rb_gI σ_23 r0 13 48).bind fun x_25 => (rb_aI σ_23 r_24 102 x_25).bind fun x_26 => (rb_sI σ_23 r_24 102 x_25 (x_26 + (1 : Int32))).bind fun σ_27 => if x_22 = (36 : Int32) then ((rb_fc σ_27 r0 13).bind fun _ => rb_cI (f_M_dollar (r0) (x3) σ_27) fun x_28 σ_29 => some (.inl (x_28, σ_29))) else ((rb_fc σ_27 r0 13).bind fun _ => rb_cI (f_M_append (r0) (x_22) σ_27) fun x_30 σ_31 => some (.inl (x_30, σ_31))))))
theorem t_M_expand_b34 {E : rb_EV} {d : Nat} {σ0 : rb_St} {res : rb_Rs} (hdd : 5 ≤ d)  (r0 : Option Nat) (x3 : Int32) (x4 : Int32) (σ : rb_St) : rb_TC (f_M_expand_b34 r0 x3 x4 σ) (Sum.elim (fun z : (Int32 × rb_St) => rb_WK E k_M_expand d σ0 res 34 [some (va_rf r0), none, none, some (.int x3), some (.int z.1), none] [] z.2) (fun r => r = res)) (rb_WK E k_M_expand d σ0 res 34 [some (va_rf r0), none, none, some (.int x3), some (.int x4), none] [] σ) := by
  unfold f_M_expand_b34
  refine rb_TC.mono (rk_iload d_M_expand_34 rfl) ?_
  refine rt_if_eq 134 d_M_expand_36 (by decide) (fun _ => ?_) (fun _ => ?_)
  · refine rb_TC.out ?_
    refine rb_TC.mono (rk_less (lv2 := [none, none, none, none, some (.int x4), none]) (rb_le_ok (rb_leN (rb_leN (rb_leN (rb_leN (rb_leS (rb_leN rb_le0)))))))) ?_
    exact t_M_expand_j134 hdd  (x4) σ
  · refine rb_TC.mono (rk_aload_n 0 d_M_expand_39 rfl rfl) ?_
    refine rt_gI r0 fw_M_209 d_M_expand_40 (fun x_9 => ?_)
    refine rt_if_lt 134 d_M_expand_43 (by decide) (fun _ => ?_) (fun _ => ?_)
    · refine rb_TC.out ?_
      refine rb_TC.mono (rk_less (lv2 := [none, none, none, none, some (.int x4), none]) (rb_le_ok (rb_leN (rb_leN (rb_leN (rb_leN (rb_leS (rb_leN rb_le0)))))))) ?_
      exact t_M_expand_j134 hdd  (x4) σ
    · refine rb_TC.mono (rk_aload_n 0 d_M_expand_46 rfl rfl) ?_
      refine rt_gR r0 fw_M_105 d_M_expand_47 (fun r_10 => ?_)
      refine rb_TC.mono (rk_aload_n 0 d_M_expand_50 rfl rfl) ?_
      refine rt_gI r0 fw_M_209 d_M_expand_51 (fun x_11 => ?_)
      refine rt_iald r_10 d_M_expand_54 (fun x_12 => ?_)
      refine rb_TC.mono (rk_aload_n 0 d_M_expand_55 rfl rfl) ?_
      refine rt_gR r0 fw_M_108 d_M_expand_56 (fun r_13 => ?_)
      refine rb_TC.mono (rk_aload_n 0 d_M_expand_59 rfl rfl) ?_
      refine rt_gI r0 fw_M_209 d_M_expand_60 (fun x_14 => ?_)
      refine rt_iald r_13 d_M_expand_63 (fun x_15 => ?_)
      refine rt_icmp_ne 76 d_M_expand_64 (by decide) (fun _ => ?_) (fun _ => ?_)
      · refine rb_TC.mono (rk_aload_n 0 d_M_expand_67 rfl rfl) ?_
        refine rt_vI (As := []) (st := []) (r0) vw_M_212 (s_M_leave (Nat.le_refl _) (r0)  σ) (Nat.le_trans (by decide) hdd) rfl (by simp [rb_cat_r, rb_cat_i, rb_cat_l]) d_M_expand_68 (fun x_16 σ_17 => ?_)
        refine rb_TC.mono (rk_istore (lv2 := [some (va_rf r0), none, none, some (.int x3), some (.int x_16), none]) d_M_expand_71 (by decide) (fun _ => rb_one_i) rfl) ?_
        refine rb_TC.mono (rk_goto 34 d_M_expand_73 (by decide)) ?_
        exact rb_back
      · refine rb_TC.mono (rk_aload_n 0 d_M_expand_76 rfl rfl) ?_
        refine rb_TC.mono (rk_aload_n 0 d_M_expand_77 rfl rfl) ?_
        refine rt_gI r0 fw_M_209 d_M_expand_78 (fun x_18 => ?_)
        refine rb_TC.mono (rk_aload_n 0 d_M_expand_81 rfl rfl) ?_
        refine rt_gR r0 fw_M_105 d_M_expand_82 (fun r_19 => ?_)
        refine rb_TC.mono (rk_aload_n 0 d_M_expand_85 rfl rfl) ?_
        refine rt_gI r0 fw_M_209 d_M_expand_86 (fun x_20 => ?_)
        refine rt_iald r_19 d_M_expand_89 (fun x_21 => ?_)
        refine rt_vI (As := [.int x_18, .int x_21]) (st := []) (r0) vw_M_216 (s_M_charAt (Nat.le_refl _) (r0) (x_18) (x_21) σ) (Nat.le_trans (by decide) hdd) rfl (by simp [rb_cat_r, rb_cat_i, rb_cat_l]) d_M_expand_90 (fun x_22 σ_23 => ?_)
        refine rb_TC.mono (rk_istore (lv2 := [some (va_rf r0), none, none, some (.int x3), some (.int x4), some (.int x_22)]) d_M_expand_93 (by decide) (fun _ => rb_one_i) rfl) ?_
        refine rb_TC.mono (rk_aload_n 0 d_M_expand_95 rfl rfl) ?_
        refine rt_gR r0 fw_M_105 d_M_expand_96 (fun r_24 => ?_)
        refine rb_TC.mono (rk_aload_n 0 d_M_expand_99 rfl rfl) ?_
        refine rt_gI r0 fw_M_209 d_M_expand_100 (fun x_25 => ?_)
        refine rb_TC.mono (rk_dup2ir d_M_expand_103) ?_
        refine rt_iald r_24 d_M_expand_104 (fun x_26 => ?_)
        refine rb_TC.mono (rk_iconst (1 : Int32) d_M_expand_105 (by decide)) ?_
        refine rb_TC.mono (rk_iadd d_M_expand_106) ?_
        refine rt_iast r_24 d_M_expand_107 (fun σ_27 => ?_)
        refine rb_TC.mono (rk_iload d_M_expand_108 rfl) ?_
        refine rb_TC.mono (rk_bipush (36 : Int32) d_M_expand_110 (by decide)) ?_
        refine rt_icmp_ne 123 d_M_expand_112 (by decide) (fun _ => ?_) (fun _ => ?_)
        · refine rb_TC.mono (rk_aload_n 0 d_M_expand_115 rfl rfl) ?_
          refine rb_TC.mono (rk_iload_n 3 d_M_expand_116 rfl rfl) ?_
          refine rt_vI (As := [.int x3]) (st := []) (r0) vw_M_220 (s_M_dollar (Nat.le_refl _) (r0) (x3) σ_27) (Nat.le_trans (by decide) hdd) rfl (by simp [rb_cat_r, rb_cat_i, rb_cat_l]) d_M_expand_117 (fun x_28 σ_29 => ?_)
          refine rb_TC.mono (rk_goto 129 d_M_expand_120 (by decide)) ?_
          refine rb_TC.mono (rk_istore (lv2 := [some (va_rf r0), none, none, some (.int x3), some (.int x_28), some (.int x_22)]) d_M_expand_129 (by decide) (fun _ => rb_one_i) rfl) ?_
          refine rb_TC.mono (rk_goto 34 d_M_expand_131 (by decide)) ?_
          refine rb_TC.mono (rk_less (lv2 := [some (va_rf r0), none, none, some (.int x3), some (.int x_28), none]) (rb_le_ok (rb_leS (rb_leN (rb_leN (rb_leS (rb_leS (rb_leN rb_le0)))))))) ?_
          exact rb_back
        · refine rb_TC.mono (rk_aload_n 0 d_M_expand_123 rfl rfl) ?_
          refine rb_TC.mono (rk_iload d_M_expand_124 rfl) ?_
          refine rt_vI (As := [.int x_22]) (st := []) (r0) vw_M_206 (s_M_append (Nat.le_refl _) (r0) (x_22) σ_27) (Nat.le_trans (by decide) hdd) rfl (by simp [rb_cat_r, rb_cat_i, rb_cat_l]) d_M_expand_126 (fun x_30 σ_31 => ?_)
          refine rb_TC.mono (rk_istore (lv2 := [some (va_rf r0), none, none, some (.int x3), some (.int x_30), some (.int x_22)]) d_M_expand_129 (by decide) (fun _ => rb_one_i) rfl) ?_
          refine rb_TC.mono (rk_goto 34 d_M_expand_131 (by decide)) ?_
          refine rb_TC.mono (rk_less (lv2 := [some (va_rf r0), none, none, some (.int x3), some (.int x_30), none]) (rb_le_ok (rb_leS (rb_leN (rb_leN (rb_leS (rb_leS (rb_leN rb_le0)))))))) ?_
          exact rb_back
noncomputable def f_M_expand (r0 : Option Nat) (x1 : Int32) (x2 : Int32) (x3 : Int32) (σ : rb_St) : Option rb_Rs :=
  (rb_pI σ r0 13 44 (0 : Int32)).bind fun σ_1 => (rb_pI σ_1 r0 13 48 (0 : Int32)).bind fun σ_2 => (rb_gR σ_2 r0 13 49).bind fun r_3 => (rb_sI σ_2 r_3 102 (0 : Int32) (-1 : Int32)).bind fun σ_4 => (rb_gR σ_4 r0 13 50).bind fun r_5 => (rb_sI σ_4 r_5 102 (0 : Int32) x1).bind fun σ_6 => (rb_gR σ_6 r0 13 51).bind fun r_7 => (rb_sI σ_6 r_7 102 (0 : Int32) x2).bind fun σ_8 => rb_it (fun z : (Int32 × rb_St) => f_M_expand_b34 (r0) (x3) (z.1) z.2) ((1 : Int32), σ_8)
theorem s_M_expand {E : rb_EV} {d : Nat} (hdd : 5 ≤ d) (r0 : Option Nat) (x1 : Int32) (x2 : Int32) (x3 : Int32) (σ : rb_St) : rb_Does E k_M_expand d [va_rf r0, .int x1, .int x2, .int x3] σ (f_M_expand r0 x1 x2 x3 σ) := by
  refine rb_start (lv := [some (va_rf r0), some (.int x1), some (.int x2), some (.int x3), none, none]) (by decide) (by simp [lg_sl, rb_as, lv_args, rb_cat_r, rb_cat_i, rb_cat_l, rb_nL, k_M_expand]) (fun res => ?_)
  unfold f_M_expand
  refine rb_TC.mono (rk_aload_n 0 d_M_expand_0 rfl rfl) ?_
  refine rb_TC.mono (rk_iconst (0 : Int32) d_M_expand_1 (by decide)) ?_
  refine rt_pI r0 fp_M_expand_203 d_M_expand_2 (fun σ_1 => ?_)
  refine rb_TC.mono (rk_aload_n 0 d_M_expand_5 rfl rfl) ?_
  refine rb_TC.mono (rk_iconst (0 : Int32) d_M_expand_6 (by decide)) ?_
  refine rt_pI r0 fp_M_expand_209 d_M_expand_7 (fun σ_2 => ?_)
  refine rb_TC.mono (rk_aload_n 0 d_M_expand_10 rfl rfl) ?_
  refine rt_gR r0 fw_M_102 d_M_expand_11 (fun r_3 => ?_)
  refine rb_TC.mono (rk_iconst (0 : Int32) d_M_expand_14 (by decide)) ?_
  refine rb_TC.mono (rk_iconst (-1 : Int32) d_M_expand_15 (by decide)) ?_
  refine rt_iast r_3 d_M_expand_16 (fun σ_4 => ?_)
  refine rb_TC.mono (rk_aload_n 0 d_M_expand_17 rfl rfl) ?_
  refine rt_gR r0 fw_M_105 d_M_expand_18 (fun r_5 => ?_)
  refine rb_TC.mono (rk_iconst (0 : Int32) d_M_expand_21 (by decide)) ?_
  refine rb_TC.mono (rk_iload_n 1 d_M_expand_22 rfl rfl) ?_
  refine rt_iast r_5 d_M_expand_23 (fun σ_6 => ?_)
  refine rb_TC.mono (rk_aload_n 0 d_M_expand_24 rfl rfl) ?_
  refine rt_gR r0 fw_M_108 d_M_expand_25 (fun r_7 => ?_)
  refine rb_TC.mono (rk_iconst (0 : Int32) d_M_expand_28 (by decide)) ?_
  refine rb_TC.mono (rk_iload_n 2 d_M_expand_29 rfl rfl) ?_
  refine rt_iast r_7 d_M_expand_30 (fun σ_8 => ?_)
  refine rb_TC.mono (rk_iconst (1 : Int32) d_M_expand_31 (by decide)) ?_
  refine rb_TC.mono (rk_istore (lv2 := [some (va_rf r0), some (.int x1), some (.int x2), some (.int x3), some (.int (1 : Int32)), none]) d_M_expand_32 (by decide) (fun _ => rb_one_i) rfl) ?_
  refine rb_TC.mono (rk_less (lv2 := [some (va_rf r0), none, none, some (.int x3), some (.int (1 : Int32)), none]) (rb_le_ok (rb_leS (rb_leN (rb_leN (rb_leS (rb_leS (rb_leN rb_le0)))))))) ?_
  exact rb_TC.loop2 (A := (fun z : (Int32 × rb_St) => rb_WK E k_M_expand d σ res 34 [some (va_rf r0), none, none, some (.int x3), some (.int z.1), none] [] z.2)) ((1 : Int32), σ_8) (fun z => t_M_expand_b34 hdd  (r0) (x3) (z.1) z.2)
-- ===== RuleBuilderModel.split(II)V
def k_M_split : rb_MK := (⟨"RuleBuilderModel", "split", "(II)V"⟩, prog_14_method_27_code, 4, none)
theorem mw_M_split : rb_Mw k_M_split 2 := ⟨rb_inG 1568 (by decide +kernel) rfl, rb_inG 94 (by decide +kernel) rfl, ⟨by decide, by decide, by decide +kernel⟩, by decide⟩
theorem fw_M_254 : rb_Fw "RuleBuilderModel" 254 13 47 := ⟨_, rfl, by decide, by decide, by decide, rfl, rb_inG 1267 (by decide +kernel) rfl⟩
theorem fp_M_split_254 : rb_Fp k_M_split 254 13 47 .int := ⟨fw_M_254, rfl, fun q h => by cases h; exact Or.inl rfl⟩
theorem d_M_split_0 : decode prog_14_method_27_code 0 = .ok (.iload_n 1, 1) := by decide +kernel
theorem d_M_split_1 : decode prog_14_method_27_code 1 = .ok (.istore_n 3, 1) := by decide +kernel
theorem d_M_split_2 : decode prog_14_method_27_code 2 = .ok (.iload_n 3, 1) := by decide +kernel
theorem d_M_split_3 : decode prog_14_method_27_code 3 = .ok (.iload_n 2, 1) := by decide +kernel
theorem d_M_split_4 : decode prog_14_method_27_code 4 = .ok (.if_icmp .ge 75, 3) := by decide +kernel
theorem d_M_split_7 : decode prog_14_method_27_code 7 = .ok (.aload_n 0, 1) := by decide +kernel
theorem d_M_split_8 : decode prog_14_method_27_code 8 = .ok (.getfield 93, 3) := by decide +kernel
theorem d_M_split_11 : decode prog_14_method_27_code 11 = .ok (.iload_n 3, 1) := by decide +kernel
theorem d_M_split_12 : decode prog_14_method_27_code 12 = .ok (.iaload, 1) := by decide +kernel
theorem d_M_split_13 : decode prog_14_method_27_code 13 = .ok (.bipush 32, 2) := by decide +kernel
theorem d_M_split_15 : decode prog_14_method_27_code 15 = .ok (.if_icmp .ne 9, 3) := by decide +kernel
theorem d_M_split_18 : decode prog_14_method_27_code 18 = .ok (.iinc 3 1, 3) := by decide +kernel
theorem d_M_split_21 : decode prog_14_method_27_code 21 = .ok (.goto (-19), 3) := by decide +kernel
theorem d_M_split_24 : decode prog_14_method_27_code 24 = .ok (.aload_n 0, 1) := by decide +kernel
theorem d_M_split_25 : decode prog_14_method_27_code 25 = .ok (.getfield 96, 3) := by decide +kernel
theorem d_M_split_28 : decode prog_14_method_27_code 28 = .ok (.aload_n 0, 1) := by decide +kernel
theorem d_M_split_29 : decode prog_14_method_27_code 29 = .ok (.getfield 254, 3) := by decide +kernel
theorem d_M_split_32 : decode prog_14_method_27_code 32 = .ok (.iload_n 3, 1) := by decide +kernel
theorem d_M_split_33 : decode prog_14_method_27_code 33 = .ok (.iastore, 1) := by decide +kernel
theorem d_M_split_34 : decode prog_14_method_27_code 34 = .ok (.iload_n 3, 1) := by decide +kernel
theorem d_M_split_35 : decode prog_14_method_27_code 35 = .ok (.iload_n 2, 1) := by decide +kernel
theorem d_M_split_36 : decode prog_14_method_27_code 36 = .ok (.if_icmp .ge 20, 3) := by decide +kernel
theorem d_M_split_39 : decode prog_14_method_27_code 39 = .ok (.aload_n 0, 1) := by decide +kernel
theorem d_M_split_40 : decode prog_14_method_27_code 40 = .ok (.getfield 93, 3) := by decide +kernel
theorem d_M_split_43 : decode prog_14_method_27_code 43 = .ok (.iload_n 3, 1) := by decide +kernel
theorem d_M_split_44 : decode prog_14_method_27_code 44 = .ok (.iaload, 1) := by decide +kernel
theorem d_M_split_45 : decode prog_14_method_27_code 45 = .ok (.bipush 32, 2) := by decide +kernel
theorem d_M_split_47 : decode prog_14_method_27_code 47 = .ok (.if_icmp .eq 9, 3) := by decide +kernel
theorem d_M_split_50 : decode prog_14_method_27_code 50 = .ok (.iinc 3 1, 3) := by decide +kernel
theorem d_M_split_53 : decode prog_14_method_27_code 53 = .ok (.goto (-19), 3) := by decide +kernel
theorem d_M_split_56 : decode prog_14_method_27_code 56 = .ok (.aload_n 0, 1) := by decide +kernel
theorem d_M_split_57 : decode prog_14_method_27_code 57 = .ok (.getfield 99, 3) := by decide +kernel
theorem d_M_split_60 : decode prog_14_method_27_code 60 = .ok (.aload_n 0, 1) := by decide +kernel
theorem d_M_split_61 : decode prog_14_method_27_code 61 = .ok (.getfield 254, 3) := by decide +kernel
theorem d_M_split_64 : decode prog_14_method_27_code 64 = .ok (.iload_n 3, 1) := by decide +kernel
theorem d_M_split_65 : decode prog_14_method_27_code 65 = .ok (.iastore, 1) := by decide +kernel
theorem d_M_split_66 : decode prog_14_method_27_code 66 = .ok (.aload_n 0, 1) := by decide +kernel
theorem d_M_split_67 : decode prog_14_method_27_code 67 = .ok (.dup, 1) := by decide +kernel
theorem d_M_split_68 : decode prog_14_method_27_code 68 = .ok (.getfield 254, 3) := by decide +kernel
theorem d_M_split_71 : decode prog_14_method_27_code 71 = .ok (.iconst 1, 1) := by decide +kernel
theorem d_M_split_72 : decode prog_14_method_27_code 72 = .ok (.iadd, 1) := by decide +kernel
theorem d_M_split_73 : decode prog_14_method_27_code 73 = .ok (.putfield 254, 3) := by decide +kernel
theorem d_M_split_76 : decode prog_14_method_27_code 76 = .ok (.goto (-74), 3) := by decide +kernel
theorem d_M_split_79 : decode prog_14_method_27_code 79 = .ok (.return_, 1) := by decide +kernel
noncomputable def f_M_split_j56 (r0 : Option Nat) (x2 : Int32) (x3 : Int32) (σ : rb_St) : Option ((Int32 × rb_St) ⊕ rb_Rs) :=
  (rb_gR σ r0 13 46).bind fun r_6 => (rb_gI σ r0 13 47).bind fun x_7 => (rb_sI σ r_6 102 x_7 x3).bind fun σ_8 => (rb_gI σ_8 r0 13 47).bind fun x_9 => (rb_pI σ_8 r0 13 47 (x_9 + (1 : Int32))).bind fun σ_10 => some (.inl (x3, σ_10))
theorem t_M_split_j56 {E : rb_EV} {d : Nat} {σ0 : rb_St} {res : rb_Rs} (hdd : 0 ≤ d)  (r0 : Option Nat) (x2 : Int32) (x3 : Int32) (σ : rb_St) : rb_TC (f_M_split_j56 r0 x2 x3 σ) (Sum.elim (fun z : (Int32 × rb_St) => rb_WK E k_M_split d σ0 res 2 [some (va_rf r0), none, some (.int x2), some (.int z.1)] [] z.2) (fun r => r = res)) (rb_WK E k_M_split d σ0 res 56 [some (va_rf r0), none, some (.int x2), some (.int x3)] [] σ) := by
  unfold f_M_split_j56
  refine rb_TC.mono (rk_aload_n 0 d_M_split_56 rfl rfl) ?_
  refine rt_gR r0 fw_M_99 d_M_split_57 (fun r_6 => ?_)
  refine rb_TC.mono (rk_aload_n 0 d_M_split_60 rfl rfl) ?_
  refine rt_gI r0 fw_M_254 d_M_split_61 (fun x_7 => ?_)
  refine rb_TC.mono (rk_iload_n 3 d_M_split_64 rfl rfl) ?_
  refine rt_iast r_6 d_M_split_65 (fun σ_8 => ?_)
  refine rb_TC.mono (rk_aload_n 0 d_M_split_66 rfl rfl) ?_
  refine rb_TC.mono (rk_dupr d_M_split_67) ?_
  refine rt_gI r0 fw_M_254 d_M_split_68 (fun x_9 => ?_)
  refine rb_TC.mono (rk_iconst (1 : Int32) d_M_split_71 (by decide)) ?_
  refine rb_TC.mono (rk_iadd d_M_split_72) ?_
  refine rt_pI r0 fp_M_split_254 d_M_split_73 (fun σ_10 => ?_)
  refine rb_TC.mono (rk_goto 2 d_M_split_76 (by decide)) ?_
  exact rb_back
noncomputable def f_M_split_b34 (r0 : Option Nat) (x2 : Int32) (x3 : Int32) (σ : rb_St) : Option ((Int32) ⊕ ((Int32 × rb_St) ⊕ rb_Rs)) :=
  if x2 ≤ x3 then ((f_M_split_j56 (r0) (x2) (x3) σ).map Sum.inr) else ((rb_gR σ r0 13 43).bind fun r_11 => (rb_aI σ r_11 102 x3).bind fun x_12 => if x_12 = (32 : Int32) then ((f_M_split_j56 (r0) (x2) (x3) σ).map Sum.inr) else (some (.inl (x3 + 1))))
theorem t_M_split_b34 {E : rb_EV} {d : Nat} {σ0 : rb_St} {res : rb_Rs} (hdd : 0 ≤ d)  (r0 : Option Nat) (x2 : Int32) (x3 : Int32) (σ : rb_St) : rb_TC (f_M_split_b34 r0 x2 x3 σ) (Sum.elim (fun z : (Int32) => rb_WK E k_M_split d σ0 res 34 [some (va_rf r0), none, some (.int x2), some (.int z)] [] σ) (Sum.elim (fun z : (Int32 × rb_St) => rb_WK E k_M_split d σ0 res 2 [some (va_rf r0), none, some (.int x2), some (.int z.1)] [] z.2) (fun r => r = res))) (rb_WK E k_M_split d σ0 res 34 [some (va_rf r0), none, some (.int x2), some (.int x3)] [] σ) := by
  unfold f_M_split_b34
  refine rb_TC.mono (rk_iload_n 3 d_M_split_34 rfl rfl) ?_
  refine rb_TC.mono (rk_iload_n 2 d_M_split_35 rfl rfl) ?_
  refine rt_icmp_ge 56 d_M_split_36 (by decide) (fun _ => ?_) (fun _ => ?_)
  · refine rb_TC.out ?_
    exact t_M_split_j56 hdd  (r0) (x2) (x3) σ
  · refine rb_TC.mono (rk_aload_n 0 d_M_split_39 rfl rfl) ?_
    refine rt_gR r0 fw_M_93 d_M_split_40 (fun r_11 => ?_)
    refine rb_TC.mono (rk_iload_n 3 d_M_split_43 rfl rfl) ?_
    refine rt_iald r_11 d_M_split_44 (fun x_12 => ?_)
    refine rb_TC.mono (rk_bipush (32 : Int32) d_M_split_45 (by decide)) ?_
    refine rt_icmp_eq 56 d_M_split_47 (by decide) (fun _ => ?_) (fun _ => ?_)
    · refine rb_TC.out ?_
      exact t_M_split_j56 hdd  (r0) (x2) (x3) σ
    · refine rb_TC.mono (rk_iinc (lv2 := [some (va_rf r0), none, some (.int x2), some (.int (x3 + 1))]) (x3 + 1) d_M_split_50 rfl rfl (by decide) (fun _ => rb_one_i) rfl) ?_
      refine rb_TC.mono (rk_goto 34 d_M_split_53 (by decide)) ?_
      exact rb_back
noncomputable def f_M_split_b2 (r0 : Option Nat) (x2 : Int32) (x3 : Int32) (σ : rb_St) : Option ((Int32 × rb_St) ⊕ rb_Rs) :=
  if x2 ≤ x3 then ((some (none, σ)).map Sum.inr) else ((rb_gR σ r0 13 43).bind fun r_1 => (rb_aI σ r_1 102 x3).bind fun x_2 => if x_2 = (32 : Int32) then (some (.inl ((x3 + 1), σ))) else ((rb_gR σ r0 13 45).bind fun r_3 => (rb_gI σ r0 13 47).bind fun x_4 => (rb_sI σ r_3 102 x_4 x3).bind fun σ_5 => rb_it (fun z : (Int32) => f_M_split_b34 (r0) (x2) (z) σ_5) x3))
theorem t_M_split_b2 {E : rb_EV} {d : Nat} {σ0 : rb_St} {res : rb_Rs} (hdd : 0 ≤ d)  (r0 : Option Nat) (x2 : Int32) (x3 : Int32) (σ : rb_St) : rb_TC (f_M_split_b2 r0 x2 x3 σ) (Sum.elim (fun z : (Int32 × rb_St) => rb_WK E k_M_split d σ0 res 2 [some (va_rf r0), none, some (.int x2), some (.int z.1)] [] z.2) (fun r => r = res)) (rb_WK E k_M_split d σ0 res 2 [some (va_rf r0), none, some (.int x2), some (.int x3)] [] σ) := by
  unfold f_M_split_b2
  refine rb_TC.mono (rk_iload_n 3 d_M_split_2 rfl rfl) ?_
  refine rb_TC.mono (rk_iload_n 2 d_M_split_3 rfl rfl) ?_
  refine rt_icmp_ge 79 d_M_split_4 (by decide) (fun _ => ?_) (fun _ => ?_)
  · refine rb_TC.out ?_
    exact rt_vret rfl (fun h => h) d_M_split_79
  · refine rb_TC.mono (rk_aload_n 0 d_M_split_7 rfl rfl) ?_
    refine rt_gR r0 fw_M_93 d_M_split_8 (fun r_1 => ?_)
    refine rb_TC.mono (rk_iload_n 3 d_M_split_11 rfl rfl) ?_
    refine rt_iald r_1 d_M_split_12 (fun x_2 => ?_)
    refine rb_TC.mono (rk_bipush (32 : Int32) d_M_split_13 (by decide)) ?_
    refine rt_icmp_ne 24 d_M_split_15 (by decide) (fun _ => ?_) (fun _ => ?_)
    · refine rb_TC.mono (rk_iinc (lv2 := [some (va_rf r0), none, some (.int x2), some (.int (x3 + 1))]) (x3 + 1) d_M_split_18 rfl rfl (by decide) (fun _ => rb_one_i) rfl) ?_
      refine rb_TC.mono (rk_goto 2 d_M_split_21 (by decide)) ?_
      exact rb_back
    · refine rb_TC.mono (rk_aload_n 0 d_M_split_24 rfl rfl) ?_
      refine rt_gR r0 fw_M_96 d_M_split_25 (fun r_3 => ?_)
      refine rb_TC.mono (rk_aload_n 0 d_M_split_28 rfl rfl) ?_
      refine rt_gI r0 fw_M_254 d_M_split_29 (fun x_4 => ?_)
      refine rb_TC.mono (rk_iload_n 3 d_M_split_32 rfl rfl) ?_
      refine rt_iast r_3 d_M_split_33 (fun σ_5 => ?_)
      exact rb_TC.loop2 (A := (fun z : (Int32) => rb_WK E k_M_split d σ0 res 34 [some (va_rf r0), none, some (.int x2), some (.int z)] [] σ_5)) x3 (fun z => t_M_split_b34 hdd  (r0) (x2) (z) σ_5)
noncomputable def f_M_split (r0 : Option Nat) (x1 : Int32) (x2 : Int32) (σ : rb_St) : Option rb_Rs :=
  rb_it (fun z : (Int32 × rb_St) => f_M_split_b2 (r0) (x2) (z.1) z.2) (x1, σ)
theorem s_M_split {E : rb_EV} {d : Nat} (hdd : 0 ≤ d) (r0 : Option Nat) (x1 : Int32) (x2 : Int32) (σ : rb_St) : rb_Does E k_M_split d [va_rf r0, .int x1, .int x2] σ (f_M_split r0 x1 x2 σ) := by
  refine rb_start (lv := [some (va_rf r0), some (.int x1), some (.int x2), none]) (by decide) (by simp [lg_sl, rb_as, lv_args, rb_cat_r, rb_cat_i, rb_cat_l, rb_nL, k_M_split]) (fun res => ?_)
  unfold f_M_split
  refine rb_TC.mono (rk_iload_n 1 d_M_split_0 rfl rfl) ?_
  refine rb_TC.mono (rk_istore_n (lv2 := [some (va_rf r0), some (.int x1), some (.int x2), some (.int x1)]) 3 d_M_split_1 rfl (by decide) (fun _ => rb_one_i) rfl) ?_
  refine rb_TC.mono (rk_less (lv2 := [some (va_rf r0), none, some (.int x2), some (.int x1)]) (rb_le_ok (rb_leS (rb_leN (rb_leS (rb_leS rb_le0)))))) ?_
  exact rb_TC.loop2 (A := (fun z : (Int32 × rb_St) => rb_WK E k_M_split d σ res 2 [some (va_rf r0), none, some (.int x2), some (.int z.1)] [] z.2)) (x1, σ) (fun z => t_M_split_b2 hdd  (r0) (x2) (z.1) z.2)
-- ===== RuleBuilderModel.packed(II)J
def k_M_packed : rb_MK := (⟨"RuleBuilderModel", "packed", "(II)J"⟩, prog_14_method_28_code, 6, some (.long))
theorem mw_M_packed : rb_Mw k_M_packed 2 := ⟨rb_inG 1576 (by decide +kernel) rfl, rb_inG 94 (by decide +kernel) rfl, ⟨by decide, by decide, by decide +kernel⟩, by decide⟩
theorem d_M_packed_0 : decode prog_14_method_28_code 0 = .ok (.iload_n 2, 1) := by decide +kernel
theorem d_M_packed_1 : decode prog_14_method_28_code 1 = .ok (.iload_n 1, 1) := by decide +kernel
theorem d_M_packed_2 : decode prog_14_method_28_code 2 = .ok (.isub, 1) := by decide +kernel
theorem d_M_packed_3 : decode prog_14_method_28_code 3 = .ok (.bipush 9, 2) := by decide +kernel
theorem d_M_packed_5 : decode prog_14_method_28_code 5 = .ok (.if_icmp .le 9, 3) := by decide +kernel
theorem d_M_packed_8 : decode prog_14_method_28_code 8 = .ok (.ldc2_w 186, 3) := by decide +kernel
theorem d_M_packed_11 : decode prog_14_method_28_code 11 = .ok (.goto 4, 3) := by decide +kernel
theorem d_M_packed_14 : decode prog_14_method_28_code 14 = .ok (.lconst 0, 1) := by decide +kernel
theorem d_M_packed_15 : decode prog_14_method_28_code 15 = .ok (.lstore_n 3, 1) := by decide +kernel
theorem d_M_packed_16 : decode prog_14_method_28_code 16 = .ok (.iload_n 1, 1) := by decide +kernel
theorem d_M_packed_17 : decode prog_14_method_28_code 17 = .ok (.istore 5, 2) := by decide +kernel
theorem d_M_packed_19 : decode prog_14_method_28_code 19 = .ok (.iload 5, 2) := by decide +kernel
theorem d_M_packed_21 : decode prog_14_method_28_code 21 = .ok (.iload_n 2, 1) := by decide +kernel
theorem d_M_packed_22 : decode prog_14_method_28_code 22 = .ok (.if_icmp .ge 31, 3) := by decide +kernel
theorem d_M_packed_25 : decode prog_14_method_28_code 25 = .ok (.iload_n 2, 1) := by decide +kernel
theorem d_M_packed_26 : decode prog_14_method_28_code 26 = .ok (.iload_n 1, 1) := by decide +kernel
theorem d_M_packed_27 : decode prog_14_method_28_code 27 = .ok (.isub, 1) := by decide +kernel
theorem d_M_packed_28 : decode prog_14_method_28_code 28 = .ok (.bipush 9, 2) := by decide +kernel
theorem d_M_packed_30 : decode prog_14_method_28_code 30 = .ok (.if_icmp .gt 23, 3) := by decide +kernel
theorem d_M_packed_33 : decode prog_14_method_28_code 33 = .ok (.lload_n 3, 1) := by decide +kernel
theorem d_M_packed_34 : decode prog_14_method_28_code 34 = .ok (.bipush 7, 2) := by decide +kernel
theorem d_M_packed_36 : decode prog_14_method_28_code 36 = .ok (.lshl, 1) := by decide +kernel
theorem d_M_packed_37 : decode prog_14_method_28_code 37 = .ok (.aload_n 0, 1) := by decide +kernel
theorem d_M_packed_38 : decode prog_14_method_28_code 38 = .ok (.getfield 93, 3) := by decide +kernel
theorem d_M_packed_41 : decode prog_14_method_28_code 41 = .ok (.iload 5, 2) := by decide +kernel
theorem d_M_packed_43 : decode prog_14_method_28_code 43 = .ok (.iaload, 1) := by decide +kernel
theorem d_M_packed_44 : decode prog_14_method_28_code 44 = .ok (.i2l, 1) := by decide +kernel
theorem d_M_packed_45 : decode prog_14_method_28_code 45 = .ok (.lor, 1) := by decide +kernel
theorem d_M_packed_46 : decode prog_14_method_28_code 46 = .ok (.lstore_n 3, 1) := by decide +kernel
theorem d_M_packed_47 : decode prog_14_method_28_code 47 = .ok (.iinc 5 1, 3) := by decide +kernel
theorem d_M_packed_50 : decode prog_14_method_28_code 50 = .ok (.goto (-31), 3) := by decide +kernel
theorem d_M_packed_53 : decode prog_14_method_28_code 53 = .ok (.lload_n 3, 1) := by decide +kernel
theorem d_M_packed_54 : decode prog_14_method_28_code 54 = .ok (.lreturn, 1) := by decide +kernel
noncomputable def f_M_packed_j53 (y3 : Int64) (σ : rb_St) : Option rb_Rs :=
  some (some (.long y3), σ)
theorem t_M_packed_j53 {E : rb_EV} {d : Nat} {σ0 : rb_St} {res : rb_Rs} (hdd : 0 ≤ d)  (y3 : Int64) (σ : rb_St) : rb_TC (f_M_packed_j53 y3 σ) (fun r => r = res) (rb_WK E k_M_packed d σ0 res 53 [none, none, none, some (.long y3), none, none] [] σ) := by
  unfold f_M_packed_j53
  refine rb_TC.mono (rk_lload_n 3 d_M_packed_53 rfl rfl) ?_
  exact rt_lret rfl (fun h => h) d_M_packed_54
noncomputable def f_M_packed_b19 (r0 : Option Nat) (x1 : Int32) (x2 : Int32) (y3 : Int64) (x5 : Int32) (σ : rb_St) : Option ((Int64 × Int32) ⊕ rb_Rs) :=
  if x2 ≤ x5 then ((f_M_packed_j53 (y3) σ).map Sum.inr) else (if (9 : Int32) < (x2 - x1) then ((f_M_packed_j53 (y3) σ).map Sum.inr) else ((rb_gR σ r0 13 43).bind fun r_1 => (rb_aI σ r_1 102 x5).bind fun x_2 => some (.inl (((y3 <<< ((7 : Int32).toInt64 &&& 63)) ||| (x_2.toInt64)), (x5 + 1)))))
theorem t_M_packed_b19 {E : rb_EV} {d : Nat} {σ0 : rb_St} {res : rb_Rs} (hdd : 0 ≤ d)  (r0 : Option Nat) (x1 : Int32) (x2 : Int32) (y3 : Int64) (x5 : Int32) (σ : rb_St) : rb_TC (f_M_packed_b19 r0 x1 x2 y3 x5 σ) (Sum.elim (fun z : (Int64 × Int32) => rb_WK E k_M_packed d σ0 res 19 [some (va_rf r0), some (.int x1), some (.int x2), some (.long z.1), none, some (.int z.2)] [] σ) (fun r => r = res)) (rb_WK E k_M_packed d σ0 res 19 [some (va_rf r0), some (.int x1), some (.int x2), some (.long y3), none, some (.int x5)] [] σ) := by
  unfold f_M_packed_b19
  refine rb_TC.mono (rk_iload d_M_packed_19 rfl) ?_
  refine rb_TC.mono (rk_iload_n 2 d_M_packed_21 rfl rfl) ?_
  refine rt_icmp_ge 53 d_M_packed_22 (by decide) (fun _ => ?_) (fun _ => ?_)
  · refine rb_TC.out ?_
    refine rb_TC.mono (rk_less (lv2 := [none, none, none, some (.long y3), none, none]) (rb_le_ok (rb_leN (rb_leN (rb_leN (rb_leS (rb_leN (rb_leN rb_le0)))))))) ?_
    exact t_M_packed_j53 hdd  (y3) σ
  · refine rb_TC.mono (rk_iload_n 2 d_M_packed_25 rfl rfl) ?_
    refine rb_TC.mono (rk_iload_n 1 d_M_packed_26 rfl rfl) ?_
    refine rb_TC.mono (rk_isub d_M_packed_27) ?_
    refine rb_TC.mono (rk_bipush (9 : Int32) d_M_packed_28 (by decide)) ?_
    refine rt_icmp_gt 53 d_M_packed_30 (by decide) (fun _ => ?_) (fun _ => ?_)
    · refine rb_TC.out ?_
      refine rb_TC.mono (rk_less (lv2 := [none, none, none, some (.long y3), none, none]) (rb_le_ok (rb_leN (rb_leN (rb_leN (rb_leS (rb_leN (rb_leN rb_le0)))))))) ?_
      exact t_M_packed_j53 hdd  (y3) σ
    · refine rb_TC.mono (rk_lload_n 3 d_M_packed_33 rfl rfl) ?_
      refine rb_TC.mono (rk_bipush (7 : Int32) d_M_packed_34 (by decide)) ?_
      refine rb_TC.mono (rk_lshl d_M_packed_36) ?_
      refine rb_TC.mono (rk_aload_n 0 d_M_packed_37 rfl rfl) ?_
      refine rt_gR r0 fw_M_93 d_M_packed_38 (fun r_1 => ?_)
      refine rb_TC.mono (rk_iload d_M_packed_41 rfl) ?_
      refine rt_iald r_1 d_M_packed_43 (fun x_2 => ?_)
      refine rb_TC.mono (rk_i2l d_M_packed_44) ?_
      refine rb_TC.mono (rk_lor d_M_packed_45) ?_
      refine rb_TC.mono (rk_lstore_n (lv2 := [some (va_rf r0), some (.int x1), some (.int x2), some (.long ((y3 <<< ((7 : Int32).toInt64 &&& 63)) ||| (x_2.toInt64))), none, some (.int x5)]) 3 d_M_packed_46 rfl (by decide) (fun _ => rb_one_i) rfl) ?_
      refine rb_TC.mono (rk_iinc (lv2 := [some (va_rf r0), some (.int x1), some (.int x2), some (.long ((y3 <<< ((7 : Int32).toInt64 &&& 63)) ||| (x_2.toInt64))), none, some (.int (x5 + 1))]) (x5 + 1) d_M_packed_47 rfl rfl (by decide) (fun _ => rb_one_n) rfl) ?_
      refine rb_TC.mono (rk_goto 19 d_M_packed_50 (by decide)) ?_
      exact rb_back
noncomputable def f_M_packed (r0 : Option Nat) (x1 : Int32) (x2 : Int32) (σ : rb_St) : Option rb_Rs :=
  if (x2 - x1) ≤ (9 : Int32) then (rb_it (fun z : (Int64 × Int32) => f_M_packed_b19 (r0) (x1) (x2) (z.1) (z.2) σ) ((0 : Int64), x1)) else (rb_it (fun z : (Int64 × Int32) => f_M_packed_b19 (r0) (x1) (x2) (z.1) (z.2) σ) ((-1 : Int64), x1))
theorem s_M_packed {E : rb_EV} {d : Nat} (hdd : 0 ≤ d) (r0 : Option Nat) (x1 : Int32) (x2 : Int32) (σ : rb_St) : rb_Does E k_M_packed d [va_rf r0, .int x1, .int x2] σ (f_M_packed r0 x1 x2 σ) := by
  refine rb_start (lv := [some (va_rf r0), some (.int x1), some (.int x2), none, none, none]) (by decide) (by simp [lg_sl, rb_as, lv_args, rb_cat_r, rb_cat_i, rb_cat_l, rb_nL, k_M_packed]) (fun res => ?_)
  unfold f_M_packed
  refine rb_TC.mono (rk_iload_n 2 d_M_packed_0 rfl rfl) ?_
  refine rb_TC.mono (rk_iload_n 1 d_M_packed_1 rfl rfl) ?_
  refine rb_TC.mono (rk_isub d_M_packed_2) ?_
  refine rb_TC.mono (rk_bipush (9 : Int32) d_M_packed_3 (by decide)) ?_
  refine rt_icmp_le 14 d_M_packed_5 (by decide) (fun _ => ?_) (fun _ => ?_)
  · refine rb_TC.mono (rk_lconst (0 : Int64) d_M_packed_14 (by decide)) ?_
    refine rb_TC.mono (rk_lstore_n (lv2 := [some (va_rf r0), some (.int x1), some (.int x2), some (.long (0 : Int64)), none, none]) 3 d_M_packed_15 rfl (by decide) (fun _ => rb_one_i) rfl) ?_
    refine rb_TC.mono (rk_iload_n 1 d_M_packed_16 rfl rfl) ?_
    refine rb_TC.mono (rk_istore (lv2 := [some (va_rf r0), some (.int x1), some (.int x2), some (.long (0 : Int64)), none, some (.int x1)]) d_M_packed_17 (by decide) (fun _ => rb_one_n) rfl) ?_
    exact rb_TC.loop2 (A := (fun z : (Int64 × Int32) => rb_WK E k_M_packed d σ res 19 [some (va_rf r0), some (.int x1), some (.int x2), some (.long z.1), none, some (.int z.2)] [] σ)) ((0 : Int64), x1) (fun z => t_M_packed_b19 hdd  (r0) (x1) (x2) (z.1) (z.2) σ)
  · refine rb_TC.mono (rk_ldc2 d_M_packed_8 w_long_M_186) ?_
    refine rb_TC.mono (rk_goto 15 d_M_packed_11 (by decide)) ?_
    refine rb_TC.mono (rk_lstore_n (lv2 := [some (va_rf r0), some (.int x1), some (.int x2), some (.long (-1 : Int64)), none, none]) 3 d_M_packed_15 rfl (by decide) (fun _ => rb_one_i) rfl) ?_
    refine rb_TC.mono (rk_iload_n 1 d_M_packed_16 rfl rfl) ?_
    refine rb_TC.mono (rk_istore (lv2 := [some (va_rf r0), some (.int x1), some (.int x2), some (.long (-1 : Int64)), none, some (.int x1)]) d_M_packed_17 (by decide) (fun _ => rb_one_n) rfl) ?_
    exact rb_TC.loop2 (A := (fun z : (Int64 × Int32) => rb_WK E k_M_packed d σ res 19 [some (va_rf r0), some (.int x1), some (.int x2), some (.long z.1), none, some (.int z.2)] [] σ)) ((-1 : Int64), x1) (fun z => t_M_packed_b19 hdd  (r0) (x1) (x2) (z.1) (z.2) σ)
-- ===== RuleBuilderModel.word(I)J
def k_M_word : rb_MK := (⟨"RuleBuilderModel", "word", "(I)J"⟩, prog_14_method_29_code, 2, some (.long))
theorem mw_M_word : rb_Mw k_M_word 1 := ⟨rb_inG 1572 (by decide +kernel) rfl, rb_inG 94 (by decide +kernel) rfl, ⟨by decide, by decide, by decide +kernel⟩, by decide⟩
theorem vw_M_257 : rb_Vw "RuleBuilderModel" 257 k_M_packed 13 2 := ⟨mw_M_packed, rb_inG 1573 (by decide +kernel) rfl, rb_inG 1575 (by decide +kernel) rfl, rb_inG 59 (by decide +kernel) rfl, by decide, by decide, _, rfl, rfl⟩
theorem d_M_word_0 : decode prog_14_method_29_code 0 = .ok (.aload_n 0, 1) := by decide +kernel
theorem d_M_word_1 : decode prog_14_method_29_code 1 = .ok (.aload_n 0, 1) := by decide +kernel
theorem d_M_word_2 : decode prog_14_method_29_code 2 = .ok (.getfield 96, 3) := by decide +kernel
theorem d_M_word_5 : decode prog_14_method_29_code 5 = .ok (.iload_n 1, 1) := by decide +kernel
theorem d_M_word_6 : decode prog_14_method_29_code 6 = .ok (.iaload, 1) := by decide +kernel
theorem d_M_word_7 : decode prog_14_method_29_code 7 = .ok (.aload_n 0, 1) := by decide +kernel
theorem d_M_word_8 : decode prog_14_method_29_code 8 = .ok (.getfield 99, 3) := by decide +kernel
theorem d_M_word_11 : decode prog_14_method_29_code 11 = .ok (.iload_n 1, 1) := by decide +kernel
theorem d_M_word_12 : decode prog_14_method_29_code 12 = .ok (.iaload, 1) := by decide +kernel
theorem d_M_word_13 : decode prog_14_method_29_code 13 = .ok (.invokevirtual 257, 3) := by decide +kernel
theorem d_M_word_16 : decode prog_14_method_29_code 16 = .ok (.lreturn, 1) := by decide +kernel
noncomputable def f_M_word (r0 : Option Nat) (x1 : Int32) (σ : rb_St) : Option rb_Rs :=
  (rb_gR σ r0 13 45).bind fun r_1 => (rb_aI σ r_1 102 x1).bind fun x_2 => (rb_gR σ r0 13 46).bind fun r_3 => (rb_aI σ r_3 102 x1).bind fun x_4 => (rb_fc σ r0 13).bind fun _ => rb_cL (f_M_packed (r0) (x_2) (x_4) σ) fun y_5 σ_6 => some (some (.long y_5), σ_6)
theorem s_M_word {E : rb_EV} {d : Nat} (hdd : 1 ≤ d) (r0 : Option Nat) (x1 : Int32) (σ : rb_St) : rb_Does E k_M_word d [va_rf r0, .int x1] σ (f_M_word r0 x1 σ) := by
  refine rb_start (lv := [some (va_rf r0), some (.int x1)]) (by decide) (by simp [lg_sl, rb_as, lv_args, rb_cat_r, rb_cat_i, rb_cat_l, rb_nL, k_M_word]) (fun res => ?_)
  unfold f_M_word
  refine rb_TC.mono (rk_aload_n 0 d_M_word_0 rfl rfl) ?_
  refine rb_TC.mono (rk_aload_n 0 d_M_word_1 rfl rfl) ?_
  refine rt_gR r0 fw_M_96 d_M_word_2 (fun r_1 => ?_)
  refine rb_TC.mono (rk_iload_n 1 d_M_word_5 rfl rfl) ?_
  refine rt_iald r_1 d_M_word_6 (fun x_2 => ?_)
  refine rb_TC.mono (rk_aload_n 0 d_M_word_7 rfl rfl) ?_
  refine rt_gR r0 fw_M_99 d_M_word_8 (fun r_3 => ?_)
  refine rb_TC.mono (rk_iload_n 1 d_M_word_11 rfl rfl) ?_
  refine rt_iald r_3 d_M_word_12 (fun x_4 => ?_)
  refine rt_vL (As := [.int x_2, .int x_4]) (st := []) (r0) vw_M_257 (s_M_packed (Nat.le_refl _) (r0) (x_2) (x_4) σ) (Nat.le_trans (by decide) hdd) rfl (by simp [rb_cat_r, rb_cat_i, rb_cat_l]) d_M_word_13 (fun y_5 σ_6 => ?_)
  exact rt_lret rfl (fun h => h) d_M_word_16
-- ===== RuleBuilderModel.isSuffix(J)Z
def k_M_isSuffix : rb_MK := (⟨"RuleBuilderModel", "isSuffix", "(J)Z"⟩, prog_14_method_36_code, 5, some (.boolean))
theorem mw_M_isSuffix : rb_Mw k_M_isSuffix 1 := ⟨rb_inG 1586 (by decide +kernel) rfl, rb_inG 94 (by decide +kernel) rfl, ⟨by decide, by decide, by decide +kernel⟩, by decide⟩
theorem d_M_isSuffix_0 : decode prog_14_method_36_code 0 = .ok (.iconst 0, 1) := by decide +kernel
theorem d_M_isSuffix_1 : decode prog_14_method_36_code 1 = .ok (.istore_n 3, 1) := by decide +kernel
theorem d_M_isSuffix_2 : decode prog_14_method_36_code 2 = .ok (.iconst 0, 1) := by decide +kernel
theorem d_M_isSuffix_3 : decode prog_14_method_36_code 3 = .ok (.istore 4, 2) := by decide +kernel
theorem d_M_isSuffix_5 : decode prog_14_method_36_code 5 = .ok (.iload 4, 2) := by decide +kernel
theorem d_M_isSuffix_7 : decode prog_14_method_36_code 7 = .ok (.aload_n 0, 1) := by decide +kernel
theorem d_M_isSuffix_8 : decode prog_14_method_36_code 8 = .ok (.getfield 261, 3) := by decide +kernel
theorem d_M_isSuffix_11 : decode prog_14_method_36_code 11 = .ok (.if_icmp .ge 31, 3) := by decide +kernel
theorem d_M_isSuffix_14 : decode prog_14_method_36_code 14 = .ok (.iload_n 3, 1) := by decide +kernel
theorem d_M_isSuffix_15 : decode prog_14_method_36_code 15 = .ok (.ifCond .ne 15, 3) := by decide +kernel
theorem d_M_isSuffix_18 : decode prog_14_method_36_code 18 = .ok (.aload_n 0, 1) := by decide +kernel
theorem d_M_isSuffix_19 : decode prog_14_method_36_code 19 = .ok (.getfield 51, 3) := by decide +kernel
theorem d_M_isSuffix_22 : decode prog_14_method_36_code 22 = .ok (.iload 4, 2) := by decide +kernel
theorem d_M_isSuffix_24 : decode prog_14_method_36_code 24 = .ok (.laload, 1) := by decide +kernel
theorem d_M_isSuffix_25 : decode prog_14_method_36_code 25 = .ok (.lload_n 1, 1) := by decide +kernel
theorem d_M_isSuffix_26 : decode prog_14_method_36_code 26 = .ok (.lcmp, 1) := by decide +kernel
theorem d_M_isSuffix_27 : decode prog_14_method_36_code 27 = .ok (.ifCond .ne 7, 3) := by decide +kernel
theorem d_M_isSuffix_30 : decode prog_14_method_36_code 30 = .ok (.iconst 1, 1) := by decide +kernel
theorem d_M_isSuffix_31 : decode prog_14_method_36_code 31 = .ok (.goto 4, 3) := by decide +kernel
theorem d_M_isSuffix_34 : decode prog_14_method_36_code 34 = .ok (.iconst 0, 1) := by decide +kernel
theorem d_M_isSuffix_35 : decode prog_14_method_36_code 35 = .ok (.istore_n 3, 1) := by decide +kernel
theorem d_M_isSuffix_36 : decode prog_14_method_36_code 36 = .ok (.iinc 4 1, 3) := by decide +kernel
theorem d_M_isSuffix_39 : decode prog_14_method_36_code 39 = .ok (.goto (-34), 3) := by decide +kernel
theorem d_M_isSuffix_42 : decode prog_14_method_36_code 42 = .ok (.iload_n 3, 1) := by decide +kernel
theorem d_M_isSuffix_43 : decode prog_14_method_36_code 43 = .ok (.ireturn, 1) := by decide +kernel
noncomputable def f_M_isSuffix_b5 (r0 : Option Nat) (y1 : Int64) (x3 : Int32) (x4 : Int32) (σ : rb_St) : Option ((Int32 × Int32) ⊕ rb_Rs) :=
  (rb_gI σ r0 13 18).bind fun x_1 => if x_1 ≤ x4 then ((if rb_isZ x3 then some (some (.int x3), σ) else none).map Sum.inr) else (if x3 = 0 then ((rb_gR σ r0 13 17).bind fun r_2 => (rb_aL σ r_2 103 x4).bind fun y_3 => if (lg_cmp y_3 y1) = 0 then (some (.inl ((1 : Int32), (x4 + 1)))) else (some (.inl ((0 : Int32), (x4 + 1))))) else (some (.inl ((1 : Int32), (x4 + 1)))))
theorem t_M_isSuffix_b5 {E : rb_EV} {d : Nat} {σ0 : rb_St} {res : rb_Rs} (hdd : 0 ≤ d)  (r0 : Option Nat) (y1 : Int64) (x3 : Int32) (x4 : Int32) (σ : rb_St) : rb_TC (f_M_isSuffix_b5 r0 y1 x3 x4 σ) (Sum.elim (fun z : (Int32 × Int32) => rb_WK E k_M_isSuffix d σ0 res 5 [some (va_rf r0), some (.long y1), none, some (.int z.1), some (.int z.2)] [] σ) (fun r => r = res)) (rb_WK E k_M_isSuffix d σ0 res 5 [some (va_rf r0), some (.long y1), none, some (.int x3), some (.int x4)] [] σ) := by
  unfold f_M_isSuffix_b5
  refine rb_TC.mono (rk_iload d_M_isSuffix_5 rfl) ?_
  refine rb_TC.mono (rk_aload_n 0 d_M_isSuffix_7 rfl rfl) ?_
  refine rt_gI r0 fw_M_261 d_M_isSuffix_8 (fun x_1 => ?_)
  refine rt_icmp_ge 42 d_M_isSuffix_11 (by decide) (fun _ => ?_) (fun _ => ?_)
  · refine rb_TC.out ?_
    refine rb_TC.mono (rk_iload_n 3 d_M_isSuffix_42 rfl rfl) ?_
    refine rb_TC.ite (fun hn => ?_) (fun _ => rb_TC.none)
    exact rt_iret (ty := .boolean) rfl (rb_nar_Z hn) (fun h => h) d_M_isSuffix_43
  · refine rb_TC.mono (rk_iload_n 3 d_M_isSuffix_14 rfl rfl) ?_
    refine rt_if_ne 30 d_M_isSuffix_15 (by decide) (fun _ => ?_) (fun _ => ?_)
    · refine rb_TC.mono (rk_aload_n 0 d_M_isSuffix_18 rfl rfl) ?_
      refine rt_gR r0 fw_M_51 d_M_isSuffix_19 (fun r_2 => ?_)
      refine rb_TC.mono (rk_iload d_M_isSuffix_22 rfl) ?_
      refine rt_lald r_2 d_M_isSuffix_24 (fun y_3 => ?_)
      refine rb_TC.mono (rk_lload_n 1 d_M_isSuffix_25 rfl rfl) ?_
      refine rb_TC.mono (rk_lcmp d_M_isSuffix_26) ?_
      refine rt_if_ne 34 d_M_isSuffix_27 (by decide) (fun _ => ?_) (fun _ => ?_)
      · refine rb_TC.mono (rk_iconst (1 : Int32) d_M_isSuffix_30 (by decide)) ?_
        refine rb_TC.mono (rk_goto 35 d_M_isSuffix_31 (by decide)) ?_
        refine rb_TC.mono (rk_istore_n (lv2 := [some (va_rf r0), some (.long y1), none, some (.int (1 : Int32)), some (.int x4)]) 3 d_M_isSuffix_35 rfl (by decide) (fun _ => rb_one_n) rfl) ?_
        refine rb_TC.mono (rk_iinc (lv2 := [some (va_rf r0), some (.long y1), none, some (.int (1 : Int32)), some (.int (x4 + 1))]) (x4 + 1) d_M_isSuffix_36 rfl rfl (by decide) (fun _ => rb_one_i) rfl) ?_
        refine rb_TC.mono (rk_goto 5 d_M_isSuffix_39 (by decide)) ?_
        exact rb_back
      · refine rb_TC.mono (rk_iconst (0 : Int32) d_M_isSuffix_34 (by decide)) ?_
        refine rb_TC.mono (rk_istore_n (lv2 := [some (va_rf r0), some (.long y1), none, some (.int (0 : Int32)), some (.int x4)]) 3 d_M_isSuffix_35 rfl (by decide) (fun _ => rb_one_n) rfl) ?_
        refine rb_TC.mono (rk_iinc (lv2 := [some (va_rf r0), some (.long y1), none, some (.int (0 : Int32)), some (.int (x4 + 1))]) (x4 + 1) d_M_isSuffix_36 rfl rfl (by decide) (fun _ => rb_one_i) rfl) ?_
        refine rb_TC.mono (rk_goto 5 d_M_isSuffix_39 (by decide)) ?_
        exact rb_back
    · refine rb_TC.mono (rk_iconst (1 : Int32) d_M_isSuffix_30 (by decide)) ?_
      refine rb_TC.mono (rk_goto 35 d_M_isSuffix_31 (by decide)) ?_
      refine rb_TC.mono (rk_istore_n (lv2 := [some (va_rf r0), some (.long y1), none, some (.int (1 : Int32)), some (.int x4)]) 3 d_M_isSuffix_35 rfl (by decide) (fun _ => rb_one_n) rfl) ?_
      refine rb_TC.mono (rk_iinc (lv2 := [some (va_rf r0), some (.long y1), none, some (.int (1 : Int32)), some (.int (x4 + 1))]) (x4 + 1) d_M_isSuffix_36 rfl rfl (by decide) (fun _ => rb_one_i) rfl) ?_
      refine rb_TC.mono (rk_goto 5 d_M_isSuffix_39 (by decide)) ?_
      exact rb_back
noncomputable def f_M_isSuffix (r0 : Option Nat) (y1 : Int64) (σ : rb_St) : Option rb_Rs :=
  rb_it (fun z : (Int32 × Int32) => f_M_isSuffix_b5 (r0) (y1) (z.1) (z.2) σ) ((0 : Int32), (0 : Int32))
theorem s_M_isSuffix {E : rb_EV} {d : Nat} (hdd : 0 ≤ d) (r0 : Option Nat) (y1 : Int64) (σ : rb_St) : rb_Does E k_M_isSuffix d [va_rf r0, .long y1] σ (f_M_isSuffix r0 y1 σ) := by
  refine rb_start (lv := [some (va_rf r0), some (.long y1), none, none, none]) (by decide) (by simp [lg_sl, rb_as, lv_args, rb_cat_r, rb_cat_i, rb_cat_l, rb_nL, k_M_isSuffix]) (fun res => ?_)
  unfold f_M_isSuffix
  refine rb_TC.mono (rk_iconst (0 : Int32) d_M_isSuffix_0 (by decide)) ?_
  refine rb_TC.mono (rk_istore_n (lv2 := [some (va_rf r0), some (.long y1), none, some (.int (0 : Int32)), none]) 3 d_M_isSuffix_1 rfl (by decide) (fun _ => rb_one_n) rfl) ?_
  refine rb_TC.mono (rk_iconst (0 : Int32) d_M_isSuffix_2 (by decide)) ?_
  refine rb_TC.mono (rk_istore (lv2 := [some (va_rf r0), some (.long y1), none, some (.int (0 : Int32)), some (.int (0 : Int32))]) d_M_isSuffix_3 (by decide) (fun _ => rb_one_i) rfl) ?_
  exact rb_TC.loop2 (A := (fun z : (Int32 × Int32) => rb_WK E k_M_isSuffix d σ res 5 [some (va_rf r0), some (.long y1), none, some (.int z.1), some (.int z.2)] [] σ)) ((0 : Int32), (0 : Int32)) (fun z => t_M_isSuffix_b5 hdd  (r0) (y1) (z.1) (z.2) σ)
-- ===== RuleBuilderModel.suffixLine()Z
def k_M_suffixLine : rb_MK := (⟨"RuleBuilderModel", "suffixLine", "()Z"⟩, prog_14_method_37_code, 5, some (.boolean))
theorem mw_M_suffixLine : rb_Mw k_M_suffixLine 0 := ⟨rb_inG 1581 (by decide +kernel) rfl, rb_inG 94 (by decide +kernel) rfl, ⟨by decide, by decide, by decide +kernel⟩, by decide⟩
theorem w_long_M_346 : Cond.constantLong "RuleBuilderModel" 346 (46) ∈ rb_G := rb_inG 1582 (by decide +kernel) rfl
theorem fp_M_suffixLine_261 : rb_Fp k_M_suffixLine 261 13 18 .int := ⟨fw_M_261, rfl, fun q h => by cases h; exact Or.inl rfl⟩
theorem vw_M_320 : rb_Vw "RuleBuilderModel" 320 k_M_word 13 1 := ⟨mw_M_word, rb_inG 1569 (by decide +kernel) rfl, rb_inG 1571 (by decide +kernel) rfl, rb_inG 58 (by decide +kernel) rfl, by decide, by decide, _, rfl, rfl⟩
theorem vw_M_348 : rb_Vw "RuleBuilderModel" 348 k_M_isSuffix 13 1 := ⟨mw_M_isSuffix, rb_inG 1583 (by decide +kernel) rfl, rb_inG 1585 (by decide +kernel) rfl, rb_inG 61 (by decide +kernel) rfl, by decide, by decide, _, rfl, rfl⟩
theorem d_M_suffixLine_0 : decode prog_14_method_37_code 0 = .ok (.aload_n 0, 1) := by decide +kernel
theorem d_M_suffixLine_1 : decode prog_14_method_37_code 1 = .ok (.aload_n 0, 1) := by decide +kernel
theorem d_M_suffixLine_2 : decode prog_14_method_37_code 2 = .ok (.getfield 254, 3) := by decide +kernel
theorem d_M_suffixLine_5 : decode prog_14_method_37_code 5 = .ok (.iconst 1, 1) := by decide +kernel
theorem d_M_suffixLine_6 : decode prog_14_method_37_code 6 = .ok (.if_icmp .ne 7, 3) := by decide +kernel
theorem d_M_suffixLine_9 : decode prog_14_method_37_code 9 = .ok (.iconst 0, 1) := by decide +kernel
theorem d_M_suffixLine_10 : decode prog_14_method_37_code 10 = .ok (.goto 7, 3) := by decide +kernel
theorem d_M_suffixLine_13 : decode prog_14_method_37_code 13 = .ok (.aload_n 0, 1) := by decide +kernel
theorem d_M_suffixLine_14 : decode prog_14_method_37_code 14 = .ok (.getfield 261, 3) := by decide +kernel
theorem d_M_suffixLine_17 : decode prog_14_method_37_code 17 = .ok (.putfield 261, 3) := by decide +kernel
theorem d_M_suffixLine_20 : decode prog_14_method_37_code 20 = .ok (.iconst 1, 1) := by decide +kernel
theorem d_M_suffixLine_21 : decode prog_14_method_37_code 21 = .ok (.istore_n 1, 1) := by decide +kernel
theorem d_M_suffixLine_22 : decode prog_14_method_37_code 22 = .ok (.iload_n 1, 1) := by decide +kernel
theorem d_M_suffixLine_23 : decode prog_14_method_37_code 23 = .ok (.aload_n 0, 1) := by decide +kernel
theorem d_M_suffixLine_24 : decode prog_14_method_37_code 24 = .ok (.getfield 254, 3) := by decide +kernel
theorem d_M_suffixLine_27 : decode prog_14_method_37_code 27 = .ok (.if_icmp .ge 95, 3) := by decide +kernel
theorem d_M_suffixLine_30 : decode prog_14_method_37_code 30 = .ok (.aload_n 0, 1) := by decide +kernel
theorem d_M_suffixLine_31 : decode prog_14_method_37_code 31 = .ok (.iload_n 1, 1) := by decide +kernel
theorem d_M_suffixLine_32 : decode prog_14_method_37_code 32 = .ok (.invokevirtual 320, 3) := by decide +kernel
theorem d_M_suffixLine_35 : decode prog_14_method_37_code 35 = .ok (.lstore_n 2, 1) := by decide +kernel
theorem d_M_suffixLine_36 : decode prog_14_method_37_code 36 = .ok (.lload_n 2, 1) := by decide +kernel
theorem d_M_suffixLine_37 : decode prog_14_method_37_code 37 = .ok (.invokestatic 176, 3) := by decide +kernel
theorem d_M_suffixLine_40 : decode prog_14_method_37_code 40 = .ok (.ifCond .eq 10, 3) := by decide +kernel
theorem d_M_suffixLine_43 : decode prog_14_method_37_code 43 = .ok (.lload_n 2, 1) := by decide +kernel
theorem d_M_suffixLine_44 : decode prog_14_method_37_code 44 = .ok (.invokestatic 167, 3) := by decide +kernel
theorem d_M_suffixLine_47 : decode prog_14_method_37_code 47 = .ok (.goto 4, 3) := by decide +kernel
theorem d_M_suffixLine_50 : decode prog_14_method_37_code 50 = .ok (.iconst 0, 1) := by decide +kernel
theorem d_M_suffixLine_51 : decode prog_14_method_37_code 51 = .ok (.istore 4, 2) := by decide +kernel
theorem d_M_suffixLine_53 : decode prog_14_method_37_code 53 = .ok (.iload 4, 2) := by decide +kernel
theorem d_M_suffixLine_55 : decode prog_14_method_37_code 55 = .ok (.iconst 2, 1) := by decide +kernel
theorem d_M_suffixLine_56 : decode prog_14_method_37_code 56 = .ok (.if_icmp .lt 19, 3) := by decide +kernel
theorem d_M_suffixLine_59 : decode prog_14_method_37_code 59 = .ok (.lload_n 2, 1) := by decide +kernel
theorem d_M_suffixLine_60 : decode prog_14_method_37_code 60 = .ok (.bipush 7, 2) := by decide +kernel
theorem d_M_suffixLine_62 : decode prog_14_method_37_code 62 = .ok (.iload 4, 2) := by decide +kernel
theorem d_M_suffixLine_64 : decode prog_14_method_37_code 64 = .ok (.iconst 1, 1) := by decide +kernel
theorem d_M_suffixLine_65 : decode prog_14_method_37_code 65 = .ok (.isub, 1) := by decide +kernel
theorem d_M_suffixLine_66 : decode prog_14_method_37_code 66 = .ok (.imul, 1) := by decide +kernel
theorem d_M_suffixLine_67 : decode prog_14_method_37_code 67 = .ok (.lshr, 1) := by decide +kernel
theorem d_M_suffixLine_68 : decode prog_14_method_37_code 68 = .ok (.ldc2_w 346, 3) := by decide +kernel
theorem d_M_suffixLine_71 : decode prog_14_method_37_code 71 = .ok (.lcmp, 1) := by decide +kernel
theorem d_M_suffixLine_72 : decode prog_14_method_37_code 72 = .ok (.ifCond .eq 5, 3) := by decide +kernel
theorem d_M_suffixLine_75 : decode prog_14_method_37_code 75 = .ok (.iconst 0, 1) := by decide +kernel
theorem d_M_suffixLine_76 : decode prog_14_method_37_code 76 = .ok (.ireturn, 1) := by decide +kernel
theorem d_M_suffixLine_77 : decode prog_14_method_37_code 77 = .ok (.aload_n 0, 1) := by decide +kernel
theorem d_M_suffixLine_78 : decode prog_14_method_37_code 78 = .ok (.lload_n 2, 1) := by decide +kernel
theorem d_M_suffixLine_79 : decode prog_14_method_37_code 79 = .ok (.invokevirtual 348, 3) := by decide +kernel
theorem d_M_suffixLine_82 : decode prog_14_method_37_code 82 = .ok (.ifCond .ne 34, 3) := by decide +kernel
theorem d_M_suffixLine_85 : decode prog_14_method_37_code 85 = .ok (.aload_n 0, 1) := by decide +kernel
theorem d_M_suffixLine_86 : decode prog_14_method_37_code 86 = .ok (.getfield 261, 3) := by decide +kernel
theorem d_M_suffixLine_89 : decode prog_14_method_37_code 89 = .ok (.bipush 6, 2) := by decide +kernel
theorem d_M_suffixLine_91 : decode prog_14_method_37_code 91 = .ok (.if_icmp .ne 5, 3) := by decide +kernel
theorem d_M_suffixLine_94 : decode prog_14_method_37_code 94 = .ok (.iconst 0, 1) := by decide +kernel
theorem d_M_suffixLine_95 : decode prog_14_method_37_code 95 = .ok (.ireturn, 1) := by decide +kernel
theorem d_M_suffixLine_96 : decode prog_14_method_37_code 96 = .ok (.aload_n 0, 1) := by decide +kernel
theorem d_M_suffixLine_97 : decode prog_14_method_37_code 97 = .ok (.getfield 51, 3) := by decide +kernel
theorem d_M_suffixLine_100 : decode prog_14_method_37_code 100 = .ok (.aload_n 0, 1) := by decide +kernel
theorem d_M_suffixLine_101 : decode prog_14_method_37_code 101 = .ok (.getfield 261, 3) := by decide +kernel
theorem d_M_suffixLine_104 : decode prog_14_method_37_code 104 = .ok (.lload_n 2, 1) := by decide +kernel
theorem d_M_suffixLine_105 : decode prog_14_method_37_code 105 = .ok (.lastore, 1) := by decide +kernel
theorem d_M_suffixLine_106 : decode prog_14_method_37_code 106 = .ok (.aload_n 0, 1) := by decide +kernel
theorem d_M_suffixLine_107 : decode prog_14_method_37_code 107 = .ok (.dup, 1) := by decide +kernel
theorem d_M_suffixLine_108 : decode prog_14_method_37_code 108 = .ok (.getfield 261, 3) := by decide +kernel
theorem d_M_suffixLine_111 : decode prog_14_method_37_code 111 = .ok (.iconst 1, 1) := by decide +kernel
theorem d_M_suffixLine_112 : decode prog_14_method_37_code 112 = .ok (.iadd, 1) := by decide +kernel
theorem d_M_suffixLine_113 : decode prog_14_method_37_code 113 = .ok (.putfield 261, 3) := by decide +kernel
theorem d_M_suffixLine_116 : decode prog_14_method_37_code 116 = .ok (.iinc 1 1, 3) := by decide +kernel
theorem d_M_suffixLine_119 : decode prog_14_method_37_code 119 = .ok (.goto (-97), 3) := by decide +kernel
theorem d_M_suffixLine_122 : decode prog_14_method_37_code 122 = .ok (.iconst 1, 1) := by decide +kernel
theorem d_M_suffixLine_123 : decode prog_14_method_37_code 123 = .ok (.ireturn, 1) := by decide +kernel
noncomputable def f_M_suffixLine_j75  (σ : rb_St) : Option rb_Rs :=
  some (some (.int (0 : Int32)), σ)
theorem t_M_suffixLine_j75 {E : rb_EV} {d : Nat} {σ0 : rb_St} {res : rb_Rs} (hdd : 2 ≤ d)   (σ : rb_St) : rb_TC (f_M_suffixLine_j75  σ) (fun r => r = res) (rb_WK E k_M_suffixLine d σ0 res 75 [none, none, none, none, none] [] σ) := by
  unfold f_M_suffixLine_j75
  refine rb_TC.mono (rk_iconst (0 : Int32) d_M_suffixLine_75 (by decide)) ?_
  exact rt_iret (ty := .boolean) rfl (by decide) (fun h => h) d_M_suffixLine_76
noncomputable def f_M_suffixLine_j51 (r0 : Option Nat) (x1 : Int32) (y2 : Int64) (sx0 : Int32) (σ : rb_St) : Option ((Int32 × rb_St) ⊕ rb_Rs) :=
  if sx0 < (2 : Int32) then ((f_M_suffixLine_j75  σ).map Sum.inr) else (if (lg_cmp (y2 >>> (((7 : Int32) * (sx0 - (1 : Int32))).toInt64 &&& 63)) (46 : Int64)) = 0 then ((rb_fc σ r0 13).bind fun _ => rb_cI (f_M_isSuffix (r0) (y2) σ) fun x_8 σ_9 => if x_8 = 0 then ((rb_gI σ_9 r0 13 18).bind fun x_10 => if x_10 = (6 : Int32) then ((some (some (.int (0 : Int32)), σ_9)).map Sum.inr) else ((rb_gR σ_9 r0 13 17).bind fun r_11 => (rb_gI σ_9 r0 13 18).bind fun x_12 => (rb_sL σ_9 r_11 103 x_12 y2).bind fun σ_13 => (rb_gI σ_13 r0 13 18).bind fun x_14 => (rb_pI σ_13 r0 13 18 (x_14 + (1 : Int32))).bind fun σ_15 => some (.inl ((x1 + 1), σ_15)))) else (some (.inl ((x1 + 1), σ_9)))) else ((f_M_suffixLine_j75  σ).map Sum.inr))
theorem t_M_suffixLine_j51 {E : rb_EV} {d : Nat} {σ0 : rb_St} {res : rb_Rs} (hdd : 2 ≤ d)  (r0 : Option Nat) (x1 : Int32) (y2 : Int64) (sx0 : Int32) (σ : rb_St) : rb_TC (f_M_suffixLine_j51 r0 x1 y2 sx0 σ) (Sum.elim (fun z : (Int32 × rb_St) => rb_WK E k_M_suffixLine d σ0 res 22 [some (va_rf r0), some (.int z.1), none, none, none] [] z.2) (fun r => r = res)) (rb_WK E k_M_suffixLine d σ0 res 51 [some (va_rf r0), some (.int x1), some (.long y2), none, none] [.int sx0] σ) := by
  unfold f_M_suffixLine_j51
  refine rb_TC.mono (rk_istore (lv2 := [some (va_rf r0), some (.int x1), some (.long y2), none, some (.int sx0)]) d_M_suffixLine_51 (by decide) (fun _ => rb_one_n) rfl) ?_
  refine rb_TC.mono (rk_iload d_M_suffixLine_53 rfl) ?_
  refine rb_TC.mono (rk_iconst (2 : Int32) d_M_suffixLine_55 (by decide)) ?_
  refine rt_icmp_lt 75 d_M_suffixLine_56 (by decide) (fun _ => ?_) (fun _ => ?_)
  · refine rb_TC.out ?_
    refine rb_TC.mono (rk_less (lv2 := [none, none, none, none, none]) (rb_le_ok (rb_leN (rb_leN (rb_leN (rb_leN (rb_leN rb_le0))))))) ?_
    exact t_M_suffixLine_j75 hdd   σ
  · refine rb_TC.mono (rk_lload_n 2 d_M_suffixLine_59 rfl rfl) ?_
    refine rb_TC.mono (rk_bipush (7 : Int32) d_M_suffixLine_60 (by decide)) ?_
    refine rb_TC.mono (rk_iload d_M_suffixLine_62 rfl) ?_
    refine rb_TC.mono (rk_iconst (1 : Int32) d_M_suffixLine_64 (by decide)) ?_
    refine rb_TC.mono (rk_isub d_M_suffixLine_65) ?_
    refine rb_TC.mono (rk_imul d_M_suffixLine_66) ?_
    refine rb_TC.mono (rk_lshr d_M_suffixLine_67) ?_
    refine rb_TC.mono (rk_ldc2 d_M_suffixLine_68 w_long_M_346) ?_
    refine rb_TC.mono (rk_lcmp d_M_suffixLine_71) ?_
    refine rt_if_eq 77 d_M_suffixLine_72 (by decide) (fun _ => ?_) (fun _ => ?_)
    · refine rb_TC.mono (rk_aload_n 0 d_M_suffixLine_77 rfl rfl) ?_
      refine rb_TC.mono (rk_lload_n 2 d_M_suffixLine_78 rfl rfl) ?_
      refine rt_vI (As := [.long y2]) (st := []) (r0) vw_M_348 (s_M_isSuffix (Nat.le_refl _) (r0) (y2) σ) (Nat.le_trans (by decide) hdd) rfl (by simp [rb_cat_r, rb_cat_i, rb_cat_l]) d_M_suffixLine_79 (fun x_8 σ_9 => ?_)
      refine rt_if_ne 116 d_M_suffixLine_82 (by decide) (fun _ => ?_) (fun _ => ?_)
      · refine rb_TC.mono (rk_aload_n 0 d_M_suffixLine_85 rfl rfl) ?_
        refine rt_gI r0 fw_M_261 d_M_suffixLine_86 (fun x_10 => ?_)
        refine rb_TC.mono (rk_bipush (6 : Int32) d_M_suffixLine_89 (by decide)) ?_
        refine rt_icmp_ne 96 d_M_suffixLine_91 (by decide) (fun _ => ?_) (fun _ => ?_)
        · refine rb_TC.out ?_
          refine rb_TC.mono (rk_iconst (0 : Int32) d_M_suffixLine_94 (by decide)) ?_
          exact rt_iret (ty := .boolean) rfl (by decide) (fun h => h) d_M_suffixLine_95
        · refine rb_TC.mono (rk_aload_n 0 d_M_suffixLine_96 rfl rfl) ?_
          refine rt_gR r0 fw_M_51 d_M_suffixLine_97 (fun r_11 => ?_)
          refine rb_TC.mono (rk_aload_n 0 d_M_suffixLine_100 rfl rfl) ?_
          refine rt_gI r0 fw_M_261 d_M_suffixLine_101 (fun x_12 => ?_)
          refine rb_TC.mono (rk_lload_n 2 d_M_suffixLine_104 rfl rfl) ?_
          refine rt_last r_11 d_M_suffixLine_105 (fun σ_13 => ?_)
          refine rb_TC.mono (rk_aload_n 0 d_M_suffixLine_106 rfl rfl) ?_
          refine rb_TC.mono (rk_dupr d_M_suffixLine_107) ?_
          refine rt_gI r0 fw_M_261 d_M_suffixLine_108 (fun x_14 => ?_)
          refine rb_TC.mono (rk_iconst (1 : Int32) d_M_suffixLine_111 (by decide)) ?_
          refine rb_TC.mono (rk_iadd d_M_suffixLine_112) ?_
          refine rt_pI r0 fp_M_suffixLine_261 d_M_suffixLine_113 (fun σ_15 => ?_)
          refine rb_TC.mono (rk_iinc (lv2 := [some (va_rf r0), some (.int (x1 + 1)), some (.long y2), none, some (.int sx0)]) (x1 + 1) d_M_suffixLine_116 rfl rfl (by decide) (fun _ => rb_one_r) rfl) ?_
          refine rb_TC.mono (rk_goto 22 d_M_suffixLine_119 (by decide)) ?_
          refine rb_TC.mono (rk_less (lv2 := [some (va_rf r0), some (.int (x1 + 1)), none, none, none]) (rb_le_ok (rb_leS (rb_leS (rb_leN (rb_leN (rb_leN rb_le0))))))) ?_
          exact rb_back
      · refine rb_TC.mono (rk_iinc (lv2 := [some (va_rf r0), some (.int (x1 + 1)), some (.long y2), none, some (.int sx0)]) (x1 + 1) d_M_suffixLine_116 rfl rfl (by decide) (fun _ => rb_one_r) rfl) ?_
        refine rb_TC.mono (rk_goto 22 d_M_suffixLine_119 (by decide)) ?_
        refine rb_TC.mono (rk_less (lv2 := [some (va_rf r0), some (.int (x1 + 1)), none, none, none]) (rb_le_ok (rb_leS (rb_leS (rb_leN (rb_leN (rb_leN rb_le0))))))) ?_
        exact rb_back
    · refine rb_TC.out ?_
      refine rb_TC.mono (rk_less (lv2 := [none, none, none, none, none]) (rb_le_ok (rb_leN (rb_leN (rb_leN (rb_leN (rb_leN rb_le0))))))) ?_
      exact t_M_suffixLine_j75 hdd   σ
noncomputable def f_M_suffixLine_b22 (r0 : Option Nat) (x1 : Int32) (σ : rb_St) : Option ((Int32 × rb_St) ⊕ rb_Rs) :=
  (rb_gI σ r0 13 47).bind fun x_3 => if x_3 ≤ x1 then ((some (some (.int (1 : Int32)), σ)).map Sum.inr) else ((rb_fc σ r0 13).bind fun _ => rb_cL (f_M_word (r0) (x1) σ) fun y_4 σ_5 => rb_cI (f_M_isName (y_4) σ_5) fun x_6 σ_7 => if x_6 = 0 then (f_M_suffixLine_j51 (r0) (x1) (y_4) ((0 : Int32)) σ_7) else (rb_cI (f_M_length (y_4) σ_7) fun x_16 σ_17 => f_M_suffixLine_j51 (r0) (x1) (y_4) (x_16) σ_17))
theorem t_M_suffixLine_b22 {E : rb_EV} {d : Nat} {σ0 : rb_St} {res : rb_Rs} (hdd : 2 ≤ d)  (r0 : Option Nat) (x1 : Int32) (σ : rb_St) : rb_TC (f_M_suffixLine_b22 r0 x1 σ) (Sum.elim (fun z : (Int32 × rb_St) => rb_WK E k_M_suffixLine d σ0 res 22 [some (va_rf r0), some (.int z.1), none, none, none] [] z.2) (fun r => r = res)) (rb_WK E k_M_suffixLine d σ0 res 22 [some (va_rf r0), some (.int x1), none, none, none] [] σ) := by
  unfold f_M_suffixLine_b22
  refine rb_TC.mono (rk_iload_n 1 d_M_suffixLine_22 rfl rfl) ?_
  refine rb_TC.mono (rk_aload_n 0 d_M_suffixLine_23 rfl rfl) ?_
  refine rt_gI r0 fw_M_254 d_M_suffixLine_24 (fun x_3 => ?_)
  refine rt_icmp_ge 122 d_M_suffixLine_27 (by decide) (fun _ => ?_) (fun _ => ?_)
  · refine rb_TC.out ?_
    refine rb_TC.mono (rk_iconst (1 : Int32) d_M_suffixLine_122 (by decide)) ?_
    exact rt_iret (ty := .boolean) rfl (by decide) (fun h => h) d_M_suffixLine_123
  · refine rb_TC.mono (rk_aload_n 0 d_M_suffixLine_30 rfl rfl) ?_
    refine rb_TC.mono (rk_iload_n 1 d_M_suffixLine_31 rfl rfl) ?_
    refine rt_vL (As := [.int x1]) (st := []) (r0) vw_M_320 (s_M_word (Nat.le_refl _) (r0) (x1) σ) (Nat.le_trans (by decide) hdd) rfl (by simp [rb_cat_r, rb_cat_i, rb_cat_l]) d_M_suffixLine_32 (fun y_4 σ_5 => ?_)
    refine rb_TC.mono (rk_lstore_n (lv2 := [some (va_rf r0), some (.int x1), some (.long y_4), none, none]) 2 d_M_suffixLine_35 rfl (by decide) (fun _ => rb_one_i) rfl) ?_
    refine rb_TC.mono (rk_lload_n 2 d_M_suffixLine_36 rfl rfl) ?_
    refine rt_sI (As := [.long y_4]) (st := []) sw_M_176 (s_M_isName (Nat.le_refl _) (y_4) σ_5) (Nat.le_trans (by decide) hdd) rfl (by simp [rb_cat_r, rb_cat_i, rb_cat_l]) d_M_suffixLine_37 (fun x_6 σ_7 => ?_)
    refine rt_if_eq 50 d_M_suffixLine_40 (by decide) (fun _ => ?_) (fun _ => ?_)
    · refine rb_TC.mono (rk_iconst (0 : Int32) d_M_suffixLine_50 (by decide)) ?_
      exact t_M_suffixLine_j51 hdd  (r0) (x1) (y_4) ((0 : Int32)) σ_7
    · refine rb_TC.mono (rk_lload_n 2 d_M_suffixLine_43 rfl rfl) ?_
      refine rt_sI (As := [.long y_4]) (st := []) sw_M_167 (s_M_length (Nat.le_refl _) (y_4) σ_7) (Nat.le_trans (by decide) hdd) rfl (by simp [rb_cat_r, rb_cat_i, rb_cat_l]) d_M_suffixLine_44 (fun x_16 σ_17 => ?_)
      refine rb_TC.mono (rk_goto 51 d_M_suffixLine_47 (by decide)) ?_
      exact t_M_suffixLine_j51 hdd  (r0) (x1) (y_4) (x_16) σ_17
noncomputable def f_M_suffixLine (r0 : Option Nat) (σ : rb_St) : Option rb_Rs :=
  (rb_gI σ r0 13 47).bind fun x_1 => if x_1 = (1 : Int32) then ((rb_pI σ r0 13 18 (0 : Int32)).bind fun σ_2 => rb_it (fun z : (Int32 × rb_St) => f_M_suffixLine_b22 (r0) (z.1) z.2) ((1 : Int32), σ_2)) else ((rb_gI σ r0 13 18).bind fun x_18 => (rb_pI σ r0 13 18 x_18).bind fun σ_19 => rb_it (fun z : (Int32 × rb_St) => f_M_suffixLine_b22 (r0) (z.1) z.2) ((1 : Int32), σ_19))
theorem s_M_suffixLine {E : rb_EV} {d : Nat} (hdd : 2 ≤ d) (r0 : Option Nat) (σ : rb_St) : rb_Does E k_M_suffixLine d [va_rf r0] σ (f_M_suffixLine r0 σ) := by
  refine rb_start (lv := [some (va_rf r0), none, none, none, none]) (by decide) (by simp [lg_sl, rb_as, lv_args, rb_cat_r, rb_cat_i, rb_cat_l, rb_nL, k_M_suffixLine]) (fun res => ?_)
  unfold f_M_suffixLine
  refine rb_TC.mono (rk_aload_n 0 d_M_suffixLine_0 rfl rfl) ?_
  refine rb_TC.mono (rk_aload_n 0 d_M_suffixLine_1 rfl rfl) ?_
  refine rt_gI r0 fw_M_254 d_M_suffixLine_2 (fun x_1 => ?_)
  refine rb_TC.mono (rk_iconst (1 : Int32) d_M_suffixLine_5 (by decide)) ?_
  refine rt_icmp_ne 13 d_M_suffixLine_6 (by decide) (fun _ => ?_) (fun _ => ?_)
  · refine rb_TC.mono (rk_iconst (0 : Int32) d_M_suffixLine_9 (by decide)) ?_
    refine rb_TC.mono (rk_goto 17 d_M_suffixLine_10 (by decide)) ?_
    refine rt_pI r0 fp_M_suffixLine_261 d_M_suffixLine_17 (fun σ_2 => ?_)
    refine rb_TC.mono (rk_iconst (1 : Int32) d_M_suffixLine_20 (by decide)) ?_
    refine rb_TC.mono (rk_istore_n (lv2 := [some (va_rf r0), some (.int (1 : Int32)), none, none, none]) 1 d_M_suffixLine_21 rfl (by decide) (fun _ => rb_one_r) rfl) ?_
    exact rb_TC.loop2 (A := (fun z : (Int32 × rb_St) => rb_WK E k_M_suffixLine d σ res 22 [some (va_rf r0), some (.int z.1), none, none, none] [] z.2)) ((1 : Int32), σ_2) (fun z => t_M_suffixLine_b22 hdd  (r0) (z.1) z.2)
  · refine rb_TC.mono (rk_aload_n 0 d_M_suffixLine_13 rfl rfl) ?_
    refine rt_gI r0 fw_M_261 d_M_suffixLine_14 (fun x_18 => ?_)
    refine rt_pI r0 fp_M_suffixLine_261 d_M_suffixLine_17 (fun σ_19 => ?_)
    refine rb_TC.mono (rk_iconst (1 : Int32) d_M_suffixLine_20 (by decide)) ?_
    refine rb_TC.mono (rk_istore_n (lv2 := [some (va_rf r0), some (.int (1 : Int32)), none, none, none]) 1 d_M_suffixLine_21 rfl (by decide) (fun _ => rb_one_r) rfl) ?_
    exact rb_TC.loop2 (A := (fun z : (Int32 × rb_St) => rb_WK E k_M_suffixLine d σ res 22 [some (va_rf r0), some (.int z.1), none, none, none] [] z.2)) ((1 : Int32), σ_19) (fun z => t_M_suffixLine_b22 hdd  (r0) (z.1) z.2)
-- ===== RuleBuilderModel.markLine(J)Z
def k_M_markLine : rb_MK := (⟨"RuleBuilderModel", "markLine", "(J)Z"⟩, prog_14_method_38_code, 5, some (.boolean))
theorem mw_M_markLine : rb_Mw k_M_markLine 1 := ⟨rb_inG 1593 (by decide +kernel) rfl, rb_inG 94 (by decide +kernel) rfl, ⟨by decide, by decide, by decide +kernel⟩, by decide⟩
theorem w_long_M_329 : Cond.constantLong "RuleBuilderModel" 329 (1602175100761) ∈ rb_G := rb_inG 1587 (by decide +kernel) rfl
theorem w_long_M_331 : Cond.constantLong "RuleBuilderModel" 331 (204837624211781) ∈ rb_G := rb_inG 1588 (by decide +kernel) rfl
theorem w_long_M_333 : Cond.constantLong "RuleBuilderModel" 333 (205181754107732) ∈ rb_G := rb_inG 1589 (by decide +kernel) rfl
theorem fp_M_markLine_264 : rb_Fp k_M_markLine 264 13 22 .boolean := ⟨fw_M_264, rfl, fun q h => by cases h; exact Or.inl rfl⟩
theorem fp_M_markLine_268 : rb_Fp k_M_markLine 268 13 23 .boolean := ⟨fw_M_268, rfl, fun q h => by cases h; exact Or.inl rfl⟩
theorem d_M_markLine_0 : decode prog_14_method_38_code 0 = .ok (.aload_n 0, 1) := by decide +kernel
theorem d_M_markLine_1 : decode prog_14_method_38_code 1 = .ok (.aload_n 0, 1) := by decide +kernel
theorem d_M_markLine_2 : decode prog_14_method_38_code 2 = .ok (.getfield 264, 3) := by decide +kernel
theorem d_M_markLine_5 : decode prog_14_method_38_code 5 = .ok (.ifCond .ne 19, 3) := by decide +kernel
theorem d_M_markLine_8 : decode prog_14_method_38_code 8 = .ok (.lload_n 1, 1) := by decide +kernel
theorem d_M_markLine_9 : decode prog_14_method_38_code 9 = .ok (.ldc2_w 331, 3) := by decide +kernel
theorem d_M_markLine_12 : decode prog_14_method_38_code 12 = .ok (.lcmp, 1) := by decide +kernel
theorem d_M_markLine_13 : decode prog_14_method_38_code 13 = .ok (.ifCond .ne 15, 3) := by decide +kernel
theorem d_M_markLine_16 : decode prog_14_method_38_code 16 = .ok (.aload_n 0, 1) := by decide +kernel
theorem d_M_markLine_17 : decode prog_14_method_38_code 17 = .ok (.getfield 254, 3) := by decide +kernel
theorem d_M_markLine_20 : decode prog_14_method_38_code 20 = .ok (.iconst 1, 1) := by decide +kernel
theorem d_M_markLine_21 : decode prog_14_method_38_code 21 = .ok (.if_icmp .ne 7, 3) := by decide +kernel
theorem d_M_markLine_24 : decode prog_14_method_38_code 24 = .ok (.iconst 1, 1) := by decide +kernel
theorem d_M_markLine_25 : decode prog_14_method_38_code 25 = .ok (.goto 4, 3) := by decide +kernel
theorem d_M_markLine_28 : decode prog_14_method_38_code 28 = .ok (.iconst 0, 1) := by decide +kernel
theorem d_M_markLine_29 : decode prog_14_method_38_code 29 = .ok (.putfield 264, 3) := by decide +kernel
theorem d_M_markLine_32 : decode prog_14_method_38_code 32 = .ok (.aload_n 0, 1) := by decide +kernel
theorem d_M_markLine_33 : decode prog_14_method_38_code 33 = .ok (.aload_n 0, 1) := by decide +kernel
theorem d_M_markLine_34 : decode prog_14_method_38_code 34 = .ok (.getfield 268, 3) := by decide +kernel
theorem d_M_markLine_37 : decode prog_14_method_38_code 37 = .ok (.ifCond .ne 19, 3) := by decide +kernel
theorem d_M_markLine_40 : decode prog_14_method_38_code 40 = .ok (.lload_n 1, 1) := by decide +kernel
theorem d_M_markLine_41 : decode prog_14_method_38_code 41 = .ok (.ldc2_w 333, 3) := by decide +kernel
theorem d_M_markLine_44 : decode prog_14_method_38_code 44 = .ok (.lcmp, 1) := by decide +kernel
theorem d_M_markLine_45 : decode prog_14_method_38_code 45 = .ok (.ifCond .ne 15, 3) := by decide +kernel
theorem d_M_markLine_48 : decode prog_14_method_38_code 48 = .ok (.aload_n 0, 1) := by decide +kernel
theorem d_M_markLine_49 : decode prog_14_method_38_code 49 = .ok (.getfield 254, 3) := by decide +kernel
theorem d_M_markLine_52 : decode prog_14_method_38_code 52 = .ok (.iconst 1, 1) := by decide +kernel
theorem d_M_markLine_53 : decode prog_14_method_38_code 53 = .ok (.if_icmp .ne 7, 3) := by decide +kernel
theorem d_M_markLine_56 : decode prog_14_method_38_code 56 = .ok (.iconst 1, 1) := by decide +kernel
theorem d_M_markLine_57 : decode prog_14_method_38_code 57 = .ok (.goto 4, 3) := by decide +kernel
theorem d_M_markLine_60 : decode prog_14_method_38_code 60 = .ok (.iconst 0, 1) := by decide +kernel
theorem d_M_markLine_61 : decode prog_14_method_38_code 61 = .ok (.putfield 268, 3) := by decide +kernel
theorem d_M_markLine_64 : decode prog_14_method_38_code 64 = .ok (.iconst 1, 1) := by decide +kernel
theorem d_M_markLine_65 : decode prog_14_method_38_code 65 = .ok (.istore_n 3, 1) := by decide +kernel
theorem d_M_markLine_66 : decode prog_14_method_38_code 66 = .ok (.iload_n 3, 1) := by decide +kernel
theorem d_M_markLine_67 : decode prog_14_method_38_code 67 = .ok (.aload_n 0, 1) := by decide +kernel
theorem d_M_markLine_68 : decode prog_14_method_38_code 68 = .ok (.getfield 254, 3) := by decide +kernel
theorem d_M_markLine_71 : decode prog_14_method_38_code 71 = .ok (.if_icmp .ge 117, 3) := by decide +kernel
theorem d_M_markLine_74 : decode prog_14_method_38_code 74 = .ok (.aload_n 0, 1) := by decide +kernel
theorem d_M_markLine_75 : decode prog_14_method_38_code 75 = .ok (.aload_n 0, 1) := by decide +kernel
theorem d_M_markLine_76 : decode prog_14_method_38_code 76 = .ok (.iload_n 3, 1) := by decide +kernel
theorem d_M_markLine_77 : decode prog_14_method_38_code 77 = .ok (.invokevirtual 320, 3) := by decide +kernel
theorem d_M_markLine_80 : decode prog_14_method_38_code 80 = .ok (.invokevirtual 192, 3) := by decide +kernel
theorem d_M_markLine_83 : decode prog_14_method_38_code 83 = .ok (.istore 4, 2) := by decide +kernel
theorem d_M_markLine_85 : decode prog_14_method_38_code 85 = .ok (.iload 4, 2) := by decide +kernel
theorem d_M_markLine_87 : decode prog_14_method_38_code 87 = .ok (.ifCond .ge 5, 3) := by decide +kernel
theorem d_M_markLine_90 : decode prog_14_method_38_code 90 = .ok (.iconst 0, 1) := by decide +kernel
theorem d_M_markLine_91 : decode prog_14_method_38_code 91 = .ok (.ireturn, 1) := by decide +kernel
theorem d_M_markLine_92 : decode prog_14_method_38_code 92 = .ok (.aload_n 0, 1) := by decide +kernel
theorem d_M_markLine_93 : decode prog_14_method_38_code 93 = .ok (.getfield 54, 3) := by decide +kernel
theorem d_M_markLine_96 : decode prog_14_method_38_code 96 = .ok (.iload 4, 2) := by decide +kernel
theorem d_M_markLine_98 : decode prog_14_method_38_code 98 = .ok (.aload_n 0, 1) := by decide +kernel
theorem d_M_markLine_99 : decode prog_14_method_38_code 99 = .ok (.getfield 54, 3) := by decide +kernel
theorem d_M_markLine_102 : decode prog_14_method_38_code 102 = .ok (.iload 4, 2) := by decide +kernel
theorem d_M_markLine_104 : decode prog_14_method_38_code 104 = .ok (.baload, 1) := by decide +kernel
theorem d_M_markLine_105 : decode prog_14_method_38_code 105 = .ok (.ifCond .ne 11, 3) := by decide +kernel
theorem d_M_markLine_108 : decode prog_14_method_38_code 108 = .ok (.lload_n 1, 1) := by decide +kernel
theorem d_M_markLine_109 : decode prog_14_method_38_code 109 = .ok (.ldc2_w 329, 3) := by decide +kernel
theorem d_M_markLine_112 : decode prog_14_method_38_code 112 = .ok (.lcmp, 1) := by decide +kernel
theorem d_M_markLine_113 : decode prog_14_method_38_code 113 = .ok (.ifCond .ne 7, 3) := by decide +kernel
theorem d_M_markLine_116 : decode prog_14_method_38_code 116 = .ok (.iconst 1, 1) := by decide +kernel
theorem d_M_markLine_117 : decode prog_14_method_38_code 117 = .ok (.goto 4, 3) := by decide +kernel
theorem d_M_markLine_120 : decode prog_14_method_38_code 120 = .ok (.iconst 0, 1) := by decide +kernel
theorem d_M_markLine_121 : decode prog_14_method_38_code 121 = .ok (.bastore, 1) := by decide +kernel
theorem d_M_markLine_122 : decode prog_14_method_38_code 122 = .ok (.aload_n 0, 1) := by decide +kernel
theorem d_M_markLine_123 : decode prog_14_method_38_code 123 = .ok (.getfield 57, 3) := by decide +kernel
theorem d_M_markLine_126 : decode prog_14_method_38_code 126 = .ok (.iload 4, 2) := by decide +kernel
theorem d_M_markLine_128 : decode prog_14_method_38_code 128 = .ok (.aload_n 0, 1) := by decide +kernel
theorem d_M_markLine_129 : decode prog_14_method_38_code 129 = .ok (.getfield 57, 3) := by decide +kernel
theorem d_M_markLine_132 : decode prog_14_method_38_code 132 = .ok (.iload 4, 2) := by decide +kernel
theorem d_M_markLine_134 : decode prog_14_method_38_code 134 = .ok (.baload, 1) := by decide +kernel
theorem d_M_markLine_135 : decode prog_14_method_38_code 135 = .ok (.ifCond .ne 11, 3) := by decide +kernel
theorem d_M_markLine_138 : decode prog_14_method_38_code 138 = .ok (.lload_n 1, 1) := by decide +kernel
theorem d_M_markLine_139 : decode prog_14_method_38_code 139 = .ok (.ldc2_w 331, 3) := by decide +kernel
theorem d_M_markLine_142 : decode prog_14_method_38_code 142 = .ok (.lcmp, 1) := by decide +kernel
theorem d_M_markLine_143 : decode prog_14_method_38_code 143 = .ok (.ifCond .ne 7, 3) := by decide +kernel
theorem d_M_markLine_146 : decode prog_14_method_38_code 146 = .ok (.iconst 1, 1) := by decide +kernel
theorem d_M_markLine_147 : decode prog_14_method_38_code 147 = .ok (.goto 4, 3) := by decide +kernel
theorem d_M_markLine_150 : decode prog_14_method_38_code 150 = .ok (.iconst 0, 1) := by decide +kernel
theorem d_M_markLine_151 : decode prog_14_method_38_code 151 = .ok (.bastore, 1) := by decide +kernel
theorem d_M_markLine_152 : decode prog_14_method_38_code 152 = .ok (.aload_n 0, 1) := by decide +kernel
theorem d_M_markLine_153 : decode prog_14_method_38_code 153 = .ok (.getfield 60, 3) := by decide +kernel
theorem d_M_markLine_156 : decode prog_14_method_38_code 156 = .ok (.iload 4, 2) := by decide +kernel
theorem d_M_markLine_158 : decode prog_14_method_38_code 158 = .ok (.aload_n 0, 1) := by decide +kernel
theorem d_M_markLine_159 : decode prog_14_method_38_code 159 = .ok (.getfield 60, 3) := by decide +kernel
theorem d_M_markLine_162 : decode prog_14_method_38_code 162 = .ok (.iload 4, 2) := by decide +kernel
theorem d_M_markLine_164 : decode prog_14_method_38_code 164 = .ok (.baload, 1) := by decide +kernel
theorem d_M_markLine_165 : decode prog_14_method_38_code 165 = .ok (.ifCond .ne 11, 3) := by decide +kernel
theorem d_M_markLine_168 : decode prog_14_method_38_code 168 = .ok (.lload_n 1, 1) := by decide +kernel
theorem d_M_markLine_169 : decode prog_14_method_38_code 169 = .ok (.ldc2_w 333, 3) := by decide +kernel
theorem d_M_markLine_172 : decode prog_14_method_38_code 172 = .ok (.lcmp, 1) := by decide +kernel
theorem d_M_markLine_173 : decode prog_14_method_38_code 173 = .ok (.ifCond .ne 7, 3) := by decide +kernel
theorem d_M_markLine_176 : decode prog_14_method_38_code 176 = .ok (.iconst 1, 1) := by decide +kernel
theorem d_M_markLine_177 : decode prog_14_method_38_code 177 = .ok (.goto 4, 3) := by decide +kernel
theorem d_M_markLine_180 : decode prog_14_method_38_code 180 = .ok (.iconst 0, 1) := by decide +kernel
theorem d_M_markLine_181 : decode prog_14_method_38_code 181 = .ok (.bastore, 1) := by decide +kernel
theorem d_M_markLine_182 : decode prog_14_method_38_code 182 = .ok (.iinc 3 1, 3) := by decide +kernel
theorem d_M_markLine_185 : decode prog_14_method_38_code 185 = .ok (.goto (-119), 3) := by decide +kernel
theorem d_M_markLine_188 : decode prog_14_method_38_code 188 = .ok (.iconst 1, 1) := by decide +kernel
theorem d_M_markLine_189 : decode prog_14_method_38_code 189 = .ok (.ireturn, 1) := by decide +kernel
noncomputable def f_M_markLine_j151 (r0 : Option Nat) (y1 : Int64) (x3 : Int32) (x4 : Int32) (sx0 : Int32) (sx1 : Int32) (sr2 : Option Nat) (σ : rb_St) : Option ((Int32 × rb_St) ⊕ rb_Rs) :=
  (rb_sI σ sr2 104 sx1 sx0).bind fun σ_19 => (rb_gR σ_19 r0 13 21).bind fun r_20 => (rb_gR σ_19 r0 13 21).bind fun r_21 => (rb_aI σ_19 r_21 104 x4).bind fun x_22 => if x_22 = 0 then (if (lg_cmp y1 (205181754107732 : Int64)) = 0 then ((rb_sI σ_19 r_20 104 x4 (1 : Int32)).bind fun σ_23 => some (.inl ((x3 + 1), σ_23))) else ((rb_sI σ_19 r_20 104 x4 (0 : Int32)).bind fun σ_24 => some (.inl ((x3 + 1), σ_24)))) else ((rb_sI σ_19 r_20 104 x4 (1 : Int32)).bind fun σ_25 => some (.inl ((x3 + 1), σ_25)))
theorem t_M_markLine_j151 {E : rb_EV} {d : Nat} {σ0 : rb_St} {res : rb_Rs} (hdd : 3 ≤ d)  (r0 : Option Nat) (y1 : Int64) (x3 : Int32) (x4 : Int32) (sx0 : Int32) (sx1 : Int32) (sr2 : Option Nat) (σ : rb_St) : rb_TC (f_M_markLine_j151 r0 y1 x3 x4 sx0 sx1 sr2 σ) (Sum.elim (fun z : (Int32 × rb_St) => rb_WK E k_M_markLine d σ0 res 66 [some (va_rf r0), some (.long y1), none, some (.int z.1), none] [] z.2) (fun r => r = res)) (rb_WK E k_M_markLine d σ0 res 151 [some (va_rf r0), some (.long y1), none, some (.int x3), some (.int x4)] [.int sx0, .int sx1, va_rf sr2] σ) := by
  unfold f_M_markLine_j151
  refine rt_zast sr2 d_M_markLine_151 (fun σ_19 => ?_)
  refine rb_TC.mono (rk_aload_n 0 d_M_markLine_152 rfl rfl) ?_
  refine rt_gR r0 fw_M_60 d_M_markLine_153 (fun r_20 => ?_)
  refine rb_TC.mono (rk_iload d_M_markLine_156 rfl) ?_
  refine rb_TC.mono (rk_aload_n 0 d_M_markLine_158 rfl rfl) ?_
  refine rt_gR r0 fw_M_60 d_M_markLine_159 (fun r_21 => ?_)
  refine rb_TC.mono (rk_iload d_M_markLine_162 rfl) ?_
  refine rt_zald r_21 d_M_markLine_164 (fun x_22 => ?_)
  refine rt_if_ne 176 d_M_markLine_165 (by decide) (fun _ => ?_) (fun _ => ?_)
  · refine rb_TC.mono (rk_lload_n 1 d_M_markLine_168 rfl rfl) ?_
    refine rb_TC.mono (rk_ldc2 d_M_markLine_169 w_long_M_333) ?_
    refine rb_TC.mono (rk_lcmp d_M_markLine_172) ?_
    refine rt_if_ne 180 d_M_markLine_173 (by decide) (fun _ => ?_) (fun _ => ?_)
    · refine rb_TC.mono (rk_iconst (1 : Int32) d_M_markLine_176 (by decide)) ?_
      refine rb_TC.mono (rk_goto 181 d_M_markLine_177 (by decide)) ?_
      refine rt_zast r_20 d_M_markLine_181 (fun σ_23 => ?_)
      refine rb_TC.mono (rk_iinc (lv2 := [some (va_rf r0), some (.long y1), none, some (.int (x3 + 1)), some (.int x4)]) (x3 + 1) d_M_markLine_182 rfl rfl (by decide) (fun _ => rb_one_n) rfl) ?_
      refine rb_TC.mono (rk_goto 66 d_M_markLine_185 (by decide)) ?_
      refine rb_TC.mono (rk_less (lv2 := [some (va_rf r0), some (.long y1), none, some (.int (x3 + 1)), none]) (rb_le_ok (rb_leS (rb_leS (rb_leN (rb_leS (rb_leN rb_le0))))))) ?_
      exact rb_back
    · refine rb_TC.mono (rk_iconst (0 : Int32) d_M_markLine_180 (by decide)) ?_
      refine rt_zast r_20 d_M_markLine_181 (fun σ_24 => ?_)
      refine rb_TC.mono (rk_iinc (lv2 := [some (va_rf r0), some (.long y1), none, some (.int (x3 + 1)), some (.int x4)]) (x3 + 1) d_M_markLine_182 rfl rfl (by decide) (fun _ => rb_one_n) rfl) ?_
      refine rb_TC.mono (rk_goto 66 d_M_markLine_185 (by decide)) ?_
      refine rb_TC.mono (rk_less (lv2 := [some (va_rf r0), some (.long y1), none, some (.int (x3 + 1)), none]) (rb_le_ok (rb_leS (rb_leS (rb_leN (rb_leS (rb_leN rb_le0))))))) ?_
      exact rb_back
  · refine rb_TC.mono (rk_iconst (1 : Int32) d_M_markLine_176 (by decide)) ?_
    refine rb_TC.mono (rk_goto 181 d_M_markLine_177 (by decide)) ?_
    refine rt_zast r_20 d_M_markLine_181 (fun σ_25 => ?_)
    refine rb_TC.mono (rk_iinc (lv2 := [some (va_rf r0), some (.long y1), none, some (.int (x3 + 1)), some (.int x4)]) (x3 + 1) d_M_markLine_182 rfl rfl (by decide) (fun _ => rb_one_n) rfl) ?_
    refine rb_TC.mono (rk_goto 66 d_M_markLine_185 (by decide)) ?_
    refine rb_TC.mono (rk_less (lv2 := [some (va_rf r0), some (.long y1), none, some (.int (x3 + 1)), none]) (rb_le_ok (rb_leS (rb_leS (rb_leN (rb_leS (rb_leN rb_le0))))))) ?_
    exact rb_back
noncomputable def f_M_markLine_j146 (r0 : Option Nat) (y1 : Int64) (x3 : Int32) (x4 : Int32) (sx0 : Int32) (sr1 : Option Nat) (σ : rb_St) : Option ((Int32 × rb_St) ⊕ rb_Rs) :=
  f_M_markLine_j151 (r0) (y1) (x3) (x4) ((1 : Int32)) (sx0) (sr1) σ
theorem t_M_markLine_j146 {E : rb_EV} {d : Nat} {σ0 : rb_St} {res : rb_Rs} (hdd : 3 ≤ d)  (r0 : Option Nat) (y1 : Int64) (x3 : Int32) (x4 : Int32) (sx0 : Int32) (sr1 : Option Nat) (σ : rb_St) : rb_TC (f_M_markLine_j146 r0 y1 x3 x4 sx0 sr1 σ) (Sum.elim (fun z : (Int32 × rb_St) => rb_WK E k_M_markLine d σ0 res 66 [some (va_rf r0), some (.long y1), none, some (.int z.1), none] [] z.2) (fun r => r = res)) (rb_WK E k_M_markLine d σ0 res 146 [some (va_rf r0), some (.long y1), none, some (.int x3), some (.int x4)] [.int sx0, va_rf sr1] σ) := by
  unfold f_M_markLine_j146
  refine rb_TC.mono (rk_iconst (1 : Int32) d_M_markLine_146 (by decide)) ?_
  refine rb_TC.mono (rk_goto 151 d_M_markLine_147 (by decide)) ?_
  exact t_M_markLine_j151 hdd  (r0) (y1) (x3) (x4) ((1 : Int32)) (sx0) (sr1) σ
noncomputable def f_M_markLine_j121 (r0 : Option Nat) (y1 : Int64) (x3 : Int32) (x4 : Int32) (sx0 : Int32) (sx1 : Int32) (sr2 : Option Nat) (σ : rb_St) : Option ((Int32 × rb_St) ⊕ rb_Rs) :=
  (rb_sI σ sr2 104 sx1 sx0).bind fun σ_15 => (rb_gR σ_15 r0 13 20).bind fun r_16 => (rb_gR σ_15 r0 13 20).bind fun r_17 => (rb_aI σ_15 r_17 104 x4).bind fun x_18 => if x_18 = 0 then (if (lg_cmp y1 (204837624211781 : Int64)) = 0 then (f_M_markLine_j146 (r0) (y1) (x3) (x4) (x4) (r_16) σ_15) else (f_M_markLine_j151 (r0) (y1) (x3) (x4) ((0 : Int32)) (x4) (r_16) σ_15)) else (f_M_markLine_j146 (r0) (y1) (x3) (x4) (x4) (r_16) σ_15)
theorem t_M_markLine_j121 {E : rb_EV} {d : Nat} {σ0 : rb_St} {res : rb_Rs} (hdd : 3 ≤ d)  (r0 : Option Nat) (y1 : Int64) (x3 : Int32) (x4 : Int32) (sx0 : Int32) (sx1 : Int32) (sr2 : Option Nat) (σ : rb_St) : rb_TC (f_M_markLine_j121 r0 y1 x3 x4 sx0 sx1 sr2 σ) (Sum.elim (fun z : (Int32 × rb_St) => rb_WK E k_M_markLine d σ0 res 66 [some (va_rf r0), some (.long y1), none, some (.int z.1), none] [] z.2) (fun r => r = res)) (rb_WK E k_M_markLine d σ0 res 121 [some (va_rf r0), some (.long y1), none, some (.int x3), some (.int x4)] [.int sx0, .int sx1, va_rf sr2] σ) := by
  unfold f_M_markLine_j121
  refine rt_zast sr2 d_M_markLine_121 (fun σ_15 => ?_)
  refine rb_TC.mono (rk_aload_n 0 d_M_markLine_122 rfl rfl) ?_
  refine rt_gR r0 fw_M_57 d_M_markLine_123 (fun r_16 => ?_)
  refine rb_TC.mono (rk_iload d_M_markLine_126 rfl) ?_
  refine rb_TC.mono (rk_aload_n 0 d_M_markLine_128 rfl rfl) ?_
  refine rt_gR r0 fw_M_57 d_M_markLine_129 (fun r_17 => ?_)
  refine rb_TC.mono (rk_iload d_M_markLine_132 rfl) ?_
  refine rt_zald r_17 d_M_markLine_134 (fun x_18 => ?_)
  refine rt_if_ne 146 d_M_markLine_135 (by decide) (fun _ => ?_) (fun _ => ?_)
  · refine rb_TC.mono (rk_lload_n 1 d_M_markLine_138 rfl rfl) ?_
    refine rb_TC.mono (rk_ldc2 d_M_markLine_139 w_long_M_331) ?_
    refine rb_TC.mono (rk_lcmp d_M_markLine_142) ?_
    refine rt_if_ne 150 d_M_markLine_143 (by decide) (fun _ => ?_) (fun _ => ?_)
    · exact t_M_markLine_j146 hdd  (r0) (y1) (x3) (x4) (x4) (r_16) σ_15
    · refine rb_TC.mono (rk_iconst (0 : Int32) d_M_markLine_150 (by decide)) ?_
      exact t_M_markLine_j151 hdd  (r0) (y1) (x3) (x4) ((0 : Int32)) (x4) (r_16) σ_15
  · exact t_M_markLine_j146 hdd  (r0) (y1) (x3) (x4) (x4) (r_16) σ_15
noncomputable def f_M_markLine_j116 (r0 : Option Nat) (y1 : Int64) (x3 : Int32) (x4 : Int32) (sx0 : Int32) (sr1 : Option Nat) (σ : rb_St) : Option ((Int32 × rb_St) ⊕ rb_Rs) :=
  f_M_markLine_j121 (r0) (y1) (x3) (x4) ((1 : Int32)) (sx0) (sr1) σ
theorem t_M_markLine_j116 {E : rb_EV} {d : Nat} {σ0 : rb_St} {res : rb_Rs} (hdd : 3 ≤ d)  (r0 : Option Nat) (y1 : Int64) (x3 : Int32) (x4 : Int32) (sx0 : Int32) (sr1 : Option Nat) (σ : rb_St) : rb_TC (f_M_markLine_j116 r0 y1 x3 x4 sx0 sr1 σ) (Sum.elim (fun z : (Int32 × rb_St) => rb_WK E k_M_markLine d σ0 res 66 [some (va_rf r0), some (.long y1), none, some (.int z.1), none] [] z.2) (fun r => r = res)) (rb_WK E k_M_markLine d σ0 res 116 [some (va_rf r0), some (.long y1), none, some (.int x3), some (.int x4)] [.int sx0, va_rf sr1] σ) := by
  unfold f_M_markLine_j116
  refine rb_TC.mono (rk_iconst (1 : Int32) d_M_markLine_116 (by decide)) ?_
  refine rb_TC.mono (rk_goto 121 d_M_markLine_117 (by decide)) ?_
  exact t_M_markLine_j121 hdd  (r0) (y1) (x3) (x4) ((1 : Int32)) (sx0) (sr1) σ
noncomputable def f_M_markLine_b66 (r0 : Option Nat) (y1 : Int64) (x3 : Int32) (σ : rb_St) : Option ((Int32 × rb_St) ⊕ rb_Rs) :=
  (rb_gI σ r0 13 47).bind fun x_7 => if x_7 ≤ x3 then ((some (some (.int (1 : Int32)), σ)).map Sum.inr) else ((rb_fc σ r0 13).bind fun _ => rb_cL (f_M_word (r0) (x3) σ) fun y_8 σ_9 => (rb_fc σ_9 r0 13).bind fun _ => rb_cI (f_M_meet (r0) (y_8) σ_9) fun x_10 σ_11 => if 0 ≤ x_10 then ((rb_gR σ_11 r0 13 19).bind fun r_12 => (rb_gR σ_11 r0 13 19).bind fun r_13 => (rb_aI σ_11 r_13 104 x_10).bind fun x_14 => if x_14 = 0 then (if (lg_cmp y1 (1602175100761 : Int64)) = 0 then (f_M_markLine_j116 (r0) (y1) (x3) (x_10) (x_10) (r_12) σ_11) else (f_M_markLine_j121 (r0) (y1) (x3) (x_10) ((0 : Int32)) (x_10) (r_12) σ_11)) else (f_M_markLine_j116 (r0) (y1) (x3) (x_10) (x_10) (r_12) σ_11)) else ((some (some (.int (0 : Int32)), σ_11)).map Sum.inr))
theorem t_M_markLine_b66 {E : rb_EV} {d : Nat} {σ0 : rb_St} {res : rb_Rs} (hdd : 3 ≤ d)  (r0 : Option Nat) (y1 : Int64) (x3 : Int32) (σ : rb_St) : rb_TC (f_M_markLine_b66 r0 y1 x3 σ) (Sum.elim (fun z : (Int32 × rb_St) => rb_WK E k_M_markLine d σ0 res 66 [some (va_rf r0), some (.long y1), none, some (.int z.1), none] [] z.2) (fun r => r = res)) (rb_WK E k_M_markLine d σ0 res 66 [some (va_rf r0), some (.long y1), none, some (.int x3), none] [] σ) := by
  unfold f_M_markLine_b66
  refine rb_TC.mono (rk_iload_n 3 d_M_markLine_66 rfl rfl) ?_
  refine rb_TC.mono (rk_aload_n 0 d_M_markLine_67 rfl rfl) ?_
  refine rt_gI r0 fw_M_254 d_M_markLine_68 (fun x_7 => ?_)
  refine rt_icmp_ge 188 d_M_markLine_71 (by decide) (fun _ => ?_) (fun _ => ?_)
  · refine rb_TC.out ?_
    refine rb_TC.mono (rk_iconst (1 : Int32) d_M_markLine_188 (by decide)) ?_
    exact rt_iret (ty := .boolean) rfl (by decide) (fun h => h) d_M_markLine_189
  · refine rb_TC.mono (rk_aload_n 0 d_M_markLine_74 rfl rfl) ?_
    refine rb_TC.mono (rk_aload_n 0 d_M_markLine_75 rfl rfl) ?_
    refine rb_TC.mono (rk_iload_n 3 d_M_markLine_76 rfl rfl) ?_
    refine rt_vL (As := [.int x3]) (st := [va_rf r0]) (r0) vw_M_320 (s_M_word (Nat.le_refl _) (r0) (x3) σ) (Nat.le_trans (by decide) hdd) rfl (by simp [rb_cat_r, rb_cat_i, rb_cat_l]) d_M_markLine_77 (fun y_8 σ_9 => ?_)
    refine rt_vI (As := [.long y_8]) (st := []) (r0) vw_M_192 (s_M_meet (Nat.le_refl _) (r0) (y_8) σ_9) (Nat.le_trans (by decide) hdd) rfl (by simp [rb_cat_r, rb_cat_i, rb_cat_l]) d_M_markLine_80 (fun x_10 σ_11 => ?_)
    refine rb_TC.mono (rk_istore (lv2 := [some (va_rf r0), some (.long y1), none, some (.int x3), some (.int x_10)]) d_M_markLine_83 (by decide) (fun _ => rb_one_i) rfl) ?_
    refine rb_TC.mono (rk_iload d_M_markLine_85 rfl) ?_
    refine rt_if_ge 92 d_M_markLine_87 (by decide) (fun _ => ?_) (fun _ => ?_)
    · refine rb_TC.mono (rk_aload_n 0 d_M_markLine_92 rfl rfl) ?_
      refine rt_gR r0 fw_M_54 d_M_markLine_93 (fun r_12 => ?_)
      refine rb_TC.mono (rk_iload d_M_markLine_96 rfl) ?_
      refine rb_TC.mono (rk_aload_n 0 d_M_markLine_98 rfl rfl) ?_
      refine rt_gR r0 fw_M_54 d_M_markLine_99 (fun r_13 => ?_)
      refine rb_TC.mono (rk_iload d_M_markLine_102 rfl) ?_
      refine rt_zald r_13 d_M_markLine_104 (fun x_14 => ?_)
      refine rt_if_ne 116 d_M_markLine_105 (by decide) (fun _ => ?_) (fun _ => ?_)
      · refine rb_TC.mono (rk_lload_n 1 d_M_markLine_108 rfl rfl) ?_
        refine rb_TC.mono (rk_ldc2 d_M_markLine_109 w_long_M_329) ?_
        refine rb_TC.mono (rk_lcmp d_M_markLine_112) ?_
        refine rt_if_ne 120 d_M_markLine_113 (by decide) (fun _ => ?_) (fun _ => ?_)
        · exact t_M_markLine_j116 hdd  (r0) (y1) (x3) (x_10) (x_10) (r_12) σ_11
        · refine rb_TC.mono (rk_iconst (0 : Int32) d_M_markLine_120 (by decide)) ?_
          exact t_M_markLine_j121 hdd  (r0) (y1) (x3) (x_10) ((0 : Int32)) (x_10) (r_12) σ_11
      · exact t_M_markLine_j116 hdd  (r0) (y1) (x3) (x_10) (x_10) (r_12) σ_11
    · refine rb_TC.out ?_
      refine rb_TC.mono (rk_iconst (0 : Int32) d_M_markLine_90 (by decide)) ?_
      exact rt_iret (ty := .boolean) rfl (by decide) (fun h => h) d_M_markLine_91
noncomputable def f_M_markLine_j29 (r0 : Option Nat) (y1 : Int64) (sx0 : Int32) (sr1 : Option Nat) (σ : rb_St) : Option rb_Rs :=
  (rb_pZ σ sr1 13 22 sx0).bind fun σ_3 => (rb_gI σ_3 r0 13 23).bind fun x_4 => if x_4 = 0 then (if (lg_cmp y1 (205181754107732 : Int64)) = 0 then ((rb_gI σ_3 r0 13 47).bind fun x_5 => if x_5 = (1 : Int32) then ((rb_pZ σ_3 r0 13 23 (1 : Int32)).bind fun σ_6 => rb_it (fun z : (Int32 × rb_St) => f_M_markLine_b66 (r0) (y1) (z.1) z.2) ((1 : Int32), σ_6)) else ((rb_pZ σ_3 r0 13 23 (0 : Int32)).bind fun σ_26 => rb_it (fun z : (Int32 × rb_St) => f_M_markLine_b66 (r0) (y1) (z.1) z.2) ((1 : Int32), σ_26))) else ((rb_pZ σ_3 r0 13 23 (0 : Int32)).bind fun σ_27 => rb_it (fun z : (Int32 × rb_St) => f_M_markLine_b66 (r0) (y1) (z.1) z.2) ((1 : Int32), σ_27))) else ((rb_pZ σ_3 r0 13 23 (1 : Int32)).bind fun σ_28 => rb_it (fun z : (Int32 × rb_St) => f_M_markLine_b66 (r0) (y1) (z.1) z.2) ((1 : Int32), σ_28))
theorem t_M_markLine_j29 {E : rb_EV} {d : Nat} {σ0 : rb_St} {res : rb_Rs} (hdd : 3 ≤ d)  (r0 : Option Nat) (y1 : Int64) (sx0 : Int32) (sr1 : Option Nat) (σ : rb_St) : rb_TC (f_M_markLine_j29 r0 y1 sx0 sr1 σ) (fun r => r = res) (rb_WK E k_M_markLine d σ0 res 29 [some (va_rf r0), some (.long y1), none, none, none] [.int sx0, va_rf sr1] σ) := by
  unfold f_M_markLine_j29
  refine rt_pZ sr1 fp_M_markLine_264 d_M_markLine_29 (fun σ_3 => ?_)
  refine rb_TC.mono (rk_aload_n 0 d_M_markLine_32 rfl rfl) ?_
  refine rb_TC.mono (rk_aload_n 0 d_M_markLine_33 rfl rfl) ?_
  refine rt_gI r0 fw_M_268 d_M_markLine_34 (fun x_4 => ?_)
  refine rt_if_ne 56 d_M_markLine_37 (by decide) (fun _ => ?_) (fun _ => ?_)
  · refine rb_TC.mono (rk_lload_n 1 d_M_markLine_40 rfl rfl) ?_
    refine rb_TC.mono (rk_ldc2 d_M_markLine_41 w_long_M_333) ?_
    refine rb_TC.mono (rk_lcmp d_M_markLine_44) ?_
    refine rt_if_ne 60 d_M_markLine_45 (by decide) (fun _ => ?_) (fun _ => ?_)
    · refine rb_TC.mono (rk_aload_n 0 d_M_markLine_48 rfl rfl) ?_
      refine rt_gI r0 fw_M_254 d_M_markLine_49 (fun x_5 => ?_)
      refine rb_TC.mono (rk_iconst (1 : Int32) d_M_markLine_52 (by decide)) ?_
      refine rt_icmp_ne 60 d_M_markLine_53 (by decide) (fun _ => ?_) (fun _ => ?_)
      · refine rb_TC.mono (rk_iconst (1 : Int32) d_M_markLine_56 (by decide)) ?_
        refine rb_TC.mono (rk_goto 61 d_M_markLine_57 (by decide)) ?_
        refine rt_pZ r0 fp_M_markLine_268 d_M_markLine_61 (fun σ_6 => ?_)
        refine rb_TC.mono (rk_iconst (1 : Int32) d_M_markLine_64 (by decide)) ?_
        refine rb_TC.mono (rk_istore_n (lv2 := [some (va_rf r0), some (.long y1), none, some (.int (1 : Int32)), none]) 3 d_M_markLine_65 rfl (by decide) (fun _ => rb_one_n) rfl) ?_
        exact rb_TC.loop2 (A := (fun z : (Int32 × rb_St) => rb_WK E k_M_markLine d σ0 res 66 [some (va_rf r0), some (.long y1), none, some (.int z.1), none] [] z.2)) ((1 : Int32), σ_6) (fun z => t_M_markLine_b66 hdd  (r0) (y1) (z.1) z.2)
      · refine rb_TC.mono (rk_iconst (0 : Int32) d_M_markLine_60 (by decide)) ?_
        refine rt_pZ r0 fp_M_markLine_268 d_M_markLine_61 (fun σ_26 => ?_)
        refine rb_TC.mono (rk_iconst (1 : Int32) d_M_markLine_64 (by decide)) ?_
        refine rb_TC.mono (rk_istore_n (lv2 := [some (va_rf r0), some (.long y1), none, some (.int (1 : Int32)), none]) 3 d_M_markLine_65 rfl (by decide) (fun _ => rb_one_n) rfl) ?_
        exact rb_TC.loop2 (A := (fun z : (Int32 × rb_St) => rb_WK E k_M_markLine d σ0 res 66 [some (va_rf r0), some (.long y1), none, some (.int z.1), none] [] z.2)) ((1 : Int32), σ_26) (fun z => t_M_markLine_b66 hdd  (r0) (y1) (z.1) z.2)
    · refine rb_TC.mono (rk_iconst (0 : Int32) d_M_markLine_60 (by decide)) ?_
      refine rt_pZ r0 fp_M_markLine_268 d_M_markLine_61 (fun σ_27 => ?_)
      refine rb_TC.mono (rk_iconst (1 : Int32) d_M_markLine_64 (by decide)) ?_
      refine rb_TC.mono (rk_istore_n (lv2 := [some (va_rf r0), some (.long y1), none, some (.int (1 : Int32)), none]) 3 d_M_markLine_65 rfl (by decide) (fun _ => rb_one_n) rfl) ?_
      exact rb_TC.loop2 (A := (fun z : (Int32 × rb_St) => rb_WK E k_M_markLine d σ0 res 66 [some (va_rf r0), some (.long y1), none, some (.int z.1), none] [] z.2)) ((1 : Int32), σ_27) (fun z => t_M_markLine_b66 hdd  (r0) (y1) (z.1) z.2)
  · refine rb_TC.mono (rk_iconst (1 : Int32) d_M_markLine_56 (by decide)) ?_
    refine rb_TC.mono (rk_goto 61 d_M_markLine_57 (by decide)) ?_
    refine rt_pZ r0 fp_M_markLine_268 d_M_markLine_61 (fun σ_28 => ?_)
    refine rb_TC.mono (rk_iconst (1 : Int32) d_M_markLine_64 (by decide)) ?_
    refine rb_TC.mono (rk_istore_n (lv2 := [some (va_rf r0), some (.long y1), none, some (.int (1 : Int32)), none]) 3 d_M_markLine_65 rfl (by decide) (fun _ => rb_one_n) rfl) ?_
    exact rb_TC.loop2 (A := (fun z : (Int32 × rb_St) => rb_WK E k_M_markLine d σ0 res 66 [some (va_rf r0), some (.long y1), none, some (.int z.1), none] [] z.2)) ((1 : Int32), σ_28) (fun z => t_M_markLine_b66 hdd  (r0) (y1) (z.1) z.2)
noncomputable def f_M_markLine_j24 (r0 : Option Nat) (y1 : Int64) (sr0 : Option Nat) (σ : rb_St) : Option rb_Rs :=
  f_M_markLine_j29 (r0) (y1) ((1 : Int32)) (sr0) σ
theorem t_M_markLine_j24 {E : rb_EV} {d : Nat} {σ0 : rb_St} {res : rb_Rs} (hdd : 3 ≤ d)  (r0 : Option Nat) (y1 : Int64) (sr0 : Option Nat) (σ : rb_St) : rb_TC (f_M_markLine_j24 r0 y1 sr0 σ) (fun r => r = res) (rb_WK E k_M_markLine d σ0 res 24 [some (va_rf r0), some (.long y1), none, none, none] [va_rf sr0] σ) := by
  unfold f_M_markLine_j24
  refine rb_TC.mono (rk_iconst (1 : Int32) d_M_markLine_24 (by decide)) ?_
  refine rb_TC.mono (rk_goto 29 d_M_markLine_25 (by decide)) ?_
  exact t_M_markLine_j29 hdd  (r0) (y1) ((1 : Int32)) (sr0) σ
noncomputable def f_M_markLine_j28 (r0 : Option Nat) (y1 : Int64) (sr0 : Option Nat) (σ : rb_St) : Option rb_Rs :=
  f_M_markLine_j29 (r0) (y1) ((0 : Int32)) (sr0) σ
theorem t_M_markLine_j28 {E : rb_EV} {d : Nat} {σ0 : rb_St} {res : rb_Rs} (hdd : 3 ≤ d)  (r0 : Option Nat) (y1 : Int64) (sr0 : Option Nat) (σ : rb_St) : rb_TC (f_M_markLine_j28 r0 y1 sr0 σ) (fun r => r = res) (rb_WK E k_M_markLine d σ0 res 28 [some (va_rf r0), some (.long y1), none, none, none] [va_rf sr0] σ) := by
  unfold f_M_markLine_j28
  refine rb_TC.mono (rk_iconst (0 : Int32) d_M_markLine_28 (by decide)) ?_
  exact t_M_markLine_j29 hdd  (r0) (y1) ((0 : Int32)) (sr0) σ
noncomputable def f_M_markLine (r0 : Option Nat) (y1 : Int64) (σ : rb_St) : Option rb_Rs :=
  (rb_gI σ r0 13 22).bind fun x_1 => if x_1 = 0 then (if (lg_cmp y1 (204837624211781 : Int64)) = 0 then ((rb_gI σ r0 13 47).bind fun x_2 => if x_2 = (1 : Int32) then (f_M_markLine_j24 (r0) (y1) (r0) σ) else (f_M_markLine_j28 (r0) (y1) (r0) σ)) else (f_M_markLine_j28 (r0) (y1) (r0) σ)) else (f_M_markLine_j24 (r0) (y1) (r0) σ)
theorem s_M_markLine {E : rb_EV} {d : Nat} (hdd : 3 ≤ d) (r0 : Option Nat) (y1 : Int64) (σ : rb_St) : rb_Does E k_M_markLine d [va_rf r0, .long y1] σ (f_M_markLine r0 y1 σ) := by
  refine rb_start (lv := [some (va_rf r0), some (.long y1), none, none, none]) (by decide) (by simp [lg_sl, rb_as, lv_args, rb_cat_r, rb_cat_i, rb_cat_l, rb_nL, k_M_markLine]) (fun res => ?_)
  unfold f_M_markLine
  refine rb_TC.mono (rk_aload_n 0 d_M_markLine_0 rfl rfl) ?_
  refine rb_TC.mono (rk_aload_n 0 d_M_markLine_1 rfl rfl) ?_
  refine rt_gI r0 fw_M_264 d_M_markLine_2 (fun x_1 => ?_)
  refine rt_if_ne 24 d_M_markLine_5 (by decide) (fun _ => ?_) (fun _ => ?_)
  · refine rb_TC.mono (rk_lload_n 1 d_M_markLine_8 rfl rfl) ?_
    refine rb_TC.mono (rk_ldc2 d_M_markLine_9 w_long_M_331) ?_
    refine rb_TC.mono (rk_lcmp d_M_markLine_12) ?_
    refine rt_if_ne 28 d_M_markLine_13 (by decide) (fun _ => ?_) (fun _ => ?_)
    · refine rb_TC.mono (rk_aload_n 0 d_M_markLine_16 rfl rfl) ?_
      refine rt_gI r0 fw_M_254 d_M_markLine_17 (fun x_2 => ?_)
      refine rb_TC.mono (rk_iconst (1 : Int32) d_M_markLine_20 (by decide)) ?_
      refine rt_icmp_ne 28 d_M_markLine_21 (by decide) (fun _ => ?_) (fun _ => ?_)
      · exact t_M_markLine_j24 hdd  (r0) (y1) (r0) σ
      · exact t_M_markLine_j28 hdd  (r0) (y1) (r0) σ
    · exact t_M_markLine_j28 hdd  (r0) (y1) (r0) σ
  · exact t_M_markLine_j24 hdd  (r0) (y1) (r0) σ
-- ===== RuleBuilderModel.behind(IIJ)I
def k_M_behind : rb_MK := (⟨"RuleBuilderModel", "behind", "(IIJ)I"⟩, prog_14_method_39_code, 6, some (.int))
theorem mw_M_behind : rb_Mw k_M_behind 3 := ⟨rb_inG 1602 (by decide +kernel) rfl, rb_inG 94 (by decide +kernel) rfl, ⟨by decide, by decide, by decide +kernel⟩, by decide⟩
theorem d_M_behind_0 : decode prog_14_method_39_code 0 = .ok (.lload_n 3, 1) := by decide +kernel
theorem d_M_behind_1 : decode prog_14_method_39_code 1 = .ok (.invokestatic 167, 3) := by decide +kernel
theorem d_M_behind_4 : decode prog_14_method_39_code 4 = .ok (.istore 5, 2) := by decide +kernel
theorem d_M_behind_6 : decode prog_14_method_39_code 6 = .ok (.iload_n 1, 1) := by decide +kernel
theorem d_M_behind_7 : decode prog_14_method_39_code 7 = .ok (.iload 5, 2) := by decide +kernel
theorem d_M_behind_9 : decode prog_14_method_39_code 9 = .ok (.iadd, 1) := by decide +kernel
theorem d_M_behind_10 : decode prog_14_method_39_code 10 = .ok (.iload_n 2, 1) := by decide +kernel
theorem d_M_behind_11 : decode prog_14_method_39_code 11 = .ok (.if_icmp .gt 24, 3) := by decide +kernel
theorem d_M_behind_14 : decode prog_14_method_39_code 14 = .ok (.aload_n 0, 1) := by decide +kernel
theorem d_M_behind_15 : decode prog_14_method_39_code 15 = .ok (.iload_n 1, 1) := by decide +kernel
theorem d_M_behind_16 : decode prog_14_method_39_code 16 = .ok (.iload_n 1, 1) := by decide +kernel
theorem d_M_behind_17 : decode prog_14_method_39_code 17 = .ok (.iload 5, 2) := by decide +kernel
theorem d_M_behind_19 : decode prog_14_method_39_code 19 = .ok (.iadd, 1) := by decide +kernel
theorem d_M_behind_20 : decode prog_14_method_39_code 20 = .ok (.invokevirtual 257, 3) := by decide +kernel
theorem d_M_behind_23 : decode prog_14_method_39_code 23 = .ok (.lload_n 3, 1) := by decide +kernel
theorem d_M_behind_24 : decode prog_14_method_39_code 24 = .ok (.lcmp, 1) := by decide +kernel
theorem d_M_behind_25 : decode prog_14_method_39_code 25 = .ok (.ifCond .ne 10, 3) := by decide +kernel
theorem d_M_behind_28 : decode prog_14_method_39_code 28 = .ok (.iload_n 1, 1) := by decide +kernel
theorem d_M_behind_29 : decode prog_14_method_39_code 29 = .ok (.iload 5, 2) := by decide +kernel
theorem d_M_behind_31 : decode prog_14_method_39_code 31 = .ok (.iadd, 1) := by decide +kernel
theorem d_M_behind_32 : decode prog_14_method_39_code 32 = .ok (.goto 4, 3) := by decide +kernel
theorem d_M_behind_35 : decode prog_14_method_39_code 35 = .ok (.iconst (-1), 1) := by decide +kernel
theorem d_M_behind_36 : decode prog_14_method_39_code 36 = .ok (.ireturn, 1) := by decide +kernel
noncomputable def f_M_behind (r0 : Option Nat) (x1 : Int32) (x2 : Int32) (y3 : Int64) (σ : rb_St) : Option rb_Rs :=
  rb_cI (f_M_length (y3) σ) fun x_1 σ_2 => if x2 < (x1 + x_1) then (some (some (.int (-1 : Int32)), σ_2)) else ((rb_fc σ_2 r0 13).bind fun _ => rb_cL (f_M_packed (r0) (x1) ((x1 + x_1)) σ_2) fun y_3 σ_4 => if (lg_cmp y_3 y3) = 0 then (some (some (.int (x1 + x_1)), σ_4)) else (some (some (.int (-1 : Int32)), σ_4)))
theorem s_M_behind {E : rb_EV} {d : Nat} (hdd : 1 ≤ d) (r0 : Option Nat) (x1 : Int32) (x2 : Int32) (y3 : Int64) (σ : rb_St) : rb_Does E k_M_behind d [va_rf r0, .int x1, .int x2, .long y3] σ (f_M_behind r0 x1 x2 y3 σ) := by
  refine rb_start (lv := [some (va_rf r0), some (.int x1), some (.int x2), some (.long y3), none, none]) (by decide) (by simp [lg_sl, rb_as, lv_args, rb_cat_r, rb_cat_i, rb_cat_l, rb_nL, k_M_behind]) (fun res => ?_)
  unfold f_M_behind
  refine rb_TC.mono (rk_lload_n 3 d_M_behind_0 rfl rfl) ?_
  refine rt_sI (As := [.long y3]) (st := []) sw_M_167 (s_M_length (Nat.le_refl _) (y3) σ) (Nat.le_trans (by decide) hdd) rfl (by simp [rb_cat_r, rb_cat_i, rb_cat_l]) d_M_behind_1 (fun x_1 σ_2 => ?_)
  refine rb_TC.mono (rk_istore (lv2 := [some (va_rf r0), some (.int x1), some (.int x2), some (.long y3), none, some (.int x_1)]) d_M_behind_4 (by decide) (fun _ => rb_one_n) rfl) ?_
  refine rb_TC.mono (rk_iload_n 1 d_M_behind_6 rfl rfl) ?_
  refine rb_TC.mono (rk_iload d_M_behind_7 rfl) ?_
  refine rb_TC.mono (rk_iadd d_M_behind_9) ?_
  refine rb_TC.mono (rk_iload_n 2 d_M_behind_10 rfl rfl) ?_
  refine rt_icmp_gt 35 d_M_behind_11 (by decide) (fun _ => ?_) (fun _ => ?_)
  · refine rb_TC.mono (rk_iconst (-1 : Int32) d_M_behind_35 (by decide)) ?_
    exact rt_iret (ty := .int) rfl rfl (fun h => h) d_M_behind_36
  · refine rb_TC.mono (rk_aload_n 0 d_M_behind_14 rfl rfl) ?_
    refine rb_TC.mono (rk_iload_n 1 d_M_behind_15 rfl rfl) ?_
    refine rb_TC.mono (rk_iload_n 1 d_M_behind_16 rfl rfl) ?_
    refine rb_TC.mono (rk_iload d_M_behind_17 rfl) ?_
    refine rb_TC.mono (rk_iadd d_M_behind_19) ?_
    refine rt_vL (As := [.int x1, .int (x1 + x_1)]) (st := []) (r0) vw_M_257 (s_M_packed (Nat.le_refl _) (r0) (x1) ((x1 + x_1)) σ_2) (Nat.le_trans (by decide) hdd) rfl (by simp [rb_cat_r, rb_cat_i, rb_cat_l]) d_M_behind_20 (fun y_3 σ_4 => ?_)
    refine rb_TC.mono (rk_lload_n 3 d_M_behind_23 rfl rfl) ?_
    refine rb_TC.mono (rk_lcmp d_M_behind_24) ?_
    refine rt_if_ne 35 d_M_behind_25 (by decide) (fun _ => ?_) (fun _ => ?_)
    · refine rb_TC.mono (rk_iload_n 1 d_M_behind_28 rfl rfl) ?_
      refine rb_TC.mono (rk_iload d_M_behind_29 rfl) ?_
      refine rb_TC.mono (rk_iadd d_M_behind_31) ?_
      refine rb_TC.mono (rk_goto 36 d_M_behind_32 (by decide)) ?_
      exact rt_iret (ty := .int) rfl rfl (fun h => h) d_M_behind_36
    · refine rb_TC.mono (rk_iconst (-1 : Int32) d_M_behind_35 (by decide)) ?_
      exact rt_iret (ty := .int) rfl rfl (fun h => h) d_M_behind_36
-- ===== RuleBuilderModel.endingOf(JJ)I
def k_M_endingOf : rb_MK := (⟨"RuleBuilderModel", "endingOf", "(JJ)I"⟩, prog_14_method_41_code, 7, some (.int))
theorem mw_M_endingOf : rb_Mw k_M_endingOf 2 := ⟨rb_inG 1606 (by decide +kernel) rfl, rb_inG 94 (by decide +kernel) rfl, ⟨by decide, by decide, by decide +kernel⟩, by decide⟩
theorem d_M_endingOf_0 : decode prog_14_method_41_code 0 = .ok (.iconst (-1), 1) := by decide +kernel
theorem d_M_endingOf_1 : decode prog_14_method_41_code 1 = .ok (.istore 5, 2) := by decide +kernel
theorem d_M_endingOf_3 : decode prog_14_method_41_code 3 = .ok (.iconst 0, 1) := by decide +kernel
theorem d_M_endingOf_4 : decode prog_14_method_41_code 4 = .ok (.istore 6, 2) := by decide +kernel
theorem d_M_endingOf_6 : decode prog_14_method_41_code 6 = .ok (.iload 6, 2) := by decide +kernel
theorem d_M_endingOf_8 : decode prog_14_method_41_code 8 = .ok (.aload_n 0, 1) := by decide +kernel
theorem d_M_endingOf_9 : decode prog_14_method_41_code 9 = .ok (.getfield 280, 3) := by decide +kernel
theorem d_M_endingOf_12 : decode prog_14_method_41_code 12 = .ok (.if_icmp .ge 42, 3) := by decide +kernel
theorem d_M_endingOf_15 : decode prog_14_method_41_code 15 = .ok (.aload_n 0, 1) := by decide +kernel
theorem d_M_endingOf_16 : decode prog_14_method_41_code 16 = .ok (.getfield 84, 3) := by decide +kernel
theorem d_M_endingOf_19 : decode prog_14_method_41_code 19 = .ok (.iload 6, 2) := by decide +kernel
theorem d_M_endingOf_21 : decode prog_14_method_41_code 21 = .ok (.laload, 1) := by decide +kernel
theorem d_M_endingOf_22 : decode prog_14_method_41_code 22 = .ok (.lload_n 1, 1) := by decide +kernel
theorem d_M_endingOf_23 : decode prog_14_method_41_code 23 = .ok (.lcmp, 1) := by decide +kernel
theorem d_M_endingOf_24 : decode prog_14_method_41_code 24 = .ok (.ifCond .ne 20, 3) := by decide +kernel
theorem d_M_endingOf_27 : decode prog_14_method_41_code 27 = .ok (.aload_n 0, 1) := by decide +kernel
theorem d_M_endingOf_28 : decode prog_14_method_41_code 28 = .ok (.getfield 87, 3) := by decide +kernel
theorem d_M_endingOf_31 : decode prog_14_method_41_code 31 = .ok (.iload 6, 2) := by decide +kernel
theorem d_M_endingOf_33 : decode prog_14_method_41_code 33 = .ok (.laload, 1) := by decide +kernel
theorem d_M_endingOf_34 : decode prog_14_method_41_code 34 = .ok (.lload_n 3, 1) := by decide +kernel
theorem d_M_endingOf_35 : decode prog_14_method_41_code 35 = .ok (.lcmp, 1) := by decide +kernel
theorem d_M_endingOf_36 : decode prog_14_method_41_code 36 = .ok (.ifCond .ne 8, 3) := by decide +kernel
theorem d_M_endingOf_39 : decode prog_14_method_41_code 39 = .ok (.iload 6, 2) := by decide +kernel
theorem d_M_endingOf_41 : decode prog_14_method_41_code 41 = .ok (.goto 5, 3) := by decide +kernel
theorem d_M_endingOf_44 : decode prog_14_method_41_code 44 = .ok (.iload 5, 2) := by decide +kernel
theorem d_M_endingOf_46 : decode prog_14_method_41_code 46 = .ok (.istore 5, 2) := by decide +kernel
theorem d_M_endingOf_48 : decode prog_14_method_41_code 48 = .ok (.iinc 6 1, 3) := by decide +kernel
theorem d_M_endingOf_51 : decode prog_14_method_41_code 51 = .ok (.goto (-45), 3) := by decide +kernel
theorem d_M_endingOf_54 : decode prog_14_method_41_code 54 = .ok (.iload 5, 2) := by decide +kernel
theorem d_M_endingOf_56 : decode prog_14_method_41_code 56 = .ok (.ireturn, 1) := by decide +kernel
noncomputable def f_M_endingOf_b6 (r0 : Option Nat) (y1 : Int64) (y3 : Int64) (x5 : Int32) (x6 : Int32) (σ : rb_St) : Option ((Int32 × Int32) ⊕ rb_Rs) :=
  (rb_gI σ r0 13 37).bind fun x_1 => if x_1 ≤ x6 then ((some (some (.int x5), σ)).map Sum.inr) else ((rb_gR σ r0 13 34).bind fun r_2 => (rb_aL σ r_2 103 x6).bind fun y_3 => if (lg_cmp y_3 y1) = 0 then ((rb_gR σ r0 13 35).bind fun r_4 => (rb_aL σ r_4 103 x6).bind fun y_5 => if (lg_cmp y_5 y3) = 0 then (some (.inl (x6, (x6 + 1)))) else (some (.inl (x5, (x6 + 1))))) else (some (.inl (x5, (x6 + 1)))))
theorem t_M_endingOf_b6 {E : rb_EV} {d : Nat} {σ0 : rb_St} {res : rb_Rs} (hdd : 0 ≤ d)  (r0 : Option Nat) (y1 : Int64) (y3 : Int64) (x5 : Int32) (x6 : Int32) (σ : rb_St) : rb_TC (f_M_endingOf_b6 r0 y1 y3 x5 x6 σ) (Sum.elim (fun z : (Int32 × Int32) => rb_WK E k_M_endingOf d σ0 res 6 [some (va_rf r0), some (.long y1), none, some (.long y3), none, some (.int z.1), some (.int z.2)] [] σ) (fun r => r = res)) (rb_WK E k_M_endingOf d σ0 res 6 [some (va_rf r0), some (.long y1), none, some (.long y3), none, some (.int x5), some (.int x6)] [] σ) := by
  unfold f_M_endingOf_b6
  refine rb_TC.mono (rk_iload d_M_endingOf_6 rfl) ?_
  refine rb_TC.mono (rk_aload_n 0 d_M_endingOf_8 rfl rfl) ?_
  refine rt_gI r0 fw_M_280 d_M_endingOf_9 (fun x_1 => ?_)
  refine rt_icmp_ge 54 d_M_endingOf_12 (by decide) (fun _ => ?_) (fun _ => ?_)
  · refine rb_TC.out ?_
    refine rb_TC.mono (rk_iload d_M_endingOf_54 rfl) ?_
    exact rt_iret (ty := .int) rfl rfl (fun h => h) d_M_endingOf_56
  · refine rb_TC.mono (rk_aload_n 0 d_M_endingOf_15 rfl rfl) ?_
    refine rt_gR r0 fw_M_84 d_M_endingOf_16 (fun r_2 => ?_)
    refine rb_TC.mono (rk_iload d_M_endingOf_19 rfl) ?_
    refine rt_lald r_2 d_M_endingOf_21 (fun y_3 => ?_)
    refine rb_TC.mono (rk_lload_n 1 d_M_endingOf_22 rfl rfl) ?_
    refine rb_TC.mono (rk_lcmp d_M_endingOf_23) ?_
    refine rt_if_ne 44 d_M_endingOf_24 (by decide) (fun _ => ?_) (fun _ => ?_)
    · refine rb_TC.mono (rk_aload_n 0 d_M_endingOf_27 rfl rfl) ?_
      refine rt_gR r0 fw_M_87 d_M_endingOf_28 (fun r_4 => ?_)
      refine rb_TC.mono (rk_iload d_M_endingOf_31 rfl) ?_
      refine rt_lald r_4 d_M_endingOf_33 (fun y_5 => ?_)
      refine rb_TC.mono (rk_lload_n 3 d_M_endingOf_34 rfl rfl) ?_
      refine rb_TC.mono (rk_lcmp d_M_endingOf_35) ?_
      refine rt_if_ne 44 d_M_endingOf_36 (by decide) (fun _ => ?_) (fun _ => ?_)
      · refine rb_TC.mono (rk_iload d_M_endingOf_39 rfl) ?_
        refine rb_TC.mono (rk_goto 46 d_M_endingOf_41 (by decide)) ?_
        refine rb_TC.mono (rk_istore (lv2 := [some (va_rf r0), some (.long y1), none, some (.long y3), none, some (.int x6), some (.int x6)]) d_M_endingOf_46 (by decide) (fun _ => rb_one_n) rfl) ?_
        refine rb_TC.mono (rk_iinc (lv2 := [some (va_rf r0), some (.long y1), none, some (.long y3), none, some (.int x6), some (.int (x6 + 1))]) (x6 + 1) d_M_endingOf_48 rfl rfl (by decide) (fun _ => rb_one_i) rfl) ?_
        refine rb_TC.mono (rk_goto 6 d_M_endingOf_51 (by decide)) ?_
        exact rb_back
      · refine rb_TC.mono (rk_iload d_M_endingOf_44 rfl) ?_
        refine rb_TC.mono (rk_istore (lv2 := [some (va_rf r0), some (.long y1), none, some (.long y3), none, some (.int x5), some (.int x6)]) d_M_endingOf_46 (by decide) (fun _ => rb_one_n) rfl) ?_
        refine rb_TC.mono (rk_iinc (lv2 := [some (va_rf r0), some (.long y1), none, some (.long y3), none, some (.int x5), some (.int (x6 + 1))]) (x6 + 1) d_M_endingOf_48 rfl rfl (by decide) (fun _ => rb_one_i) rfl) ?_
        refine rb_TC.mono (rk_goto 6 d_M_endingOf_51 (by decide)) ?_
        exact rb_back
    · refine rb_TC.mono (rk_iload d_M_endingOf_44 rfl) ?_
      refine rb_TC.mono (rk_istore (lv2 := [some (va_rf r0), some (.long y1), none, some (.long y3), none, some (.int x5), some (.int x6)]) d_M_endingOf_46 (by decide) (fun _ => rb_one_n) rfl) ?_
      refine rb_TC.mono (rk_iinc (lv2 := [some (va_rf r0), some (.long y1), none, some (.long y3), none, some (.int x5), some (.int (x6 + 1))]) (x6 + 1) d_M_endingOf_48 rfl rfl (by decide) (fun _ => rb_one_i) rfl) ?_
      refine rb_TC.mono (rk_goto 6 d_M_endingOf_51 (by decide)) ?_
      exact rb_back
noncomputable def f_M_endingOf (r0 : Option Nat) (y1 : Int64) (y3 : Int64) (σ : rb_St) : Option rb_Rs :=
  rb_it (fun z : (Int32 × Int32) => f_M_endingOf_b6 (r0) (y1) (y3) (z.1) (z.2) σ) ((-1 : Int32), (0 : Int32))
theorem s_M_endingOf {E : rb_EV} {d : Nat} (hdd : 0 ≤ d) (r0 : Option Nat) (y1 : Int64) (y3 : Int64) (σ : rb_St) : rb_Does E k_M_endingOf d [va_rf r0, .long y1, .long y3] σ (f_M_endingOf r0 y1 y3 σ) := by
  refine rb_start (lv := [some (va_rf r0), some (.long y1), none, some (.long y3), none, none, none]) (by decide) (by simp [lg_sl, rb_as, lv_args, rb_cat_r, rb_cat_i, rb_cat_l, rb_nL, k_M_endingOf]) (fun res => ?_)
  unfold f_M_endingOf
  refine rb_TC.mono (rk_iconst (-1 : Int32) d_M_endingOf_0 (by decide)) ?_
  refine rb_TC.mono (rk_istore (lv2 := [some (va_rf r0), some (.long y1), none, some (.long y3), none, some (.int (-1 : Int32)), none]) d_M_endingOf_1 (by decide) (fun _ => rb_one_n) rfl) ?_
  refine rb_TC.mono (rk_iconst (0 : Int32) d_M_endingOf_3 (by decide)) ?_
  refine rb_TC.mono (rk_istore (lv2 := [some (va_rf r0), some (.long y1), none, some (.long y3), none, some (.int (-1 : Int32)), some (.int (0 : Int32))]) d_M_endingOf_4 (by decide) (fun _ => rb_one_i) rfl) ?_
  exact rb_TC.loop2 (A := (fun z : (Int32 × Int32) => rb_WK E k_M_endingOf d σ res 6 [some (va_rf r0), some (.long y1), none, some (.long y3), none, some (.int z.1), some (.int z.2)] [] σ)) ((-1 : Int32), (0 : Int32)) (fun z => t_M_endingOf_b6 hdd  (r0) (y1) (y3) (z.1) (z.2) σ)
-- ===== RuleBuilderModel.endingLine()Z
def k_M_endingLine : rb_MK := (⟨"RuleBuilderModel", "endingLine", "()Z"⟩, prog_14_method_40_code, 9, some (.boolean))
theorem mw_M_endingLine : rb_Mw k_M_endingLine 0 := ⟨rb_inG 1598 (by decide +kernel) rfl, rb_inG 94 (by decide +kernel) rfl, ⟨by decide, by decide, by decide +kernel⟩, by decide⟩
theorem fp_M_endingLine_280 : rb_Fp k_M_endingLine 280 13 37 .int := ⟨fw_M_280, rfl, fun q h => by cases h; exact Or.inl rfl⟩
theorem fp_M_endingLine_289 : rb_Fp k_M_endingLine 289 13 40 .int := ⟨fw_M_289, rfl, fun q h => by cases h; exact Or.inl rfl⟩
theorem fp_M_endingLine_310 : rb_Fp k_M_endingLine 310 13 42 .int := ⟨fw_M_310, rfl, fun q h => by cases h; exact Or.inl rfl⟩
theorem vw_M_351 : rb_Vw "RuleBuilderModel" 351 k_M_behind 13 3 := ⟨mw_M_behind, rb_inG 1599 (by decide +kernel) rfl, rb_inG 1601 (by decide +kernel) rfl, rb_inG 64 (by decide +kernel) rfl, by decide, by decide, _, rfl, rfl⟩
theorem vw_M_355 : rb_Vw "RuleBuilderModel" 355 k_M_endingOf 13 2 := ⟨mw_M_endingOf, rb_inG 1603 (by decide +kernel) rfl, rb_inG 1605 (by decide +kernel) rfl, rb_inG 65 (by decide +kernel) rfl, by decide, by decide, _, rfl, rfl⟩
theorem d_M_endingLine_0 : decode prog_14_method_40_code 0 = .ok (.aload_n 0, 1) := by decide +kernel
theorem d_M_endingLine_1 : decode prog_14_method_40_code 1 = .ok (.getfield 96, 3) := by decide +kernel
theorem d_M_endingLine_4 : decode prog_14_method_40_code 4 = .ok (.iconst 0, 1) := by decide +kernel
theorem d_M_endingLine_5 : decode prog_14_method_40_code 5 = .ok (.iaload, 1) := by decide +kernel
theorem d_M_endingLine_6 : decode prog_14_method_40_code 6 = .ok (.istore_n 1, 1) := by decide +kernel
theorem d_M_endingLine_7 : decode prog_14_method_40_code 7 = .ok (.aload_n 0, 1) := by decide +kernel
theorem d_M_endingLine_8 : decode prog_14_method_40_code 8 = .ok (.getfield 99, 3) := by decide +kernel
theorem d_M_endingLine_11 : decode prog_14_method_40_code 11 = .ok (.iconst 0, 1) := by decide +kernel
theorem d_M_endingLine_12 : decode prog_14_method_40_code 12 = .ok (.iaload, 1) := by decide +kernel
theorem d_M_endingLine_13 : decode prog_14_method_40_code 13 = .ok (.istore_n 2, 1) := by decide +kernel
theorem d_M_endingLine_14 : decode prog_14_method_40_code 14 = .ok (.lconst 0, 1) := by decide +kernel
theorem d_M_endingLine_15 : decode prog_14_method_40_code 15 = .ok (.lstore_n 3, 1) := by decide +kernel
theorem d_M_endingLine_16 : decode prog_14_method_40_code 16 = .ok (.lconst 0, 1) := by decide +kernel
theorem d_M_endingLine_17 : decode prog_14_method_40_code 17 = .ok (.lstore 5, 2) := by decide +kernel
theorem d_M_endingLine_19 : decode prog_14_method_40_code 19 = .ok (.aload_n 0, 1) := by decide +kernel
theorem d_M_endingLine_20 : decode prog_14_method_40_code 20 = .ok (.getfield 261, 3) := by decide +kernel
theorem d_M_endingLine_23 : decode prog_14_method_40_code 23 = .ok (.iconst 1, 1) := by decide +kernel
theorem d_M_endingLine_24 : decode prog_14_method_40_code 24 = .ok (.isub, 1) := by decide +kernel
theorem d_M_endingLine_25 : decode prog_14_method_40_code 25 = .ok (.istore 7, 2) := by decide +kernel
theorem d_M_endingLine_27 : decode prog_14_method_40_code 27 = .ok (.iload 7, 2) := by decide +kernel
theorem d_M_endingLine_29 : decode prog_14_method_40_code 29 = .ok (.ifCond .lt 66, 3) := by decide +kernel
theorem d_M_endingLine_32 : decode prog_14_method_40_code 32 = .ok (.aload_n 0, 1) := by decide +kernel
theorem d_M_endingLine_33 : decode prog_14_method_40_code 33 = .ok (.iload_n 1, 1) := by decide +kernel
theorem d_M_endingLine_34 : decode prog_14_method_40_code 34 = .ok (.iload_n 2, 1) := by decide +kernel
theorem d_M_endingLine_35 : decode prog_14_method_40_code 35 = .ok (.aload_n 0, 1) := by decide +kernel
theorem d_M_endingLine_36 : decode prog_14_method_40_code 36 = .ok (.getfield 51, 3) := by decide +kernel
theorem d_M_endingLine_39 : decode prog_14_method_40_code 39 = .ok (.iload 7, 2) := by decide +kernel
theorem d_M_endingLine_41 : decode prog_14_method_40_code 41 = .ok (.laload, 1) := by decide +kernel
theorem d_M_endingLine_42 : decode prog_14_method_40_code 42 = .ok (.invokevirtual 351, 3) := by decide +kernel
theorem d_M_endingLine_45 : decode prog_14_method_40_code 45 = .ok (.istore 8, 2) := by decide +kernel
theorem d_M_endingLine_47 : decode prog_14_method_40_code 47 = .ok (.iload 8, 2) := by decide +kernel
theorem d_M_endingLine_49 : decode prog_14_method_40_code 49 = .ok (.ifCond .le 40, 3) := by decide +kernel
theorem d_M_endingLine_52 : decode prog_14_method_40_code 52 = .ok (.iload 8, 2) := by decide +kernel
theorem d_M_endingLine_54 : decode prog_14_method_40_code 54 = .ok (.iload_n 2, 1) := by decide +kernel
theorem d_M_endingLine_55 : decode prog_14_method_40_code 55 = .ok (.if_icmp .ge 34, 3) := by decide +kernel
theorem d_M_endingLine_58 : decode prog_14_method_40_code 58 = .ok (.aload_n 0, 1) := by decide +kernel
theorem d_M_endingLine_59 : decode prog_14_method_40_code 59 = .ok (.aload_n 0, 1) := by decide +kernel
theorem d_M_endingLine_60 : decode prog_14_method_40_code 60 = .ok (.iload 8, 2) := by decide +kernel
theorem d_M_endingLine_62 : decode prog_14_method_40_code 62 = .ok (.iload_n 2, 1) := by decide +kernel
theorem d_M_endingLine_63 : decode prog_14_method_40_code 63 = .ok (.invokevirtual 257, 3) := by decide +kernel
theorem d_M_endingLine_66 : decode prog_14_method_40_code 66 = .ok (.invokevirtual 348, 3) := by decide +kernel
theorem d_M_endingLine_69 : decode prog_14_method_40_code 69 = .ok (.ifCond .eq 20, 3) := by decide +kernel
theorem d_M_endingLine_72 : decode prog_14_method_40_code 72 = .ok (.aload_n 0, 1) := by decide +kernel
theorem d_M_endingLine_73 : decode prog_14_method_40_code 73 = .ok (.getfield 51, 3) := by decide +kernel
theorem d_M_endingLine_76 : decode prog_14_method_40_code 76 = .ok (.iload 7, 2) := by decide +kernel
theorem d_M_endingLine_78 : decode prog_14_method_40_code 78 = .ok (.laload, 1) := by decide +kernel
theorem d_M_endingLine_79 : decode prog_14_method_40_code 79 = .ok (.lstore_n 3, 1) := by decide +kernel
theorem d_M_endingLine_80 : decode prog_14_method_40_code 80 = .ok (.aload_n 0, 1) := by decide +kernel
theorem d_M_endingLine_81 : decode prog_14_method_40_code 81 = .ok (.iload 8, 2) := by decide +kernel
theorem d_M_endingLine_83 : decode prog_14_method_40_code 83 = .ok (.iload_n 2, 1) := by decide +kernel
theorem d_M_endingLine_84 : decode prog_14_method_40_code 84 = .ok (.invokevirtual 257, 3) := by decide +kernel
theorem d_M_endingLine_87 : decode prog_14_method_40_code 87 = .ok (.lstore 5, 2) := by decide +kernel
theorem d_M_endingLine_89 : decode prog_14_method_40_code 89 = .ok (.iinc 7 (-1), 3) := by decide +kernel
theorem d_M_endingLine_92 : decode prog_14_method_40_code 92 = .ok (.goto (-65), 3) := by decide +kernel
theorem d_M_endingLine_95 : decode prog_14_method_40_code 95 = .ok (.aload_n 0, 1) := by decide +kernel
theorem d_M_endingLine_96 : decode prog_14_method_40_code 96 = .ok (.aload_n 0, 1) := by decide +kernel
theorem d_M_endingLine_97 : decode prog_14_method_40_code 97 = .ok (.iconst 0, 1) := by decide +kernel
theorem d_M_endingLine_98 : decode prog_14_method_40_code 98 = .ok (.invokevirtual 320, 3) := by decide +kernel
theorem d_M_endingLine_101 : decode prog_14_method_40_code 101 = .ok (.invokevirtual 348, 3) := by decide +kernel
theorem d_M_endingLine_104 : decode prog_14_method_40_code 104 = .ok (.ifCond .eq 12, 3) := by decide +kernel
theorem d_M_endingLine_107 : decode prog_14_method_40_code 107 = .ok (.aload_n 0, 1) := by decide +kernel
theorem d_M_endingLine_108 : decode prog_14_method_40_code 108 = .ok (.iconst 0, 1) := by decide +kernel
theorem d_M_endingLine_109 : decode prog_14_method_40_code 109 = .ok (.invokevirtual 320, 3) := by decide +kernel
theorem d_M_endingLine_112 : decode prog_14_method_40_code 112 = .ok (.lstore_n 3, 1) := by decide +kernel
theorem d_M_endingLine_113 : decode prog_14_method_40_code 113 = .ok (.lconst 0, 1) := by decide +kernel
theorem d_M_endingLine_114 : decode prog_14_method_40_code 114 = .ok (.lstore 5, 2) := by decide +kernel
theorem d_M_endingLine_116 : decode prog_14_method_40_code 116 = .ok (.lload_n 3, 1) := by decide +kernel
theorem d_M_endingLine_117 : decode prog_14_method_40_code 117 = .ok (.lconst 0, 1) := by decide +kernel
theorem d_M_endingLine_118 : decode prog_14_method_40_code 118 = .ok (.lcmp, 1) := by decide +kernel
theorem d_M_endingLine_119 : decode prog_14_method_40_code 119 = .ok (.ifCond .ne 5, 3) := by decide +kernel
theorem d_M_endingLine_122 : decode prog_14_method_40_code 122 = .ok (.iconst 0, 1) := by decide +kernel
theorem d_M_endingLine_123 : decode prog_14_method_40_code 123 = .ok (.ireturn, 1) := by decide +kernel
theorem d_M_endingLine_124 : decode prog_14_method_40_code 124 = .ok (.aload_n 0, 1) := by decide +kernel
theorem d_M_endingLine_125 : decode prog_14_method_40_code 125 = .ok (.iconst 3, 1) := by decide +kernel
theorem d_M_endingLine_126 : decode prog_14_method_40_code 126 = .ok (.putfield 289, 3) := by decide +kernel
theorem d_M_endingLine_129 : decode prog_14_method_40_code 129 = .ok (.aload_n 0, 1) := by decide +kernel
theorem d_M_endingLine_130 : decode prog_14_method_40_code 130 = .ok (.aload_n 0, 1) := by decide +kernel
theorem d_M_endingLine_131 : decode prog_14_method_40_code 131 = .ok (.lload_n 3, 1) := by decide +kernel
theorem d_M_endingLine_132 : decode prog_14_method_40_code 132 = .ok (.lload 5, 2) := by decide +kernel
theorem d_M_endingLine_134 : decode prog_14_method_40_code 134 = .ok (.invokevirtual 355, 3) := by decide +kernel
theorem d_M_endingLine_137 : decode prog_14_method_40_code 137 = .ok (.putfield 310, 3) := by decide +kernel
theorem d_M_endingLine_140 : decode prog_14_method_40_code 140 = .ok (.aload_n 0, 1) := by decide +kernel
theorem d_M_endingLine_141 : decode prog_14_method_40_code 141 = .ok (.getfield 310, 3) := by decide +kernel
theorem d_M_endingLine_144 : decode prog_14_method_40_code 144 = .ok (.ifCond .ge 14, 3) := by decide +kernel
theorem d_M_endingLine_147 : decode prog_14_method_40_code 147 = .ok (.aload_n 0, 1) := by decide +kernel
theorem d_M_endingLine_148 : decode prog_14_method_40_code 148 = .ok (.getfield 280, 3) := by decide +kernel
theorem d_M_endingLine_151 : decode prog_14_method_40_code 151 = .ok (.bipush 8, 2) := by decide +kernel
theorem d_M_endingLine_153 : decode prog_14_method_40_code 153 = .ok (.if_icmp .ne 5, 3) := by decide +kernel
theorem d_M_endingLine_156 : decode prog_14_method_40_code 156 = .ok (.iconst 0, 1) := by decide +kernel
theorem d_M_endingLine_157 : decode prog_14_method_40_code 157 = .ok (.ireturn, 1) := by decide +kernel
theorem d_M_endingLine_158 : decode prog_14_method_40_code 158 = .ok (.aload_n 0, 1) := by decide +kernel
theorem d_M_endingLine_159 : decode prog_14_method_40_code 159 = .ok (.getfield 310, 3) := by decide +kernel
theorem d_M_endingLine_162 : decode prog_14_method_40_code 162 = .ok (.ifCond .ge 42, 3) := by decide +kernel
theorem d_M_endingLine_165 : decode prog_14_method_40_code 165 = .ok (.aload_n 0, 1) := by decide +kernel
theorem d_M_endingLine_166 : decode prog_14_method_40_code 166 = .ok (.aload_n 0, 1) := by decide +kernel
theorem d_M_endingLine_167 : decode prog_14_method_40_code 167 = .ok (.getfield 280, 3) := by decide +kernel
theorem d_M_endingLine_170 : decode prog_14_method_40_code 170 = .ok (.putfield 310, 3) := by decide +kernel
theorem d_M_endingLine_173 : decode prog_14_method_40_code 173 = .ok (.aload_n 0, 1) := by decide +kernel
theorem d_M_endingLine_174 : decode prog_14_method_40_code 174 = .ok (.getfield 84, 3) := by decide +kernel
theorem d_M_endingLine_177 : decode prog_14_method_40_code 177 = .ok (.aload_n 0, 1) := by decide +kernel
theorem d_M_endingLine_178 : decode prog_14_method_40_code 178 = .ok (.getfield 310, 3) := by decide +kernel
theorem d_M_endingLine_181 : decode prog_14_method_40_code 181 = .ok (.lload_n 3, 1) := by decide +kernel
theorem d_M_endingLine_182 : decode prog_14_method_40_code 182 = .ok (.lastore, 1) := by decide +kernel
theorem d_M_endingLine_183 : decode prog_14_method_40_code 183 = .ok (.aload_n 0, 1) := by decide +kernel
theorem d_M_endingLine_184 : decode prog_14_method_40_code 184 = .ok (.getfield 87, 3) := by decide +kernel
theorem d_M_endingLine_187 : decode prog_14_method_40_code 187 = .ok (.aload_n 0, 1) := by decide +kernel
theorem d_M_endingLine_188 : decode prog_14_method_40_code 188 = .ok (.getfield 310, 3) := by decide +kernel
theorem d_M_endingLine_191 : decode prog_14_method_40_code 191 = .ok (.lload 5, 2) := by decide +kernel
theorem d_M_endingLine_193 : decode prog_14_method_40_code 193 = .ok (.lastore, 1) := by decide +kernel
theorem d_M_endingLine_194 : decode prog_14_method_40_code 194 = .ok (.aload_n 0, 1) := by decide +kernel
theorem d_M_endingLine_195 : decode prog_14_method_40_code 195 = .ok (.dup, 1) := by decide +kernel
theorem d_M_endingLine_196 : decode prog_14_method_40_code 196 = .ok (.getfield 280, 3) := by decide +kernel
theorem d_M_endingLine_199 : decode prog_14_method_40_code 199 = .ok (.iconst 1, 1) := by decide +kernel
theorem d_M_endingLine_200 : decode prog_14_method_40_code 200 = .ok (.iadd, 1) := by decide +kernel
theorem d_M_endingLine_201 : decode prog_14_method_40_code 201 = .ok (.putfield 280, 3) := by decide +kernel
theorem d_M_endingLine_204 : decode prog_14_method_40_code 204 = .ok (.aload_n 0, 1) := by decide +kernel
theorem d_M_endingLine_205 : decode prog_14_method_40_code 205 = .ok (.getfield 90, 3) := by decide +kernel
theorem d_M_endingLine_208 : decode prog_14_method_40_code 208 = .ok (.aload_n 0, 1) := by decide +kernel
theorem d_M_endingLine_209 : decode prog_14_method_40_code 209 = .ok (.getfield 310, 3) := by decide +kernel
theorem d_M_endingLine_212 : decode prog_14_method_40_code 212 = .ok (.iconst (-1), 1) := by decide +kernel
theorem d_M_endingLine_213 : decode prog_14_method_40_code 213 = .ok (.iastore, 1) := by decide +kernel
theorem d_M_endingLine_214 : decode prog_14_method_40_code 214 = .ok (.iconst 1, 1) := by decide +kernel
theorem d_M_endingLine_215 : decode prog_14_method_40_code 215 = .ok (.ireturn, 1) := by decide +kernel
noncomputable def f_M_endingLine_j204 (r0 : Option Nat) (σ : rb_St) : Option rb_Rs :=
  (rb_gR σ r0 13 36).bind fun r_16 => (rb_gI σ r0 13 42).bind fun x_17 => (rb_sI σ r_16 102 x_17 (-1 : Int32)).bind fun σ_18 => some (some (.int (1 : Int32)), σ_18)
theorem t_M_endingLine_j204 {E : rb_EV} {d : Nat} {σ0 : rb_St} {res : rb_Rs} (hdd : 2 ≤ d)  (r0 : Option Nat) (σ : rb_St) : rb_TC (f_M_endingLine_j204 r0 σ) (fun r => r = res) (rb_WK E k_M_endingLine d σ0 res 204 [some (va_rf r0), none, none, none, none, none, none, none, none] [] σ) := by
  unfold f_M_endingLine_j204
  refine rb_TC.mono (rk_aload_n 0 d_M_endingLine_204 rfl rfl) ?_
  refine rt_gR r0 fw_M_90 d_M_endingLine_205 (fun r_16 => ?_)
  refine rb_TC.mono (rk_aload_n 0 d_M_endingLine_208 rfl rfl) ?_
  refine rt_gI r0 fw_M_310 d_M_endingLine_209 (fun x_17 => ?_)
  refine rb_TC.mono (rk_iconst (-1 : Int32) d_M_endingLine_212 (by decide)) ?_
  refine rt_iast r_16 d_M_endingLine_213 (fun σ_18 => ?_)
  refine rb_TC.mono (rk_iconst (1 : Int32) d_M_endingLine_214 (by decide)) ?_
  exact rt_iret (ty := .boolean) rfl (by decide) (fun h => h) d_M_endingLine_215
noncomputable def f_M_endingLine_j158 (r0 : Option Nat) (y3 : Int64) (y5 : Int64) (σ : rb_St) : Option rb_Rs :=
  (rb_gI σ r0 13 42).bind fun x_15 => if 0 ≤ x_15 then (f_M_endingLine_j204 (r0) σ) else ((rb_gI σ r0 13 37).bind fun x_19 => (rb_pI σ r0 13 42 x_19).bind fun σ_20 => (rb_gR σ_20 r0 13 34).bind fun r_21 => (rb_gI σ_20 r0 13 42).bind fun x_22 => (rb_sL σ_20 r_21 103 x_22 y3).bind fun σ_23 => (rb_gR σ_23 r0 13 35).bind fun r_24 => (rb_gI σ_23 r0 13 42).bind fun x_25 => (rb_sL σ_23 r_24 103 x_25 y5).bind fun σ_26 => (rb_gI σ_26 r0 13 37).bind fun x_27 => (rb_pI σ_26 r0 13 37 (x_27 + (1 : Int32))).bind fun σ_28 => f_M_endingLine_j204 (r0) σ_28)
theorem t_M_endingLine_j158 {E : rb_EV} {d : Nat} {σ0 : rb_St} {res : rb_Rs} (hdd : 2 ≤ d)  (r0 : Option Nat) (y3 : Int64) (y5 : Int64) (σ : rb_St) : rb_TC (f_M_endingLine_j158 r0 y3 y5 σ) (fun r => r = res) (rb_WK E k_M_endingLine d σ0 res 158 [some (va_rf r0), none, none, some (.long y3), none, some (.long y5), none, none, none] [] σ) := by
  unfold f_M_endingLine_j158
  refine rb_TC.mono (rk_aload_n 0 d_M_endingLine_158 rfl rfl) ?_
  refine rt_gI r0 fw_M_310 d_M_endingLine_159 (fun x_15 => ?_)
  refine rt_if_ge 204 d_M_endingLine_162 (by decide) (fun _ => ?_) (fun _ => ?_)
  · refine rb_TC.mono (rk_less (lv2 := [some (va_rf r0), none, none, none, none, none, none, none, none]) (rb_le_ok (rb_leS (rb_leN (rb_leN (rb_leN (rb_leN (rb_leN (rb_leN (rb_leN (rb_leN rb_le0))))))))))) ?_
    exact t_M_endingLine_j204 hdd  (r0) σ
  · refine rb_TC.mono (rk_aload_n 0 d_M_endingLine_165 rfl rfl) ?_
    refine rb_TC.mono (rk_aload_n 0 d_M_endingLine_166 rfl rfl) ?_
    refine rt_gI r0 fw_M_280 d_M_endingLine_167 (fun x_19 => ?_)
    refine rt_pI r0 fp_M_endingLine_310 d_M_endingLine_170 (fun σ_20 => ?_)
    refine rb_TC.mono (rk_aload_n 0 d_M_endingLine_173 rfl rfl) ?_
    refine rt_gR r0 fw_M_84 d_M_endingLine_174 (fun r_21 => ?_)
    refine rb_TC.mono (rk_aload_n 0 d_M_endingLine_177 rfl rfl) ?_
    refine rt_gI r0 fw_M_310 d_M_endingLine_178 (fun x_22 => ?_)
    refine rb_TC.mono (rk_lload_n 3 d_M_endingLine_181 rfl rfl) ?_
    refine rt_last r_21 d_M_endingLine_182 (fun σ_23 => ?_)
    refine rb_TC.mono (rk_aload_n 0 d_M_endingLine_183 rfl rfl) ?_
    refine rt_gR r0 fw_M_87 d_M_endingLine_184 (fun r_24 => ?_)
    refine rb_TC.mono (rk_aload_n 0 d_M_endingLine_187 rfl rfl) ?_
    refine rt_gI r0 fw_M_310 d_M_endingLine_188 (fun x_25 => ?_)
    refine rb_TC.mono (rk_lload d_M_endingLine_191 rfl) ?_
    refine rt_last r_24 d_M_endingLine_193 (fun σ_26 => ?_)
    refine rb_TC.mono (rk_aload_n 0 d_M_endingLine_194 rfl rfl) ?_
    refine rb_TC.mono (rk_dupr d_M_endingLine_195) ?_
    refine rt_gI r0 fw_M_280 d_M_endingLine_196 (fun x_27 => ?_)
    refine rb_TC.mono (rk_iconst (1 : Int32) d_M_endingLine_199 (by decide)) ?_
    refine rb_TC.mono (rk_iadd d_M_endingLine_200) ?_
    refine rt_pI r0 fp_M_endingLine_280 d_M_endingLine_201 (fun σ_28 => ?_)
    refine rb_TC.mono (rk_less (lv2 := [some (va_rf r0), none, none, none, none, none, none, none, none]) (rb_le_ok (rb_leS (rb_leN (rb_leN (rb_leN (rb_leN (rb_leN (rb_leN (rb_leN (rb_leN rb_le0))))))))))) ?_
    exact t_M_endingLine_j204 hdd  (r0) σ_28
noncomputable def f_M_endingLine_j116 (r0 : Option Nat) (y3 : Int64) (y5 : Int64) (σ : rb_St) : Option rb_Rs :=
  if (lg_cmp y3 (0 : Int64)) = 0 then (some (some (.int (0 : Int32)), σ)) else ((rb_pI σ r0 13 40 (3 : Int32)).bind fun σ_10 => (rb_fc σ_10 r0 13).bind fun _ => rb_cI (f_M_endingOf (r0) (y3) (y5) σ_10) fun x_11 σ_12 => (rb_pI σ_12 r0 13 42 x_11).bind fun σ_13 => (rb_gI σ_13 r0 13 42).bind fun x_14 => if 0 ≤ x_14 then (f_M_endingLine_j158 (r0) (y3) (y5) σ_13) else ((rb_gI σ_13 r0 13 37).bind fun x_29 => if x_29 = (8 : Int32) then (some (some (.int (0 : Int32)), σ_13)) else (f_M_endingLine_j158 (r0) (y3) (y5) σ_13)))
theorem t_M_endingLine_j116 {E : rb_EV} {d : Nat} {σ0 : rb_St} {res : rb_Rs} (hdd : 2 ≤ d)  (r0 : Option Nat) (y3 : Int64) (y5 : Int64) (σ : rb_St) : rb_TC (f_M_endingLine_j116 r0 y3 y5 σ) (fun r => r = res) (rb_WK E k_M_endingLine d σ0 res 116 [some (va_rf r0), none, none, some (.long y3), none, some (.long y5), none, none, none] [] σ) := by
  unfold f_M_endingLine_j116
  refine rb_TC.mono (rk_lload_n 3 d_M_endingLine_116 rfl rfl) ?_
  refine rb_TC.mono (rk_lconst (0 : Int64) d_M_endingLine_117 (by decide)) ?_
  refine rb_TC.mono (rk_lcmp d_M_endingLine_118) ?_
  refine rt_if_ne 124 d_M_endingLine_119 (by decide) (fun _ => ?_) (fun _ => ?_)
  · refine rb_TC.mono (rk_iconst (0 : Int32) d_M_endingLine_122 (by decide)) ?_
    exact rt_iret (ty := .boolean) rfl (by decide) (fun h => h) d_M_endingLine_123
  · refine rb_TC.mono (rk_aload_n 0 d_M_endingLine_124 rfl rfl) ?_
    refine rb_TC.mono (rk_iconst (3 : Int32) d_M_endingLine_125 (by decide)) ?_
    refine rt_pI r0 fp_M_endingLine_289 d_M_endingLine_126 (fun σ_10 => ?_)
    refine rb_TC.mono (rk_aload_n 0 d_M_endingLine_129 rfl rfl) ?_
    refine rb_TC.mono (rk_aload_n 0 d_M_endingLine_130 rfl rfl) ?_
    refine rb_TC.mono (rk_lload_n 3 d_M_endingLine_131 rfl rfl) ?_
    refine rb_TC.mono (rk_lload d_M_endingLine_132 rfl) ?_
    refine rt_vI (As := [.long y3, .long y5]) (st := [va_rf r0]) (r0) vw_M_355 (s_M_endingOf (Nat.le_refl _) (r0) (y3) (y5) σ_10) (Nat.le_trans (by decide) hdd) rfl (by simp [rb_cat_r, rb_cat_i, rb_cat_l]) d_M_endingLine_134 (fun x_11 σ_12 => ?_)
    refine rt_pI r0 fp_M_endingLine_310 d_M_endingLine_137 (fun σ_13 => ?_)
    refine rb_TC.mono (rk_aload_n 0 d_M_endingLine_140 rfl rfl) ?_
    refine rt_gI r0 fw_M_310 d_M_endingLine_141 (fun x_14 => ?_)
    refine rt_if_ge 158 d_M_endingLine_144 (by decide) (fun _ => ?_) (fun _ => ?_)
    · exact t_M_endingLine_j158 hdd  (r0) (y3) (y5) σ_13
    · refine rb_TC.mono (rk_aload_n 0 d_M_endingLine_147 rfl rfl) ?_
      refine rt_gI r0 fw_M_280 d_M_endingLine_148 (fun x_29 => ?_)
      refine rb_TC.mono (rk_bipush (8 : Int32) d_M_endingLine_151 (by decide)) ?_
      refine rt_icmp_ne 158 d_M_endingLine_153 (by decide) (fun _ => ?_) (fun _ => ?_)
      · refine rb_TC.mono (rk_iconst (0 : Int32) d_M_endingLine_156 (by decide)) ?_
        exact rt_iret (ty := .boolean) rfl (by decide) (fun h => h) d_M_endingLine_157
      · exact t_M_endingLine_j158 hdd  (r0) (y3) (y5) σ_13
noncomputable def f_M_endingLine_b27 (r0 : Option Nat) (x1 : Int32) (x2 : Int32) (y3 : Int64) (y5 : Int64) (x7 : Int32) (σ : rb_St) : Option ((Int64 × Int64 × Int32 × rb_St) ⊕ rb_Rs) :=
  if x7 < 0 then (((rb_fc σ r0 13).bind fun _ => rb_cL (f_M_word (r0) ((0 : Int32)) σ) fun y_6 σ_7 => (rb_fc σ_7 r0 13).bind fun _ => rb_cI (f_M_isSuffix (r0) (y_6) σ_7) fun x_8 σ_9 => if x_8 = 0 then (f_M_endingLine_j116 (r0) (y3) (y5) σ_9) else ((rb_fc σ_9 r0 13).bind fun _ => rb_cL (f_M_word (r0) ((0 : Int32)) σ_9) fun y_30 σ_31 => f_M_endingLine_j116 (r0) (y_30) ((0 : Int64)) σ_31)).map Sum.inr) else ((rb_gR σ r0 13 17).bind fun r_32 => (rb_aL σ r_32 103 x7).bind fun y_33 => (rb_fc σ r0 13).bind fun _ => rb_cI (f_M_behind (r0) (x1) (x2) (y_33) σ) fun x_34 σ_35 => if x_34 ≤ 0 then (some (.inl (y3, y5, (x7 + (-1)), σ_35))) else (if x2 ≤ x_34 then (some (.inl (y3, y5, (x7 + (-1)), σ_35))) else ((rb_fc σ_35 r0 13).bind fun _ => rb_cL (f_M_packed (r0) (x_34) (x2) σ_35) fun y_36 σ_37 => (rb_fc σ_37 r0 13).bind fun _ => rb_cI (f_M_isSuffix (r0) (y_36) σ_37) fun x_38 σ_39 => if x_38 = 0 then (some (.inl (y3, y5, (x7 + (-1)), σ_39))) else ((rb_gR σ_39 r0 13 17).bind fun r_40 => (rb_aL σ_39 r_40 103 x7).bind fun y_41 => (rb_fc σ_39 r0 13).bind fun _ => rb_cL (f_M_packed (r0) (x_34) (x2) σ_39) fun y_42 σ_43 => some (.inl (y_41, y_42, (x7 + (-1)), σ_43))))))
theorem t_M_endingLine_b27 {E : rb_EV} {d : Nat} {σ0 : rb_St} {res : rb_Rs} (hdd : 2 ≤ d)  (r0 : Option Nat) (x1 : Int32) (x2 : Int32) (y3 : Int64) (y5 : Int64) (x7 : Int32) (σ : rb_St) : rb_TC (f_M_endingLine_b27 r0 x1 x2 y3 y5 x7 σ) (Sum.elim (fun z : (Int64 × Int64 × Int32 × rb_St) => rb_WK E k_M_endingLine d σ0 res 27 [some (va_rf r0), some (.int x1), some (.int x2), some (.long z.1), none, some (.long z.2.1), none, some (.int z.2.2.1), none] [] z.2.2.2) (fun r => r = res)) (rb_WK E k_M_endingLine d σ0 res 27 [some (va_rf r0), some (.int x1), some (.int x2), some (.long y3), none, some (.long y5), none, some (.int x7), none] [] σ) := by
  unfold f_M_endingLine_b27
  refine rb_TC.mono (rk_iload d_M_endingLine_27 rfl) ?_
  refine rt_if_lt 95 d_M_endingLine_29 (by decide) (fun _ => ?_) (fun _ => ?_)
  · refine rb_TC.out ?_
    refine rb_TC.mono (rk_aload_n 0 d_M_endingLine_95 rfl rfl) ?_
    refine rb_TC.mono (rk_aload_n 0 d_M_endingLine_96 rfl rfl) ?_
    refine rb_TC.mono (rk_iconst (0 : Int32) d_M_endingLine_97 (by decide)) ?_
    refine rt_vL (As := [.int (0 : Int32)]) (st := [va_rf r0]) (r0) vw_M_320 (s_M_word (Nat.le_refl _) (r0) ((0 : Int32)) σ) (Nat.le_trans (by decide) hdd) rfl (by simp [rb_cat_r, rb_cat_i, rb_cat_l]) d_M_endingLine_98 (fun y_6 σ_7 => ?_)
    refine rt_vI (As := [.long y_6]) (st := []) (r0) vw_M_348 (s_M_isSuffix (Nat.le_refl _) (r0) (y_6) σ_7) (Nat.le_trans (by decide) hdd) rfl (by simp [rb_cat_r, rb_cat_i, rb_cat_l]) d_M_endingLine_101 (fun x_8 σ_9 => ?_)
    refine rt_if_eq 116 d_M_endingLine_104 (by decide) (fun _ => ?_) (fun _ => ?_)
    · refine rb_TC.mono (rk_less (lv2 := [some (va_rf r0), none, none, some (.long y3), none, some (.long y5), none, none, none]) (rb_le_ok (rb_leS (rb_leN (rb_leN (rb_leS (rb_leN (rb_leS (rb_leN (rb_leN (rb_leN rb_le0))))))))))) ?_
      exact t_M_endingLine_j116 hdd  (r0) (y3) (y5) σ_9
    · refine rb_TC.mono (rk_aload_n 0 d_M_endingLine_107 rfl rfl) ?_
      refine rb_TC.mono (rk_iconst (0 : Int32) d_M_endingLine_108 (by decide)) ?_
      refine rt_vL (As := [.int (0 : Int32)]) (st := []) (r0) vw_M_320 (s_M_word (Nat.le_refl _) (r0) ((0 : Int32)) σ_9) (Nat.le_trans (by decide) hdd) rfl (by simp [rb_cat_r, rb_cat_i, rb_cat_l]) d_M_endingLine_109 (fun y_30 σ_31 => ?_)
      refine rb_TC.mono (rk_lstore_n (lv2 := [some (va_rf r0), some (.int x1), some (.int x2), some (.long y_30), none, some (.long y5), none, some (.int x7), none]) 3 d_M_endingLine_112 rfl (by decide) (fun _ => rb_one_i) rfl) ?_
      refine rb_TC.mono (rk_lconst (0 : Int64) d_M_endingLine_113 (by decide)) ?_
      refine rb_TC.mono (rk_lstore (lv2 := [some (va_rf r0), some (.int x1), some (.int x2), some (.long y_30), none, some (.long (0 : Int64)), none, some (.int x7), none]) d_M_endingLine_114 (by decide) (fun _ => rb_one_n) rfl) ?_
      refine rb_TC.mono (rk_less (lv2 := [some (va_rf r0), none, none, some (.long y_30), none, some (.long (0 : Int64)), none, none, none]) (rb_le_ok (rb_leS (rb_leN (rb_leN (rb_leS (rb_leN (rb_leS (rb_leN (rb_leN (rb_leN rb_le0))))))))))) ?_
      exact t_M_endingLine_j116 hdd  (r0) (y_30) ((0 : Int64)) σ_31
  · refine rb_TC.mono (rk_aload_n 0 d_M_endingLine_32 rfl rfl) ?_
    refine rb_TC.mono (rk_iload_n 1 d_M_endingLine_33 rfl rfl) ?_
    refine rb_TC.mono (rk_iload_n 2 d_M_endingLine_34 rfl rfl) ?_
    refine rb_TC.mono (rk_aload_n 0 d_M_endingLine_35 rfl rfl) ?_
    refine rt_gR r0 fw_M_51 d_M_endingLine_36 (fun r_32 => ?_)
    refine rb_TC.mono (rk_iload d_M_endingLine_39 rfl) ?_
    refine rt_lald r_32 d_M_endingLine_41 (fun y_33 => ?_)
    refine rt_vI (As := [.int x1, .int x2, .long y_33]) (st := []) (r0) vw_M_351 (s_M_behind (Nat.le_refl _) (r0) (x1) (x2) (y_33) σ) (Nat.le_trans (by decide) hdd) rfl (by simp [rb_cat_r, rb_cat_i, rb_cat_l]) d_M_endingLine_42 (fun x_34 σ_35 => ?_)
    refine rb_TC.mono (rk_istore (lv2 := [some (va_rf r0), some (.int x1), some (.int x2), some (.long y3), none, some (.long y5), none, some (.int x7), some (.int x_34)]) d_M_endingLine_45 (by decide) (fun _ => rb_one_i) rfl) ?_
    refine rb_TC.mono (rk_iload d_M_endingLine_47 rfl) ?_
    refine rt_if_le 89 d_M_endingLine_49 (by decide) (fun _ => ?_) (fun _ => ?_)
    · refine rb_TC.mono (rk_iinc (lv2 := [some (va_rf r0), some (.int x1), some (.int x2), some (.long y3), none, some (.long y5), none, some (.int (x7 + (-1))), some (.int x_34)]) (x7 + (-1)) d_M_endingLine_89 rfl rfl (by decide) (fun _ => rb_one_n) rfl) ?_
      refine rb_TC.mono (rk_goto 27 d_M_endingLine_92 (by decide)) ?_
      refine rb_TC.mono (rk_less (lv2 := [some (va_rf r0), some (.int x1), some (.int x2), some (.long y3), none, some (.long y5), none, some (.int (x7 + (-1))), none]) (rb_le_ok (rb_leS (rb_leS (rb_leS (rb_leS (rb_leN (rb_leS (rb_leN (rb_leS (rb_leN rb_le0))))))))))) ?_
      exact rb_back
    · refine rb_TC.mono (rk_iload d_M_endingLine_52 rfl) ?_
      refine rb_TC.mono (rk_iload_n 2 d_M_endingLine_54 rfl rfl) ?_
      refine rt_icmp_ge 89 d_M_endingLine_55 (by decide) (fun _ => ?_) (fun _ => ?_)
      · refine rb_TC.mono (rk_iinc (lv2 := [some (va_rf r0), some (.int x1), some (.int x2), some (.long y3), none, some (.long y5), none, some (.int (x7 + (-1))), some (.int x_34)]) (x7 + (-1)) d_M_endingLine_89 rfl rfl (by decide) (fun _ => rb_one_n) rfl) ?_
        refine rb_TC.mono (rk_goto 27 d_M_endingLine_92 (by decide)) ?_
        refine rb_TC.mono (rk_less (lv2 := [some (va_rf r0), some (.int x1), some (.int x2), some (.long y3), none, some (.long y5), none, some (.int (x7 + (-1))), none]) (rb_le_ok (rb_leS (rb_leS (rb_leS (rb_leS (rb_leN (rb_leS (rb_leN (rb_leS (rb_leN rb_le0))))))))))) ?_
        exact rb_back
      · refine rb_TC.mono (rk_aload_n 0 d_M_endingLine_58 rfl rfl) ?_
        refine rb_TC.mono (rk_aload_n 0 d_M_endingLine_59 rfl rfl) ?_
        refine rb_TC.mono (rk_iload d_M_endingLine_60 rfl) ?_
        refine rb_TC.mono (rk_iload_n 2 d_M_endingLine_62 rfl rfl) ?_
        refine rt_vL (As := [.int x_34, .int x2]) (st := [va_rf r0]) (r0) vw_M_257 (s_M_packed (Nat.le_refl _) (r0) (x_34) (x2) σ_35) (Nat.le_trans (by decide) hdd) rfl (by simp [rb_cat_r, rb_cat_i, rb_cat_l]) d_M_endingLine_63 (fun y_36 σ_37 => ?_)
        refine rt_vI (As := [.long y_36]) (st := []) (r0) vw_M_348 (s_M_isSuffix (Nat.le_refl _) (r0) (y_36) σ_37) (Nat.le_trans (by decide) hdd) rfl (by simp [rb_cat_r, rb_cat_i, rb_cat_l]) d_M_endingLine_66 (fun x_38 σ_39 => ?_)
        refine rt_if_eq 89 d_M_endingLine_69 (by decide) (fun _ => ?_) (fun _ => ?_)
        · refine rb_TC.mono (rk_iinc (lv2 := [some (va_rf r0), some (.int x1), some (.int x2), some (.long y3), none, some (.long y5), none, some (.int (x7 + (-1))), some (.int x_34)]) (x7 + (-1)) d_M_endingLine_89 rfl rfl (by decide) (fun _ => rb_one_n) rfl) ?_
          refine rb_TC.mono (rk_goto 27 d_M_endingLine_92 (by decide)) ?_
          refine rb_TC.mono (rk_less (lv2 := [some (va_rf r0), some (.int x1), some (.int x2), some (.long y3), none, some (.long y5), none, some (.int (x7 + (-1))), none]) (rb_le_ok (rb_leS (rb_leS (rb_leS (rb_leS (rb_leN (rb_leS (rb_leN (rb_leS (rb_leN rb_le0))))))))))) ?_
          exact rb_back
        · refine rb_TC.mono (rk_aload_n 0 d_M_endingLine_72 rfl rfl) ?_
          refine rt_gR r0 fw_M_51 d_M_endingLine_73 (fun r_40 => ?_)
          refine rb_TC.mono (rk_iload d_M_endingLine_76 rfl) ?_
          refine rt_lald r_40 d_M_endingLine_78 (fun y_41 => ?_)
          refine rb_TC.mono (rk_lstore_n (lv2 := [some (va_rf r0), some (.int x1), some (.int x2), some (.long y_41), none, some (.long y5), none, some (.int x7), some (.int x_34)]) 3 d_M_endingLine_79 rfl (by decide) (fun _ => rb_one_i) rfl) ?_
          refine rb_TC.mono (rk_aload_n 0 d_M_endingLine_80 rfl rfl) ?_
          refine rb_TC.mono (rk_iload d_M_endingLine_81 rfl) ?_
          refine rb_TC.mono (rk_iload_n 2 d_M_endingLine_83 rfl rfl) ?_
          refine rt_vL (As := [.int x_34, .int x2]) (st := []) (r0) vw_M_257 (s_M_packed (Nat.le_refl _) (r0) (x_34) (x2) σ_39) (Nat.le_trans (by decide) hdd) rfl (by simp [rb_cat_r, rb_cat_i, rb_cat_l]) d_M_endingLine_84 (fun y_42 σ_43 => ?_)
          refine rb_TC.mono (rk_lstore (lv2 := [some (va_rf r0), some (.int x1), some (.int x2), some (.long y_41), none, some (.long y_42), none, some (.int x7), some (.int x_34)]) d_M_endingLine_87 (by decide) (fun _ => rb_one_n) rfl) ?_
          refine rb_TC.mono (rk_iinc (lv2 := [some (va_rf r0), some (.int x1), some (.int x2), some (.long y_41), none, some (.long y_42), none, some (.int (x7 + (-1))), some (.int x_34)]) (x7 + (-1)) d_M_endingLine_89 rfl rfl (by decide) (fun _ => rb_one_n) rfl) ?_
          refine rb_TC.mono (rk_goto 27 d_M_endingLine_92 (by decide)) ?_
          refine rb_TC.mono (rk_less (lv2 := [some (va_rf r0), some (.int x1), some (.int x2), some (.long y_41), none, some (.long y_42), none, some (.int (x7 + (-1))), none]) (rb_le_ok (rb_leS (rb_leS (rb_leS (rb_leS (rb_leN (rb_leS (rb_leN (rb_leS (rb_leN rb_le0))))))))))) ?_
          exact rb_back
noncomputable def f_M_endingLine (r0 : Option Nat) (σ : rb_St) : Option rb_Rs :=
  (rb_gR σ r0 13 45).bind fun r_1 => (rb_aI σ r_1 102 (0 : Int32)).bind fun x_2 => (rb_gR σ r0 13 46).bind fun r_3 => (rb_aI σ r_3 102 (0 : Int32)).bind fun x_4 => (rb_gI σ r0 13 18).bind fun x_5 => rb_it (fun z : (Int64 × Int64 × Int32 × rb_St) => f_M_endingLine_b27 (r0) (x_2) (x_4) (z.1) (z.2.1) (z.2.2.1) z.2.2.2) ((0 : Int64), (0 : Int64), (x_5 - (1 : Int32)), σ)
theorem s_M_endingLine {E : rb_EV} {d : Nat} (hdd : 2 ≤ d) (r0 : Option Nat) (σ : rb_St) : rb_Does E k_M_endingLine d [va_rf r0] σ (f_M_endingLine r0 σ) := by
  refine rb_start (lv := [some (va_rf r0), none, none, none, none, none, none, none, none]) (by decide) (by simp [lg_sl, rb_as, lv_args, rb_cat_r, rb_cat_i, rb_cat_l, rb_nL, k_M_endingLine]) (fun res => ?_)
  unfold f_M_endingLine
  refine rb_TC.mono (rk_aload_n 0 d_M_endingLine_0 rfl rfl) ?_
  refine rt_gR r0 fw_M_96 d_M_endingLine_1 (fun r_1 => ?_)
  refine rb_TC.mono (rk_iconst (0 : Int32) d_M_endingLine_4 (by decide)) ?_
  refine rt_iald r_1 d_M_endingLine_5 (fun x_2 => ?_)
  refine rb_TC.mono (rk_istore_n (lv2 := [some (va_rf r0), some (.int x_2), none, none, none, none, none, none, none]) 1 d_M_endingLine_6 rfl (by decide) (fun _ => rb_one_r) rfl) ?_
  refine rb_TC.mono (rk_aload_n 0 d_M_endingLine_7 rfl rfl) ?_
  refine rt_gR r0 fw_M_99 d_M_endingLine_8 (fun r_3 => ?_)
  refine rb_TC.mono (rk_iconst (0 : Int32) d_M_endingLine_11 (by decide)) ?_
  refine rt_iald r_3 d_M_endingLine_12 (fun x_4 => ?_)
  refine rb_TC.mono (rk_istore_n (lv2 := [some (va_rf r0), some (.int x_2), some (.int x_4), none, none, none, none, none, none]) 2 d_M_endingLine_13 rfl (by decide) (fun _ => rb_one_i) rfl) ?_
  refine rb_TC.mono (rk_lconst (0 : Int64) d_M_endingLine_14 (by decide)) ?_
  refine rb_TC.mono (rk_lstore_n (lv2 := [some (va_rf r0), some (.int x_2), some (.int x_4), some (.long (0 : Int64)), none, none, none, none, none]) 3 d_M_endingLine_15 rfl (by decide) (fun _ => rb_one_i) rfl) ?_
  refine rb_TC.mono (rk_lconst (0 : Int64) d_M_endingLine_16 (by decide)) ?_
  refine rb_TC.mono (rk_lstore (lv2 := [some (va_rf r0), some (.int x_2), some (.int x_4), some (.long (0 : Int64)), none, some (.long (0 : Int64)), none, none, none]) d_M_endingLine_17 (by decide) (fun _ => rb_one_n) rfl) ?_
  refine rb_TC.mono (rk_aload_n 0 d_M_endingLine_19 rfl rfl) ?_
  refine rt_gI r0 fw_M_261 d_M_endingLine_20 (fun x_5 => ?_)
  refine rb_TC.mono (rk_iconst (1 : Int32) d_M_endingLine_23 (by decide)) ?_
  refine rb_TC.mono (rk_isub d_M_endingLine_24) ?_
  refine rb_TC.mono (rk_istore (lv2 := [some (va_rf r0), some (.int x_2), some (.int x_4), some (.long (0 : Int64)), none, some (.long (0 : Int64)), none, some (.int (x_5 - (1 : Int32))), none]) d_M_endingLine_25 (by decide) (fun _ => rb_one_n) rfl) ?_
  exact rb_TC.loop2 (A := (fun z : (Int64 × Int64 × Int32 × rb_St) => rb_WK E k_M_endingLine d σ res 27 [some (va_rf r0), some (.int x_2), some (.int x_4), some (.long z.1), none, some (.long z.2.1), none, some (.int z.2.2.1), none] [] z.2.2.2)) ((0 : Int64), (0 : Int64), (x_5 - (1 : Int32)), σ) (fun z => t_M_endingLine_b27 hdd  (r0) (x_2) (x_4) (z.1) (z.2.1) (z.2.2.1) z.2.2.2)
-- ===== RuleBuilderModel.plainLine(I)Z
def k_M_plainLine : rb_MK := (⟨"RuleBuilderModel", "plainLine", "(I)Z"⟩, prog_14_method_42_code, 6, some (.boolean))
theorem mw_M_plainLine : rb_Mw k_M_plainLine 1 := ⟨rb_inG 1610 (by decide +kernel) rfl, rb_inG 94 (by decide +kernel) rfl, ⟨by decide, by decide, by decide +kernel⟩, by decide⟩
theorem fp_M_plainLine_271 : rb_Fp k_M_plainLine 271 13 26 .int := ⟨fw_M_271, rfl, fun q h => by cases h; exact Or.inl rfl⟩
theorem fp_M_plainLine_274 : rb_Fp k_M_plainLine 274 13 29 .int := ⟨fw_M_274, rfl, fun q h => by cases h; exact Or.inl rfl⟩
theorem fp_M_plainLine_289 : rb_Fp k_M_plainLine 289 13 40 .int := ⟨fw_M_289, rfl, fun q h => by cases h; exact Or.inl rfl⟩
theorem fp_M_plainLine_307 : rb_Fp k_M_plainLine 307 13 41 .int := ⟨fw_M_307, rfl, fun q h => by cases h; exact Or.inl rfl⟩
theorem d_M_plainLine_0 : decode prog_14_method_42_code 0 = .ok (.aload_n 0, 1) := by decide +kernel
theorem d_M_plainLine_1 : decode prog_14_method_42_code 1 = .ok (.iconst 4, 1) := by decide +kernel
theorem d_M_plainLine_2 : decode prog_14_method_42_code 2 = .ok (.putfield 289, 3) := by decide +kernel
theorem d_M_plainLine_5 : decode prog_14_method_42_code 5 = .ok (.aload_n 0, 1) := by decide +kernel
theorem d_M_plainLine_6 : decode prog_14_method_42_code 6 = .ok (.iconst 0, 1) := by decide +kernel
theorem d_M_plainLine_7 : decode prog_14_method_42_code 7 = .ok (.putfield 307, 3) := by decide +kernel
theorem d_M_plainLine_10 : decode prog_14_method_42_code 10 = .ok (.iconst (-1), 1) := by decide +kernel
theorem d_M_plainLine_11 : decode prog_14_method_42_code 11 = .ok (.istore_n 2, 1) := by decide +kernel
theorem d_M_plainLine_12 : decode prog_14_method_42_code 12 = .ok (.iconst 0, 1) := by decide +kernel
theorem d_M_plainLine_13 : decode prog_14_method_42_code 13 = .ok (.istore_n 3, 1) := by decide +kernel
theorem d_M_plainLine_14 : decode prog_14_method_42_code 14 = .ok (.iload_n 3, 1) := by decide +kernel
theorem d_M_plainLine_15 : decode prog_14_method_42_code 15 = .ok (.aload_n 0, 1) := by decide +kernel
theorem d_M_plainLine_16 : decode prog_14_method_42_code 16 = .ok (.getfield 254, 3) := by decide +kernel
theorem d_M_plainLine_19 : decode prog_14_method_42_code 19 = .ok (.if_icmp .ge 63, 3) := by decide +kernel
theorem d_M_plainLine_22 : decode prog_14_method_42_code 22 = .ok (.aload_n 0, 1) := by decide +kernel
theorem d_M_plainLine_23 : decode prog_14_method_42_code 23 = .ok (.aload_n 0, 1) := by decide +kernel
theorem d_M_plainLine_24 : decode prog_14_method_42_code 24 = .ok (.iload_n 3, 1) := by decide +kernel
theorem d_M_plainLine_25 : decode prog_14_method_42_code 25 = .ok (.invokevirtual 320, 3) := by decide +kernel
theorem d_M_plainLine_28 : decode prog_14_method_42_code 28 = .ok (.invokevirtual 192, 3) := by decide +kernel
theorem d_M_plainLine_31 : decode prog_14_method_42_code 31 = .ok (.istore 4, 2) := by decide +kernel
theorem d_M_plainLine_33 : decode prog_14_method_42_code 33 = .ok (.iload 4, 2) := by decide +kernel
theorem d_M_plainLine_35 : decode prog_14_method_42_code 35 = .ok (.ifCond .ge 5, 3) := by decide +kernel
theorem d_M_plainLine_38 : decode prog_14_method_42_code 38 = .ok (.iconst 0, 1) := by decide +kernel
theorem d_M_plainLine_39 : decode prog_14_method_42_code 39 = .ok (.ireturn, 1) := by decide +kernel
theorem d_M_plainLine_40 : decode prog_14_method_42_code 40 = .ok (.aload_n 0, 1) := by decide +kernel
theorem d_M_plainLine_41 : decode prog_14_method_42_code 41 = .ok (.iload_n 3, 1) := by decide +kernel
theorem d_M_plainLine_42 : decode prog_14_method_42_code 42 = .ok (.iload_n 1, 1) := by decide +kernel
theorem d_M_plainLine_43 : decode prog_14_method_42_code 43 = .ok (.if_icmp .ge 15, 3) := by decide +kernel
theorem d_M_plainLine_46 : decode prog_14_method_42_code 46 = .ok (.aload_n 0, 1) := by decide +kernel
theorem d_M_plainLine_47 : decode prog_14_method_42_code 47 = .ok (.getfield 307, 3) := by decide +kernel
theorem d_M_plainLine_50 : decode prog_14_method_42_code 50 = .ok (.iconst 1, 1) := by decide +kernel
theorem d_M_plainLine_51 : decode prog_14_method_42_code 51 = .ok (.iload 4, 2) := by decide +kernel
theorem d_M_plainLine_53 : decode prog_14_method_42_code 53 = .ok (.ishl, 1) := by decide +kernel
theorem d_M_plainLine_54 : decode prog_14_method_42_code 54 = .ok (.ior, 1) := by decide +kernel
theorem d_M_plainLine_55 : decode prog_14_method_42_code 55 = .ok (.goto 7, 3) := by decide +kernel
theorem d_M_plainLine_58 : decode prog_14_method_42_code 58 = .ok (.aload_n 0, 1) := by decide +kernel
theorem d_M_plainLine_59 : decode prog_14_method_42_code 59 = .ok (.getfield 307, 3) := by decide +kernel
theorem d_M_plainLine_62 : decode prog_14_method_42_code 62 = .ok (.putfield 307, 3) := by decide +kernel
theorem d_M_plainLine_65 : decode prog_14_method_42_code 65 = .ok (.iload_n 3, 1) := by decide +kernel
theorem d_M_plainLine_66 : decode prog_14_method_42_code 66 = .ok (.ifCond .ne 8, 3) := by decide +kernel
theorem d_M_plainLine_69 : decode prog_14_method_42_code 69 = .ok (.iload 4, 2) := by decide +kernel
theorem d_M_plainLine_71 : decode prog_14_method_42_code 71 = .ok (.goto 4, 3) := by decide +kernel
theorem d_M_plainLine_74 : decode prog_14_method_42_code 74 = .ok (.iload_n 2, 1) := by decide +kernel
theorem d_M_plainLine_75 : decode prog_14_method_42_code 75 = .ok (.istore_n 2, 1) := by decide +kernel
theorem d_M_plainLine_76 : decode prog_14_method_42_code 76 = .ok (.iinc 3 1, 3) := by decide +kernel
theorem d_M_plainLine_79 : decode prog_14_method_42_code 79 = .ok (.goto (-65), 3) := by decide +kernel
theorem d_M_plainLine_82 : decode prog_14_method_42_code 82 = .ok (.aload_n 0, 1) := by decide +kernel
theorem d_M_plainLine_83 : decode prog_14_method_42_code 83 = .ok (.getfield 274, 3) := by decide +kernel
theorem d_M_plainLine_86 : decode prog_14_method_42_code 86 = .ok (.iload_n 1, 1) := by decide +kernel
theorem d_M_plainLine_87 : decode prog_14_method_42_code 87 = .ok (.aload_n 0, 1) := by decide +kernel
theorem d_M_plainLine_88 : decode prog_14_method_42_code 88 = .ok (.getfield 254, 3) := by decide +kernel
theorem d_M_plainLine_91 : decode prog_14_method_42_code 91 = .ok (.iload_n 1, 1) := by decide +kernel
theorem d_M_plainLine_92 : decode prog_14_method_42_code 92 = .ok (.isub, 1) := by decide +kernel
theorem d_M_plainLine_93 : decode prog_14_method_42_code 93 = .ok (.imul, 1) := by decide +kernel
theorem d_M_plainLine_94 : decode prog_14_method_42_code 94 = .ok (.iadd, 1) := by decide +kernel
theorem d_M_plainLine_95 : decode prog_14_method_42_code 95 = .ok (.bipush 80, 2) := by decide +kernel
theorem d_M_plainLine_97 : decode prog_14_method_42_code 97 = .ok (.if_icmp .le 5, 3) := by decide +kernel
theorem d_M_plainLine_100 : decode prog_14_method_42_code 100 = .ok (.iconst 0, 1) := by decide +kernel
theorem d_M_plainLine_101 : decode prog_14_method_42_code 101 = .ok (.ireturn, 1) := by decide +kernel
theorem d_M_plainLine_102 : decode prog_14_method_42_code 102 = .ok (.aload_n 0, 1) := by decide +kernel
theorem d_M_plainLine_103 : decode prog_14_method_42_code 103 = .ok (.aload_n 0, 1) := by decide +kernel
theorem d_M_plainLine_104 : decode prog_14_method_42_code 104 = .ok (.getfield 271, 3) := by decide +kernel
theorem d_M_plainLine_107 : decode prog_14_method_42_code 107 = .ok (.ifCond .ge 7, 3) := by decide +kernel
theorem d_M_plainLine_110 : decode prog_14_method_42_code 110 = .ok (.iload_n 2, 1) := by decide +kernel
theorem d_M_plainLine_111 : decode prog_14_method_42_code 111 = .ok (.goto 7, 3) := by decide +kernel
theorem d_M_plainLine_114 : decode prog_14_method_42_code 114 = .ok (.aload_n 0, 1) := by decide +kernel
theorem d_M_plainLine_115 : decode prog_14_method_42_code 115 = .ok (.getfield 271, 3) := by decide +kernel
theorem d_M_plainLine_118 : decode prog_14_method_42_code 118 = .ok (.putfield 271, 3) := by decide +kernel
theorem d_M_plainLine_121 : decode prog_14_method_42_code 121 = .ok (.iconst 0, 1) := by decide +kernel
theorem d_M_plainLine_122 : decode prog_14_method_42_code 122 = .ok (.istore_n 3, 1) := by decide +kernel
theorem d_M_plainLine_123 : decode prog_14_method_42_code 123 = .ok (.iload_n 3, 1) := by decide +kernel
theorem d_M_plainLine_124 : decode prog_14_method_42_code 124 = .ok (.iload_n 1, 1) := by decide +kernel
theorem d_M_plainLine_125 : decode prog_14_method_42_code 125 = .ok (.if_icmp .ge 86, 3) := by decide +kernel
theorem d_M_plainLine_128 : decode prog_14_method_42_code 128 = .ok (.aload_n 0, 1) := by decide +kernel
theorem d_M_plainLine_129 : decode prog_14_method_42_code 129 = .ok (.aload_n 0, 1) := by decide +kernel
theorem d_M_plainLine_130 : decode prog_14_method_42_code 130 = .ok (.iload_n 3, 1) := by decide +kernel
theorem d_M_plainLine_131 : decode prog_14_method_42_code 131 = .ok (.invokevirtual 320, 3) := by decide +kernel
theorem d_M_plainLine_134 : decode prog_14_method_42_code 134 = .ok (.invokevirtual 180, 3) := by decide +kernel
theorem d_M_plainLine_137 : decode prog_14_method_42_code 137 = .ok (.istore 4, 2) := by decide +kernel
theorem d_M_plainLine_139 : decode prog_14_method_42_code 139 = .ok (.aload_n 0, 1) := by decide +kernel
theorem d_M_plainLine_140 : decode prog_14_method_42_code 140 = .ok (.getfield 63, 3) := by decide +kernel
theorem d_M_plainLine_143 : decode prog_14_method_42_code 143 = .ok (.iload 4, 2) := by decide +kernel
theorem d_M_plainLine_145 : decode prog_14_method_42_code 145 = .ok (.iconst 1, 1) := by decide +kernel
theorem d_M_plainLine_146 : decode prog_14_method_42_code 146 = .ok (.bastore, 1) := by decide +kernel
theorem d_M_plainLine_147 : decode prog_14_method_42_code 147 = .ok (.iload_n 1, 1) := by decide +kernel
theorem d_M_plainLine_148 : decode prog_14_method_42_code 148 = .ok (.istore 5, 2) := by decide +kernel
theorem d_M_plainLine_150 : decode prog_14_method_42_code 150 = .ok (.iload 5, 2) := by decide +kernel
theorem d_M_plainLine_152 : decode prog_14_method_42_code 152 = .ok (.aload_n 0, 1) := by decide +kernel
theorem d_M_plainLine_153 : decode prog_14_method_42_code 153 = .ok (.getfield 254, 3) := by decide +kernel
theorem d_M_plainLine_156 : decode prog_14_method_42_code 156 = .ok (.if_icmp .ge 49, 3) := by decide +kernel
theorem d_M_plainLine_159 : decode prog_14_method_42_code 159 = .ok (.aload_n 0, 1) := by decide +kernel
theorem d_M_plainLine_160 : decode prog_14_method_42_code 160 = .ok (.getfield 69, 3) := by decide +kernel
theorem d_M_plainLine_163 : decode prog_14_method_42_code 163 = .ok (.aload_n 0, 1) := by decide +kernel
theorem d_M_plainLine_164 : decode prog_14_method_42_code 164 = .ok (.getfield 274, 3) := by decide +kernel
theorem d_M_plainLine_167 : decode prog_14_method_42_code 167 = .ok (.iload 4, 2) := by decide +kernel
theorem d_M_plainLine_169 : decode prog_14_method_42_code 169 = .ok (.iastore, 1) := by decide +kernel
theorem d_M_plainLine_170 : decode prog_14_method_42_code 170 = .ok (.aload_n 0, 1) := by decide +kernel
theorem d_M_plainLine_171 : decode prog_14_method_42_code 171 = .ok (.getfield 72, 3) := by decide +kernel
theorem d_M_plainLine_174 : decode prog_14_method_42_code 174 = .ok (.aload_n 0, 1) := by decide +kernel
theorem d_M_plainLine_175 : decode prog_14_method_42_code 175 = .ok (.getfield 274, 3) := by decide +kernel
theorem d_M_plainLine_178 : decode prog_14_method_42_code 178 = .ok (.aload_n 0, 1) := by decide +kernel
theorem d_M_plainLine_179 : decode prog_14_method_42_code 179 = .ok (.aload_n 0, 1) := by decide +kernel
theorem d_M_plainLine_180 : decode prog_14_method_42_code 180 = .ok (.iload 5, 2) := by decide +kernel
theorem d_M_plainLine_182 : decode prog_14_method_42_code 182 = .ok (.invokevirtual 320, 3) := by decide +kernel
theorem d_M_plainLine_185 : decode prog_14_method_42_code 185 = .ok (.invokevirtual 180, 3) := by decide +kernel
theorem d_M_plainLine_188 : decode prog_14_method_42_code 188 = .ok (.iastore, 1) := by decide +kernel
theorem d_M_plainLine_189 : decode prog_14_method_42_code 189 = .ok (.aload_n 0, 1) := by decide +kernel
theorem d_M_plainLine_190 : decode prog_14_method_42_code 190 = .ok (.dup, 1) := by decide +kernel
theorem d_M_plainLine_191 : decode prog_14_method_42_code 191 = .ok (.getfield 274, 3) := by decide +kernel
theorem d_M_plainLine_194 : decode prog_14_method_42_code 194 = .ok (.iconst 1, 1) := by decide +kernel
theorem d_M_plainLine_195 : decode prog_14_method_42_code 195 = .ok (.iadd, 1) := by decide +kernel
theorem d_M_plainLine_196 : decode prog_14_method_42_code 196 = .ok (.putfield 274, 3) := by decide +kernel
theorem d_M_plainLine_199 : decode prog_14_method_42_code 199 = .ok (.iinc 5 1, 3) := by decide +kernel
theorem d_M_plainLine_202 : decode prog_14_method_42_code 202 = .ok (.goto (-52), 3) := by decide +kernel
theorem d_M_plainLine_205 : decode prog_14_method_42_code 205 = .ok (.iinc 3 1, 3) := by decide +kernel
theorem d_M_plainLine_208 : decode prog_14_method_42_code 208 = .ok (.goto (-85), 3) := by decide +kernel
theorem d_M_plainLine_211 : decode prog_14_method_42_code 211 = .ok (.iconst 1, 1) := by decide +kernel
theorem d_M_plainLine_212 : decode prog_14_method_42_code 212 = .ok (.ireturn, 1) := by decide +kernel
noncomputable def f_M_plainLine_b150 (r0 : Option Nat) (x1 : Int32) (x3 : Int32) (x4 : Int32) (x5 : Int32) (σ : rb_St) : Option ((Int32 × rb_St) ⊕ ((Int32 × rb_St) ⊕ rb_Rs)) :=
  (rb_gI σ r0 13 47).bind fun x_15 => if x_15 ≤ x5 then ((some (.inl ((x3 + 1), σ))).map Sum.inr) else ((rb_gR σ r0 13 27).bind fun r_16 => (rb_gI σ r0 13 29).bind fun x_17 => (rb_sI σ r_16 102 x_17 x4).bind fun σ_18 => (rb_gR σ_18 r0 13 28).bind fun r_19 => (rb_gI σ_18 r0 13 29).bind fun x_20 => (rb_fc σ_18 r0 13).bind fun _ => rb_cL (f_M_word (r0) (x5) σ_18) fun y_21 σ_22 => (rb_fc σ_22 r0 13).bind fun _ => rb_cI (f_M_find (r0) (y_21) σ_22) fun x_23 σ_24 => (rb_sI σ_24 r_19 102 x_20 x_23).bind fun σ_25 => (rb_gI σ_25 r0 13 29).bind fun x_26 => (rb_pI σ_25 r0 13 29 (x_26 + (1 : Int32))).bind fun σ_27 => some (.inl ((x5 + 1), σ_27)))
theorem t_M_plainLine_b150 {E : rb_EV} {d : Nat} {σ0 : rb_St} {res : rb_Rs} (hdd : 3 ≤ d)  (r0 : Option Nat) (x1 : Int32) (x3 : Int32) (x4 : Int32) (x5 : Int32) (σ : rb_St) : rb_TC (f_M_plainLine_b150 r0 x1 x3 x4 x5 σ) (Sum.elim (fun z : (Int32 × rb_St) => rb_WK E k_M_plainLine d σ0 res 150 [some (va_rf r0), some (.int x1), none, some (.int x3), some (.int x4), some (.int z.1)] [] z.2) (Sum.elim (fun z : (Int32 × rb_St) => rb_WK E k_M_plainLine d σ0 res 123 [some (va_rf r0), some (.int x1), none, some (.int z.1), none, none] [] z.2) (fun r => r = res))) (rb_WK E k_M_plainLine d σ0 res 150 [some (va_rf r0), some (.int x1), none, some (.int x3), some (.int x4), some (.int x5)] [] σ) := by
  unfold f_M_plainLine_b150
  refine rb_TC.mono (rk_iload d_M_plainLine_150 rfl) ?_
  refine rb_TC.mono (rk_aload_n 0 d_M_plainLine_152 rfl rfl) ?_
  refine rt_gI r0 fw_M_254 d_M_plainLine_153 (fun x_15 => ?_)
  refine rt_icmp_ge 205 d_M_plainLine_156 (by decide) (fun _ => ?_) (fun _ => ?_)
  · refine rb_TC.out ?_
    refine rb_TC.mono (rk_iinc (lv2 := [some (va_rf r0), some (.int x1), none, some (.int (x3 + 1)), some (.int x4), some (.int x5)]) (x3 + 1) d_M_plainLine_205 rfl rfl (by decide) (fun _ => rb_one_n) rfl) ?_
    refine rb_TC.mono (rk_goto 123 d_M_plainLine_208 (by decide)) ?_
    refine rb_TC.mono (rk_less (lv2 := [some (va_rf r0), some (.int x1), none, some (.int (x3 + 1)), none, none]) (rb_le_ok (rb_leS (rb_leS (rb_leN (rb_leS (rb_leN (rb_leN rb_le0)))))))) ?_
    exact rb_back
  · refine rb_TC.mono (rk_aload_n 0 d_M_plainLine_159 rfl rfl) ?_
    refine rt_gR r0 fw_M_69 d_M_plainLine_160 (fun r_16 => ?_)
    refine rb_TC.mono (rk_aload_n 0 d_M_plainLine_163 rfl rfl) ?_
    refine rt_gI r0 fw_M_274 d_M_plainLine_164 (fun x_17 => ?_)
    refine rb_TC.mono (rk_iload d_M_plainLine_167 rfl) ?_
    refine rt_iast r_16 d_M_plainLine_169 (fun σ_18 => ?_)
    refine rb_TC.mono (rk_aload_n 0 d_M_plainLine_170 rfl rfl) ?_
    refine rt_gR r0 fw_M_72 d_M_plainLine_171 (fun r_19 => ?_)
    refine rb_TC.mono (rk_aload_n 0 d_M_plainLine_174 rfl rfl) ?_
    refine rt_gI r0 fw_M_274 d_M_plainLine_175 (fun x_20 => ?_)
    refine rb_TC.mono (rk_aload_n 0 d_M_plainLine_178 rfl rfl) ?_
    refine rb_TC.mono (rk_aload_n 0 d_M_plainLine_179 rfl rfl) ?_
    refine rb_TC.mono (rk_iload d_M_plainLine_180 rfl) ?_
    refine rt_vL (As := [.int x5]) (st := [va_rf r0, .int x_20, va_rf r_19]) (r0) vw_M_320 (s_M_word (Nat.le_refl _) (r0) (x5) σ_18) (Nat.le_trans (by decide) hdd) rfl (by simp [rb_cat_r, rb_cat_i, rb_cat_l]) d_M_plainLine_182 (fun y_21 σ_22 => ?_)
    refine rt_vI (As := [.long y_21]) (st := [.int x_20, va_rf r_19]) (r0) vw_M_180 (s_M_find (Nat.le_refl _) (r0) (y_21) σ_22) (Nat.le_trans (by decide) hdd) rfl (by simp [rb_cat_r, rb_cat_i, rb_cat_l]) d_M_plainLine_185 (fun x_23 σ_24 => ?_)
    refine rt_iast r_19 d_M_plainLine_188 (fun σ_25 => ?_)
    refine rb_TC.mono (rk_aload_n 0 d_M_plainLine_189 rfl rfl) ?_
    refine rb_TC.mono (rk_dupr d_M_plainLine_190) ?_
    refine rt_gI r0 fw_M_274 d_M_plainLine_191 (fun x_26 => ?_)
    refine rb_TC.mono (rk_iconst (1 : Int32) d_M_plainLine_194 (by decide)) ?_
    refine rb_TC.mono (rk_iadd d_M_plainLine_195) ?_
    refine rt_pI r0 fp_M_plainLine_274 d_M_plainLine_196 (fun σ_27 => ?_)
    refine rb_TC.mono (rk_iinc (lv2 := [some (va_rf r0), some (.int x1), none, some (.int x3), some (.int x4), some (.int (x5 + 1))]) (x5 + 1) d_M_plainLine_199 rfl rfl (by decide) (fun _ => rb_one_i) rfl) ?_
    refine rb_TC.mono (rk_goto 150 d_M_plainLine_202 (by decide)) ?_
    exact rb_back
noncomputable def f_M_plainLine_b123 (r0 : Option Nat) (x1 : Int32) (x3 : Int32) (σ : rb_St) : Option ((Int32 × rb_St) ⊕ rb_Rs) :=
  if x1 ≤ x3 then ((some (some (.int (1 : Int32)), σ)).map Sum.inr) else ((rb_fc σ r0 13).bind fun _ => rb_cL (f_M_word (r0) (x3) σ) fun y_9 σ_10 => (rb_fc σ_10 r0 13).bind fun _ => rb_cI (f_M_find (r0) (y_9) σ_10) fun x_11 σ_12 => (rb_gR σ_12 r0 13 24).bind fun r_13 => (rb_sI σ_12 r_13 104 x_11 (1 : Int32)).bind fun σ_14 => rb_it (fun z : (Int32 × rb_St) => f_M_plainLine_b150 (r0) (x1) (x3) (x_11) (z.1) z.2) (x1, σ_14))
theorem t_M_plainLine_b123 {E : rb_EV} {d : Nat} {σ0 : rb_St} {res : rb_Rs} (hdd : 3 ≤ d)  (r0 : Option Nat) (x1 : Int32) (x3 : Int32) (σ : rb_St) : rb_TC (f_M_plainLine_b123 r0 x1 x3 σ) (Sum.elim (fun z : (Int32 × rb_St) => rb_WK E k_M_plainLine d σ0 res 123 [some (va_rf r0), some (.int x1), none, some (.int z.1), none, none] [] z.2) (fun r => r = res)) (rb_WK E k_M_plainLine d σ0 res 123 [some (va_rf r0), some (.int x1), none, some (.int x3), none, none] [] σ) := by
  unfold f_M_plainLine_b123
  refine rb_TC.mono (rk_iload_n 3 d_M_plainLine_123 rfl rfl) ?_
  refine rb_TC.mono (rk_iload_n 1 d_M_plainLine_124 rfl rfl) ?_
  refine rt_icmp_ge 211 d_M_plainLine_125 (by decide) (fun _ => ?_) (fun _ => ?_)
  · refine rb_TC.out ?_
    refine rb_TC.mono (rk_iconst (1 : Int32) d_M_plainLine_211 (by decide)) ?_
    exact rt_iret (ty := .boolean) rfl (by decide) (fun h => h) d_M_plainLine_212
  · refine rb_TC.mono (rk_aload_n 0 d_M_plainLine_128 rfl rfl) ?_
    refine rb_TC.mono (rk_aload_n 0 d_M_plainLine_129 rfl rfl) ?_
    refine rb_TC.mono (rk_iload_n 3 d_M_plainLine_130 rfl rfl) ?_
    refine rt_vL (As := [.int x3]) (st := [va_rf r0]) (r0) vw_M_320 (s_M_word (Nat.le_refl _) (r0) (x3) σ) (Nat.le_trans (by decide) hdd) rfl (by simp [rb_cat_r, rb_cat_i, rb_cat_l]) d_M_plainLine_131 (fun y_9 σ_10 => ?_)
    refine rt_vI (As := [.long y_9]) (st := []) (r0) vw_M_180 (s_M_find (Nat.le_refl _) (r0) (y_9) σ_10) (Nat.le_trans (by decide) hdd) rfl (by simp [rb_cat_r, rb_cat_i, rb_cat_l]) d_M_plainLine_134 (fun x_11 σ_12 => ?_)
    refine rb_TC.mono (rk_istore (lv2 := [some (va_rf r0), some (.int x1), none, some (.int x3), some (.int x_11), none]) d_M_plainLine_137 (by decide) (fun _ => rb_one_i) rfl) ?_
    refine rb_TC.mono (rk_aload_n 0 d_M_plainLine_139 rfl rfl) ?_
    refine rt_gR r0 fw_M_63 d_M_plainLine_140 (fun r_13 => ?_)
    refine rb_TC.mono (rk_iload d_M_plainLine_143 rfl) ?_
    refine rb_TC.mono (rk_iconst (1 : Int32) d_M_plainLine_145 (by decide)) ?_
    refine rt_zast r_13 d_M_plainLine_146 (fun σ_14 => ?_)
    refine rb_TC.mono (rk_iload_n 1 d_M_plainLine_147 rfl rfl) ?_
    refine rb_TC.mono (rk_istore (lv2 := [some (va_rf r0), some (.int x1), none, some (.int x3), some (.int x_11), some (.int x1)]) d_M_plainLine_148 (by decide) (fun _ => rb_one_i) rfl) ?_
    exact rb_TC.loop2 (A := (fun z : (Int32 × rb_St) => rb_WK E k_M_plainLine d σ0 res 150 [some (va_rf r0), some (.int x1), none, some (.int x3), some (.int x_11), some (.int z.1)] [] z.2)) (x1, σ_14) (fun z => t_M_plainLine_b150 hdd  (r0) (x1) (x3) (x_11) (z.1) z.2)
noncomputable def f_M_plainLine_j62 (r0 : Option Nat) (x1 : Int32) (x2 : Int32) (x3 : Int32) (x4 : Int32) (sx0 : Int32) (sr1 : Option Nat) (σ : rb_St) : Option ((Int32 × Int32 × rb_St) ⊕ rb_Rs) :=
  (rb_pI σ sr1 13 41 sx0).bind fun σ_34 => if x3 = 0 then (some (.inl (x4, (x3 + 1), σ_34))) else (some (.inl (x2, (x3 + 1), σ_34)))
theorem t_M_plainLine_j62 {E : rb_EV} {d : Nat} {σ0 : rb_St} {res : rb_Rs} (hdd : 3 ≤ d)  (r0 : Option Nat) (x1 : Int32) (x2 : Int32) (x3 : Int32) (x4 : Int32) (sx0 : Int32) (sr1 : Option Nat) (σ : rb_St) : rb_TC (f_M_plainLine_j62 r0 x1 x2 x3 x4 sx0 sr1 σ) (Sum.elim (fun z : (Int32 × Int32 × rb_St) => rb_WK E k_M_plainLine d σ0 res 14 [some (va_rf r0), some (.int x1), some (.int z.1), some (.int z.2.1), none, none] [] z.2.2) (fun r => r = res)) (rb_WK E k_M_plainLine d σ0 res 62 [some (va_rf r0), some (.int x1), some (.int x2), some (.int x3), some (.int x4), none] [.int sx0, va_rf sr1] σ) := by
  unfold f_M_plainLine_j62
  refine rt_pI sr1 fp_M_plainLine_307 d_M_plainLine_62 (fun σ_34 => ?_)
  refine rb_TC.mono (rk_iload_n 3 d_M_plainLine_65 rfl rfl) ?_
  refine rt_if_ne 74 d_M_plainLine_66 (by decide) (fun _ => ?_) (fun _ => ?_)
  · refine rb_TC.mono (rk_iload d_M_plainLine_69 rfl) ?_
    refine rb_TC.mono (rk_goto 75 d_M_plainLine_71 (by decide)) ?_
    refine rb_TC.mono (rk_istore_n (lv2 := [some (va_rf r0), some (.int x1), some (.int x4), some (.int x3), some (.int x4), none]) 2 d_M_plainLine_75 rfl (by decide) (fun _ => rb_one_i) rfl) ?_
    refine rb_TC.mono (rk_iinc (lv2 := [some (va_rf r0), some (.int x1), some (.int x4), some (.int (x3 + 1)), some (.int x4), none]) (x3 + 1) d_M_plainLine_76 rfl rfl (by decide) (fun _ => rb_one_i) rfl) ?_
    refine rb_TC.mono (rk_goto 14 d_M_plainLine_79 (by decide)) ?_
    refine rb_TC.mono (rk_less (lv2 := [some (va_rf r0), some (.int x1), some (.int x4), some (.int (x3 + 1)), none, none]) (rb_le_ok (rb_leS (rb_leS (rb_leS (rb_leS (rb_leN (rb_leN rb_le0)))))))) ?_
    exact rb_back
  · refine rb_TC.mono (rk_iload_n 2 d_M_plainLine_74 rfl rfl) ?_
    refine rb_TC.mono (rk_istore_n (lv2 := [some (va_rf r0), some (.int x1), some (.int x2), some (.int x3), some (.int x4), none]) 2 d_M_plainLine_75 rfl (by decide) (fun _ => rb_one_i) rfl) ?_
    refine rb_TC.mono (rk_iinc (lv2 := [some (va_rf r0), some (.int x1), some (.int x2), some (.int (x3 + 1)), some (.int x4), none]) (x3 + 1) d_M_plainLine_76 rfl rfl (by decide) (fun _ => rb_one_i) rfl) ?_
    refine rb_TC.mono (rk_goto 14 d_M_plainLine_79 (by decide)) ?_
    refine rb_TC.mono (rk_less (lv2 := [some (va_rf r0), some (.int x1), some (.int x2), some (.int (x3 + 1)), none, none]) (rb_le_ok (rb_leS (rb_leS (rb_leS (rb_leS (rb_leN (rb_leN rb_le0)))))))) ?_
    exact rb_back
noncomputable def f_M_plainLine_b14 (r0 : Option Nat) (x1 : Int32) (x2 : Int32) (x3 : Int32) (σ : rb_St) : Option ((Int32 × Int32 × rb_St) ⊕ rb_Rs) :=
  (rb_gI σ r0 13 47).bind fun x_3 => if x_3 ≤ x3 then (((rb_gI σ r0 13 29).bind fun x_4 => (rb_gI σ r0 13 47).bind fun x_5 => if (x_4 + (x1 * (x_5 - x1))) ≤ (80 : Int32) then ((rb_gI σ r0 13 26).bind fun x_6 => if 0 ≤ x_6 then ((rb_gI σ r0 13 26).bind fun x_7 => (rb_pI σ r0 13 26 x_7).bind fun σ_8 => rb_it (fun z : (Int32 × rb_St) => f_M_plainLine_b123 (r0) (x1) (z.1) z.2) ((0 : Int32), σ_8)) else ((rb_pI σ r0 13 26 x2).bind fun σ_28 => rb_it (fun z : (Int32 × rb_St) => f_M_plainLine_b123 (r0) (x1) (z.1) z.2) ((0 : Int32), σ_28))) else (some (some (.int (0 : Int32)), σ))).map Sum.inr) else ((rb_fc σ r0 13).bind fun _ => rb_cL (f_M_word (r0) (x3) σ) fun y_29 σ_30 => (rb_fc σ_30 r0 13).bind fun _ => rb_cI (f_M_meet (r0) (y_29) σ_30) fun x_31 σ_32 => if 0 ≤ x_31 then (if x1 ≤ x3 then ((rb_gI σ_32 r0 13 41).bind fun x_33 => f_M_plainLine_j62 (r0) (x1) (x2) (x3) (x_31) (x_33) (r0) σ_32) else ((rb_gI σ_32 r0 13 41).bind fun x_35 => f_M_plainLine_j62 (r0) (x1) (x2) (x3) (x_31) ((x_35 ||| ((1 : Int32) <<< (x_31 &&& 31)))) (r0) σ_32)) else ((some (some (.int (0 : Int32)), σ_32)).map Sum.inr))
theorem t_M_plainLine_b14 {E : rb_EV} {d : Nat} {σ0 : rb_St} {res : rb_Rs} (hdd : 3 ≤ d)  (r0 : Option Nat) (x1 : Int32) (x2 : Int32) (x3 : Int32) (σ : rb_St) : rb_TC (f_M_plainLine_b14 r0 x1 x2 x3 σ) (Sum.elim (fun z : (Int32 × Int32 × rb_St) => rb_WK E k_M_plainLine d σ0 res 14 [some (va_rf r0), some (.int x1), some (.int z.1), some (.int z.2.1), none, none] [] z.2.2) (fun r => r = res)) (rb_WK E k_M_plainLine d σ0 res 14 [some (va_rf r0), some (.int x1), some (.int x2), some (.int x3), none, none] [] σ) := by
  unfold f_M_plainLine_b14
  refine rb_TC.mono (rk_iload_n 3 d_M_plainLine_14 rfl rfl) ?_
  refine rb_TC.mono (rk_aload_n 0 d_M_plainLine_15 rfl rfl) ?_
  refine rt_gI r0 fw_M_254 d_M_plainLine_16 (fun x_3 => ?_)
  refine rt_icmp_ge 82 d_M_plainLine_19 (by decide) (fun _ => ?_) (fun _ => ?_)
  · refine rb_TC.out ?_
    refine rb_TC.mono (rk_aload_n 0 d_M_plainLine_82 rfl rfl) ?_
    refine rt_gI r0 fw_M_274 d_M_plainLine_83 (fun x_4 => ?_)
    refine rb_TC.mono (rk_iload_n 1 d_M_plainLine_86 rfl rfl) ?_
    refine rb_TC.mono (rk_aload_n 0 d_M_plainLine_87 rfl rfl) ?_
    refine rt_gI r0 fw_M_254 d_M_plainLine_88 (fun x_5 => ?_)
    refine rb_TC.mono (rk_iload_n 1 d_M_plainLine_91 rfl rfl) ?_
    refine rb_TC.mono (rk_isub d_M_plainLine_92) ?_
    refine rb_TC.mono (rk_imul d_M_plainLine_93) ?_
    refine rb_TC.mono (rk_iadd d_M_plainLine_94) ?_
    refine rb_TC.mono (rk_bipush (80 : Int32) d_M_plainLine_95 (by decide)) ?_
    refine rt_icmp_le 102 d_M_plainLine_97 (by decide) (fun _ => ?_) (fun _ => ?_)
    · refine rb_TC.mono (rk_aload_n 0 d_M_plainLine_102 rfl rfl) ?_
      refine rb_TC.mono (rk_aload_n 0 d_M_plainLine_103 rfl rfl) ?_
      refine rt_gI r0 fw_M_271 d_M_plainLine_104 (fun x_6 => ?_)
      refine rt_if_ge 114 d_M_plainLine_107 (by decide) (fun _ => ?_) (fun _ => ?_)
      · refine rb_TC.mono (rk_aload_n 0 d_M_plainLine_114 rfl rfl) ?_
        refine rt_gI r0 fw_M_271 d_M_plainLine_115 (fun x_7 => ?_)
        refine rt_pI r0 fp_M_plainLine_271 d_M_plainLine_118 (fun σ_8 => ?_)
        refine rb_TC.mono (rk_iconst (0 : Int32) d_M_plainLine_121 (by decide)) ?_
        refine rb_TC.mono (rk_istore_n (lv2 := [some (va_rf r0), some (.int x1), some (.int x2), some (.int (0 : Int32)), none, none]) 3 d_M_plainLine_122 rfl (by decide) (fun _ => rb_one_i) rfl) ?_
        refine rb_TC.mono (rk_less (lv2 := [some (va_rf r0), some (.int x1), none, some (.int (0 : Int32)), none, none]) (rb_le_ok (rb_leS (rb_leS (rb_leN (rb_leS (rb_leN (rb_leN rb_le0)))))))) ?_
        exact rb_TC.loop2 (A := (fun z : (Int32 × rb_St) => rb_WK E k_M_plainLine d σ0 res 123 [some (va_rf r0), some (.int x1), none, some (.int z.1), none, none] [] z.2)) ((0 : Int32), σ_8) (fun z => t_M_plainLine_b123 hdd  (r0) (x1) (z.1) z.2)
      · refine rb_TC.mono (rk_iload_n 2 d_M_plainLine_110 rfl rfl) ?_
        refine rb_TC.mono (rk_goto 118 d_M_plainLine_111 (by decide)) ?_
        refine rt_pI r0 fp_M_plainLine_271 d_M_plainLine_118 (fun σ_28 => ?_)
        refine rb_TC.mono (rk_iconst (0 : Int32) d_M_plainLine_121 (by decide)) ?_
        refine rb_TC.mono (rk_istore_n (lv2 := [some (va_rf r0), some (.int x1), some (.int x2), some (.int (0 : Int32)), none, none]) 3 d_M_plainLine_122 rfl (by decide) (fun _ => rb_one_i) rfl) ?_
        refine rb_TC.mono (rk_less (lv2 := [some (va_rf r0), some (.int x1), none, some (.int (0 : Int32)), none, none]) (rb_le_ok (rb_leS (rb_leS (rb_leN (rb_leS (rb_leN (rb_leN rb_le0)))))))) ?_
        exact rb_TC.loop2 (A := (fun z : (Int32 × rb_St) => rb_WK E k_M_plainLine d σ0 res 123 [some (va_rf r0), some (.int x1), none, some (.int z.1), none, none] [] z.2)) ((0 : Int32), σ_28) (fun z => t_M_plainLine_b123 hdd  (r0) (x1) (z.1) z.2)
    · refine rb_TC.mono (rk_iconst (0 : Int32) d_M_plainLine_100 (by decide)) ?_
      exact rt_iret (ty := .boolean) rfl (by decide) (fun h => h) d_M_plainLine_101
  · refine rb_TC.mono (rk_aload_n 0 d_M_plainLine_22 rfl rfl) ?_
    refine rb_TC.mono (rk_aload_n 0 d_M_plainLine_23 rfl rfl) ?_
    refine rb_TC.mono (rk_iload_n 3 d_M_plainLine_24 rfl rfl) ?_
    refine rt_vL (As := [.int x3]) (st := [va_rf r0]) (r0) vw_M_320 (s_M_word (Nat.le_refl _) (r0) (x3) σ) (Nat.le_trans (by decide) hdd) rfl (by simp [rb_cat_r, rb_cat_i, rb_cat_l]) d_M_plainLine_25 (fun y_29 σ_30 => ?_)
    refine rt_vI (As := [.long y_29]) (st := []) (r0) vw_M_192 (s_M_meet (Nat.le_refl _) (r0) (y_29) σ_30) (Nat.le_trans (by decide) hdd) rfl (by simp [rb_cat_r, rb_cat_i, rb_cat_l]) d_M_plainLine_28 (fun x_31 σ_32 => ?_)
    refine rb_TC.mono (rk_istore (lv2 := [some (va_rf r0), some (.int x1), some (.int x2), some (.int x3), some (.int x_31), none]) d_M_plainLine_31 (by decide) (fun _ => rb_one_i) rfl) ?_
    refine rb_TC.mono (rk_iload d_M_plainLine_33 rfl) ?_
    refine rt_if_ge 40 d_M_plainLine_35 (by decide) (fun _ => ?_) (fun _ => ?_)
    · refine rb_TC.mono (rk_aload_n 0 d_M_plainLine_40 rfl rfl) ?_
      refine rb_TC.mono (rk_iload_n 3 d_M_plainLine_41 rfl rfl) ?_
      refine rb_TC.mono (rk_iload_n 1 d_M_plainLine_42 rfl rfl) ?_
      refine rt_icmp_ge 58 d_M_plainLine_43 (by decide) (fun _ => ?_) (fun _ => ?_)
      · refine rb_TC.mono (rk_aload_n 0 d_M_plainLine_58 rfl rfl) ?_
        refine rt_gI r0 fw_M_307 d_M_plainLine_59 (fun x_33 => ?_)
        exact t_M_plainLine_j62 hdd  (r0) (x1) (x2) (x3) (x_31) (x_33) (r0) σ_32
      · refine rb_TC.mono (rk_aload_n 0 d_M_plainLine_46 rfl rfl) ?_
        refine rt_gI r0 fw_M_307 d_M_plainLine_47 (fun x_35 => ?_)
        refine rb_TC.mono (rk_iconst (1 : Int32) d_M_plainLine_50 (by decide)) ?_
        refine rb_TC.mono (rk_iload d_M_plainLine_51 rfl) ?_
        refine rb_TC.mono (rk_ishl d_M_plainLine_53) ?_
        refine rb_TC.mono (rk_ior d_M_plainLine_54) ?_
        refine rb_TC.mono (rk_goto 62 d_M_plainLine_55 (by decide)) ?_
        exact t_M_plainLine_j62 hdd  (r0) (x1) (x2) (x3) (x_31) ((x_35 ||| ((1 : Int32) <<< (x_31 &&& 31)))) (r0) σ_32
    · refine rb_TC.out ?_
      refine rb_TC.mono (rk_iconst (0 : Int32) d_M_plainLine_38 (by decide)) ?_
      exact rt_iret (ty := .boolean) rfl (by decide) (fun h => h) d_M_plainLine_39
noncomputable def f_M_plainLine (r0 : Option Nat) (x1 : Int32) (σ : rb_St) : Option rb_Rs :=
  (rb_pI σ r0 13 40 (4 : Int32)).bind fun σ_1 => (rb_pI σ_1 r0 13 41 (0 : Int32)).bind fun σ_2 => rb_it (fun z : (Int32 × Int32 × rb_St) => f_M_plainLine_b14 (r0) (x1) (z.1) (z.2.1) z.2.2) ((-1 : Int32), (0 : Int32), σ_2)
theorem s_M_plainLine {E : rb_EV} {d : Nat} (hdd : 3 ≤ d) (r0 : Option Nat) (x1 : Int32) (σ : rb_St) : rb_Does E k_M_plainLine d [va_rf r0, .int x1] σ (f_M_plainLine r0 x1 σ) := by
  refine rb_start (lv := [some (va_rf r0), some (.int x1), none, none, none, none]) (by decide) (by simp [lg_sl, rb_as, lv_args, rb_cat_r, rb_cat_i, rb_cat_l, rb_nL, k_M_plainLine]) (fun res => ?_)
  unfold f_M_plainLine
  refine rb_TC.mono (rk_aload_n 0 d_M_plainLine_0 rfl rfl) ?_
  refine rb_TC.mono (rk_iconst (4 : Int32) d_M_plainLine_1 (by decide)) ?_
  refine rt_pI r0 fp_M_plainLine_289 d_M_plainLine_2 (fun σ_1 => ?_)
  refine rb_TC.mono (rk_aload_n 0 d_M_plainLine_5 rfl rfl) ?_
  refine rb_TC.mono (rk_iconst (0 : Int32) d_M_plainLine_6 (by decide)) ?_
  refine rt_pI r0 fp_M_plainLine_307 d_M_plainLine_7 (fun σ_2 => ?_)
  refine rb_TC.mono (rk_iconst (-1 : Int32) d_M_plainLine_10 (by decide)) ?_
  refine rb_TC.mono (rk_istore_n (lv2 := [some (va_rf r0), some (.int x1), some (.int (-1 : Int32)), none, none, none]) 2 d_M_plainLine_11 rfl (by decide) (fun _ => rb_one_i) rfl) ?_
  refine rb_TC.mono (rk_iconst (0 : Int32) d_M_plainLine_12 (by decide)) ?_
  refine rb_TC.mono (rk_istore_n (lv2 := [some (va_rf r0), some (.int x1), some (.int (-1 : Int32)), some (.int (0 : Int32)), none, none]) 3 d_M_plainLine_13 rfl (by decide) (fun _ => rb_one_i) rfl) ?_
  exact rb_TC.loop2 (A := (fun z : (Int32 × Int32 × rb_St) => rb_WK E k_M_plainLine d σ res 14 [some (va_rf r0), some (.int x1), some (.int z.1), some (.int z.2.1), none, none] [] z.2.2)) ((-1 : Int32), (0 : Int32), σ_2) (fun z => t_M_plainLine_b14 hdd  (r0) (x1) (z.1) (z.2.1) z.2.2)
-- ===== RuleBuilderModel.ruleLine(II)Z
def k_M_ruleLine : rb_MK := (⟨"RuleBuilderModel", "ruleLine", "(II)Z"⟩, prog_14_method_35_code, 8, some (.boolean))
theorem mw_M_ruleLine : rb_Mw k_M_ruleLine 2 := ⟨rb_inG 1512 (by decide +kernel) rfl, rb_inG 94 (by decide +kernel) rfl, ⟨by decide, by decide, by decide +kernel⟩, by decide⟩
theorem w_long_M_324 : Cond.constantLong "RuleBuilderModel" 324 (3361750429958808275) ∈ rb_G := rb_inG 1577 (by decide +kernel) rfl
theorem w_long_M_338 : Cond.constantLong "RuleBuilderModel" 338 (26197154770282068) ∈ rb_G := rb_inG 1594 (by decide +kernel) rfl
theorem fp_M_ruleLine_254 : rb_Fp k_M_ruleLine 254 13 47 .int := ⟨fw_M_254, rfl, fun q h => by cases h; exact Or.inl rfl⟩
theorem fp_M_ruleLine_286 : rb_Fp k_M_ruleLine 286 13 39 .int := ⟨fw_M_286, rfl, fun q h => by cases h; exact Or.inl rfl⟩
theorem fp_M_ruleLine_289 : rb_Fp k_M_ruleLine 289 13 40 .int := ⟨fw_M_289, rfl, fun q h => by cases h; exact Or.inl rfl⟩
theorem vw_M_313 : rb_Vw "RuleBuilderModel" 313 k_M_expand 13 3 := ⟨mw_M_expand, rb_inG 1513 (by decide +kernel) rfl, rb_inG 1515 (by decide +kernel) rfl, rb_inG 44 (by decide +kernel) rfl, by decide, by decide, _, rfl, rfl⟩
theorem vw_M_317 : rb_Vw "RuleBuilderModel" 317 k_M_split 13 2 := ⟨mw_M_split, rb_inG 1565 (by decide +kernel) rfl, rb_inG 1567 (by decide +kernel) rfl, rb_inG 57 (by decide +kernel) rfl, by decide, by decide, _, rfl, rfl⟩
theorem vw_M_326 : rb_Vw "RuleBuilderModel" 326 k_M_suffixLine 13 0 := ⟨mw_M_suffixLine, rb_inG 1578 (by decide +kernel) rfl, rb_inG 1580 (by decide +kernel) rfl, rb_inG 60 (by decide +kernel) rfl, by decide, by decide, _, rfl, rfl⟩
theorem vw_M_335 : rb_Vw "RuleBuilderModel" 335 k_M_markLine 13 1 := ⟨mw_M_markLine, rb_inG 1590 (by decide +kernel) rfl, rb_inG 1592 (by decide +kernel) rfl, rb_inG 62 (by decide +kernel) rfl, by decide, by decide, _, rfl, rfl⟩
theorem vw_M_340 : rb_Vw "RuleBuilderModel" 340 k_M_endingLine 13 0 := ⟨mw_M_endingLine, rb_inG 1595 (by decide +kernel) rfl, rb_inG 1597 (by decide +kernel) rfl, rb_inG 63 (by decide +kernel) rfl, by decide, by decide, _, rfl, rfl⟩
theorem vw_M_343 : rb_Vw "RuleBuilderModel" 343 k_M_plainLine 13 1 := ⟨mw_M_plainLine, rb_inG 1607 (by decide +kernel) rfl, rb_inG 1609 (by decide +kernel) rfl, rb_inG 66 (by decide +kernel) rfl, by decide, by decide, _, rfl, rfl⟩
theorem d_M_ruleLine_0 : decode prog_14_method_35_code 0 = .ok (.aload_n 0, 1) := by decide +kernel
theorem d_M_ruleLine_1 : decode prog_14_method_35_code 1 = .ok (.iload_n 1, 1) := by decide +kernel
theorem d_M_ruleLine_2 : decode prog_14_method_35_code 2 = .ok (.iload_n 2, 1) := by decide +kernel
theorem d_M_ruleLine_3 : decode prog_14_method_35_code 3 = .ok (.iconst 0, 1) := by decide +kernel
theorem d_M_ruleLine_4 : decode prog_14_method_35_code 4 = .ok (.invokevirtual 313, 3) := by decide +kernel
theorem d_M_ruleLine_7 : decode prog_14_method_35_code 7 = .ok (.ifCond .ne 5, 3) := by decide +kernel
theorem d_M_ruleLine_10 : decode prog_14_method_35_code 10 = .ok (.iconst 0, 1) := by decide +kernel
theorem d_M_ruleLine_11 : decode prog_14_method_35_code 11 = .ok (.ireturn, 1) := by decide +kernel
theorem d_M_ruleLine_12 : decode prog_14_method_35_code 12 = .ok (.iconst (-1), 1) := by decide +kernel
theorem d_M_ruleLine_13 : decode prog_14_method_35_code 13 = .ok (.istore_n 3, 1) := by decide +kernel
theorem d_M_ruleLine_14 : decode prog_14_method_35_code 14 = .ok (.iconst 0, 1) := by decide +kernel
theorem d_M_ruleLine_15 : decode prog_14_method_35_code 15 = .ok (.istore 4, 2) := by decide +kernel
theorem d_M_ruleLine_17 : decode prog_14_method_35_code 17 = .ok (.iconst 0, 1) := by decide +kernel
theorem d_M_ruleLine_18 : decode prog_14_method_35_code 18 = .ok (.istore 5, 2) := by decide +kernel
theorem d_M_ruleLine_20 : decode prog_14_method_35_code 20 = .ok (.iload 5, 2) := by decide +kernel
theorem d_M_ruleLine_22 : decode prog_14_method_35_code 22 = .ok (.aload_n 0, 1) := by decide +kernel
theorem d_M_ruleLine_23 : decode prog_14_method_35_code 23 = .ok (.getfield 203, 3) := by decide +kernel
theorem d_M_ruleLine_26 : decode prog_14_method_35_code 26 = .ok (.if_icmp .ge 51, 3) := by decide +kernel
theorem d_M_ruleLine_29 : decode prog_14_method_35_code 29 = .ok (.aload_n 0, 1) := by decide +kernel
theorem d_M_ruleLine_30 : decode prog_14_method_35_code 30 = .ok (.getfield 93, 3) := by decide +kernel
theorem d_M_ruleLine_33 : decode prog_14_method_35_code 33 = .ok (.iload 5, 2) := by decide +kernel
theorem d_M_ruleLine_35 : decode prog_14_method_35_code 35 = .ok (.iaload, 1) := by decide +kernel
theorem d_M_ruleLine_36 : decode prog_14_method_35_code 36 = .ok (.bipush 58, 2) := by decide +kernel
theorem d_M_ruleLine_38 : decode prog_14_method_35_code 38 = .ok (.if_icmp .ne 8, 3) := by decide +kernel
theorem d_M_ruleLine_41 : decode prog_14_method_35_code 41 = .ok (.iload 5, 2) := by decide +kernel
theorem d_M_ruleLine_43 : decode prog_14_method_35_code 43 = .ok (.goto 4, 3) := by decide +kernel
theorem d_M_ruleLine_46 : decode prog_14_method_35_code 46 = .ok (.iload_n 3, 1) := by decide +kernel
theorem d_M_ruleLine_47 : decode prog_14_method_35_code 47 = .ok (.istore_n 3, 1) := by decide +kernel
theorem d_M_ruleLine_48 : decode prog_14_method_35_code 48 = .ok (.aload_n 0, 1) := by decide +kernel
theorem d_M_ruleLine_49 : decode prog_14_method_35_code 49 = .ok (.getfield 93, 3) := by decide +kernel
theorem d_M_ruleLine_52 : decode prog_14_method_35_code 52 = .ok (.iload 5, 2) := by decide +kernel
theorem d_M_ruleLine_54 : decode prog_14_method_35_code 54 = .ok (.iaload, 1) := by decide +kernel
theorem d_M_ruleLine_55 : decode prog_14_method_35_code 55 = .ok (.bipush 58, 2) := by decide +kernel
theorem d_M_ruleLine_57 : decode prog_14_method_35_code 57 = .ok (.if_icmp .ne 10, 3) := by decide +kernel
theorem d_M_ruleLine_60 : decode prog_14_method_35_code 60 = .ok (.iload 4, 2) := by decide +kernel
theorem d_M_ruleLine_62 : decode prog_14_method_35_code 62 = .ok (.iconst 1, 1) := by decide +kernel
theorem d_M_ruleLine_63 : decode prog_14_method_35_code 63 = .ok (.iadd, 1) := by decide +kernel
theorem d_M_ruleLine_64 : decode prog_14_method_35_code 64 = .ok (.goto 5, 3) := by decide +kernel
theorem d_M_ruleLine_67 : decode prog_14_method_35_code 67 = .ok (.iload 4, 2) := by decide +kernel
theorem d_M_ruleLine_69 : decode prog_14_method_35_code 69 = .ok (.istore 4, 2) := by decide +kernel
theorem d_M_ruleLine_71 : decode prog_14_method_35_code 71 = .ok (.iinc 5 1, 3) := by decide +kernel
theorem d_M_ruleLine_74 : decode prog_14_method_35_code 74 = .ok (.goto (-54), 3) := by decide +kernel
theorem d_M_ruleLine_77 : decode prog_14_method_35_code 77 = .ok (.iload 4, 2) := by decide +kernel
theorem d_M_ruleLine_79 : decode prog_14_method_35_code 79 = .ok (.iconst 1, 1) := by decide +kernel
theorem d_M_ruleLine_80 : decode prog_14_method_35_code 80 = .ok (.if_icmp .eq 5, 3) := by decide +kernel
theorem d_M_ruleLine_83 : decode prog_14_method_35_code 83 = .ok (.iconst 0, 1) := by decide +kernel
theorem d_M_ruleLine_84 : decode prog_14_method_35_code 84 = .ok (.ireturn, 1) := by decide +kernel
theorem d_M_ruleLine_85 : decode prog_14_method_35_code 85 = .ok (.aload_n 0, 1) := by decide +kernel
theorem d_M_ruleLine_86 : decode prog_14_method_35_code 86 = .ok (.iconst 0, 1) := by decide +kernel
theorem d_M_ruleLine_87 : decode prog_14_method_35_code 87 = .ok (.putfield 254, 3) := by decide +kernel
theorem d_M_ruleLine_90 : decode prog_14_method_35_code 90 = .ok (.aload_n 0, 1) := by decide +kernel
theorem d_M_ruleLine_91 : decode prog_14_method_35_code 91 = .ok (.iconst 0, 1) := by decide +kernel
theorem d_M_ruleLine_92 : decode prog_14_method_35_code 92 = .ok (.iload_n 3, 1) := by decide +kernel
theorem d_M_ruleLine_93 : decode prog_14_method_35_code 93 = .ok (.invokevirtual 317, 3) := by decide +kernel
theorem d_M_ruleLine_96 : decode prog_14_method_35_code 96 = .ok (.aload_n 0, 1) := by decide +kernel
theorem d_M_ruleLine_97 : decode prog_14_method_35_code 97 = .ok (.getfield 254, 3) := by decide +kernel
theorem d_M_ruleLine_100 : decode prog_14_method_35_code 100 = .ok (.istore 5, 2) := by decide +kernel
theorem d_M_ruleLine_102 : decode prog_14_method_35_code 102 = .ok (.aload_n 0, 1) := by decide +kernel
theorem d_M_ruleLine_103 : decode prog_14_method_35_code 103 = .ok (.iload_n 3, 1) := by decide +kernel
theorem d_M_ruleLine_104 : decode prog_14_method_35_code 104 = .ok (.iconst 1, 1) := by decide +kernel
theorem d_M_ruleLine_105 : decode prog_14_method_35_code 105 = .ok (.iadd, 1) := by decide +kernel
theorem d_M_ruleLine_106 : decode prog_14_method_35_code 106 = .ok (.aload_n 0, 1) := by decide +kernel
theorem d_M_ruleLine_107 : decode prog_14_method_35_code 107 = .ok (.getfield 203, 3) := by decide +kernel
theorem d_M_ruleLine_110 : decode prog_14_method_35_code 110 = .ok (.invokevirtual 317, 3) := by decide +kernel
theorem d_M_ruleLine_113 : decode prog_14_method_35_code 113 = .ok (.iload 5, 2) := by decide +kernel
theorem d_M_ruleLine_115 : decode prog_14_method_35_code 115 = .ok (.ifCond .ne 5, 3) := by decide +kernel
theorem d_M_ruleLine_118 : decode prog_14_method_35_code 118 = .ok (.iconst 0, 1) := by decide +kernel
theorem d_M_ruleLine_119 : decode prog_14_method_35_code 119 = .ok (.ireturn, 1) := by decide +kernel
theorem d_M_ruleLine_120 : decode prog_14_method_35_code 120 = .ok (.aload_n 0, 1) := by decide +kernel
theorem d_M_ruleLine_121 : decode prog_14_method_35_code 121 = .ok (.dup, 1) := by decide +kernel
theorem d_M_ruleLine_122 : decode prog_14_method_35_code 122 = .ok (.getfield 286, 3) := by decide +kernel
theorem d_M_ruleLine_125 : decode prog_14_method_35_code 125 = .ok (.iconst 1, 1) := by decide +kernel
theorem d_M_ruleLine_126 : decode prog_14_method_35_code 126 = .ok (.iadd, 1) := by decide +kernel
theorem d_M_ruleLine_127 : decode prog_14_method_35_code 127 = .ok (.putfield 286, 3) := by decide +kernel
theorem d_M_ruleLine_130 : decode prog_14_method_35_code 130 = .ok (.aload_n 0, 1) := by decide +kernel
theorem d_M_ruleLine_131 : decode prog_14_method_35_code 131 = .ok (.iconst 1, 1) := by decide +kernel
theorem d_M_ruleLine_132 : decode prog_14_method_35_code 132 = .ok (.putfield 289, 3) := by decide +kernel
theorem d_M_ruleLine_135 : decode prog_14_method_35_code 135 = .ok (.iload 5, 2) := by decide +kernel
theorem d_M_ruleLine_137 : decode prog_14_method_35_code 137 = .ok (.iconst 1, 1) := by decide +kernel
theorem d_M_ruleLine_138 : decode prog_14_method_35_code 138 = .ok (.if_icmp .ne 11, 3) := by decide +kernel
theorem d_M_ruleLine_141 : decode prog_14_method_35_code 141 = .ok (.aload_n 0, 1) := by decide +kernel
theorem d_M_ruleLine_142 : decode prog_14_method_35_code 142 = .ok (.iconst 0, 1) := by decide +kernel
theorem d_M_ruleLine_143 : decode prog_14_method_35_code 143 = .ok (.invokevirtual 320, 3) := by decide +kernel
theorem d_M_ruleLine_146 : decode prog_14_method_35_code 146 = .ok (.goto 4, 3) := by decide +kernel
theorem d_M_ruleLine_149 : decode prog_14_method_35_code 149 = .ok (.lconst 0, 1) := by decide +kernel
theorem d_M_ruleLine_150 : decode prog_14_method_35_code 150 = .ok (.lstore 6, 2) := by decide +kernel
theorem d_M_ruleLine_152 : decode prog_14_method_35_code 152 = .ok (.lload 6, 2) := by decide +kernel
theorem d_M_ruleLine_154 : decode prog_14_method_35_code 154 = .ok (.ldc2_w 324, 3) := by decide +kernel
theorem d_M_ruleLine_157 : decode prog_14_method_35_code 157 = .ok (.lcmp, 1) := by decide +kernel
theorem d_M_ruleLine_158 : decode prog_14_method_35_code 158 = .ok (.ifCond .ne 8, 3) := by decide +kernel
theorem d_M_ruleLine_161 : decode prog_14_method_35_code 161 = .ok (.aload_n 0, 1) := by decide +kernel
theorem d_M_ruleLine_162 : decode prog_14_method_35_code 162 = .ok (.invokevirtual 326, 3) := by decide +kernel
theorem d_M_ruleLine_165 : decode prog_14_method_35_code 165 = .ok (.ireturn, 1) := by decide +kernel
theorem d_M_ruleLine_166 : decode prog_14_method_35_code 166 = .ok (.lload 6, 2) := by decide +kernel
theorem d_M_ruleLine_168 : decode prog_14_method_35_code 168 = .ok (.ldc2_w 329, 3) := by decide +kernel
theorem d_M_ruleLine_171 : decode prog_14_method_35_code 171 = .ok (.lcmp, 1) := by decide +kernel
theorem d_M_ruleLine_172 : decode prog_14_method_35_code 172 = .ok (.ifCond .eq 21, 3) := by decide +kernel
theorem d_M_ruleLine_175 : decode prog_14_method_35_code 175 = .ok (.lload 6, 2) := by decide +kernel
theorem d_M_ruleLine_177 : decode prog_14_method_35_code 177 = .ok (.ldc2_w 331, 3) := by decide +kernel
theorem d_M_ruleLine_180 : decode prog_14_method_35_code 180 = .ok (.lcmp, 1) := by decide +kernel
theorem d_M_ruleLine_181 : decode prog_14_method_35_code 181 = .ok (.ifCond .eq 12, 3) := by decide +kernel
theorem d_M_ruleLine_184 : decode prog_14_method_35_code 184 = .ok (.lload 6, 2) := by decide +kernel
theorem d_M_ruleLine_186 : decode prog_14_method_35_code 186 = .ok (.ldc2_w 333, 3) := by decide +kernel
theorem d_M_ruleLine_189 : decode prog_14_method_35_code 189 = .ok (.lcmp, 1) := by decide +kernel
theorem d_M_ruleLine_190 : decode prog_14_method_35_code 190 = .ok (.ifCond .ne 10, 3) := by decide +kernel
theorem d_M_ruleLine_193 : decode prog_14_method_35_code 193 = .ok (.aload_n 0, 1) := by decide +kernel
theorem d_M_ruleLine_194 : decode prog_14_method_35_code 194 = .ok (.lload 6, 2) := by decide +kernel
theorem d_M_ruleLine_196 : decode prog_14_method_35_code 196 = .ok (.invokevirtual 335, 3) := by decide +kernel
theorem d_M_ruleLine_199 : decode prog_14_method_35_code 199 = .ok (.ireturn, 1) := by decide +kernel
theorem d_M_ruleLine_200 : decode prog_14_method_35_code 200 = .ok (.lload 6, 2) := by decide +kernel
theorem d_M_ruleLine_202 : decode prog_14_method_35_code 202 = .ok (.ldc2_w 338, 3) := by decide +kernel
theorem d_M_ruleLine_205 : decode prog_14_method_35_code 205 = .ok (.lcmp, 1) := by decide +kernel
theorem d_M_ruleLine_206 : decode prog_14_method_35_code 206 = .ok (.ifCond .ne 22, 3) := by decide +kernel
theorem d_M_ruleLine_209 : decode prog_14_method_35_code 209 = .ok (.aload_n 0, 1) := by decide +kernel
theorem d_M_ruleLine_210 : decode prog_14_method_35_code 210 = .ok (.iconst 2, 1) := by decide +kernel
theorem d_M_ruleLine_211 : decode prog_14_method_35_code 211 = .ok (.putfield 289, 3) := by decide +kernel
theorem d_M_ruleLine_214 : decode prog_14_method_35_code 214 = .ok (.aload_n 0, 1) := by decide +kernel
theorem d_M_ruleLine_215 : decode prog_14_method_35_code 215 = .ok (.getfield 254, 3) := by decide +kernel
theorem d_M_ruleLine_218 : decode prog_14_method_35_code 218 = .ok (.iconst 1, 1) := by decide +kernel
theorem d_M_ruleLine_219 : decode prog_14_method_35_code 219 = .ok (.if_icmp .ne 7, 3) := by decide +kernel
theorem d_M_ruleLine_222 : decode prog_14_method_35_code 222 = .ok (.iconst 1, 1) := by decide +kernel
theorem d_M_ruleLine_223 : decode prog_14_method_35_code 223 = .ok (.goto 4, 3) := by decide +kernel
theorem d_M_ruleLine_226 : decode prog_14_method_35_code 226 = .ok (.iconst 0, 1) := by decide +kernel
theorem d_M_ruleLine_227 : decode prog_14_method_35_code 227 = .ok (.ireturn, 1) := by decide +kernel
theorem d_M_ruleLine_228 : decode prog_14_method_35_code 228 = .ok (.iload 5, 2) := by decide +kernel
theorem d_M_ruleLine_230 : decode prog_14_method_35_code 230 = .ok (.iconst 1, 1) := by decide +kernel
theorem d_M_ruleLine_231 : decode prog_14_method_35_code 231 = .ok (.if_icmp .ne 18, 3) := by decide +kernel
theorem d_M_ruleLine_234 : decode prog_14_method_35_code 234 = .ok (.aload_n 0, 1) := by decide +kernel
theorem d_M_ruleLine_235 : decode prog_14_method_35_code 235 = .ok (.getfield 254, 3) := by decide +kernel
theorem d_M_ruleLine_238 : decode prog_14_method_35_code 238 = .ok (.iconst 1, 1) := by decide +kernel
theorem d_M_ruleLine_239 : decode prog_14_method_35_code 239 = .ok (.if_icmp .ne 10, 3) := by decide +kernel
theorem d_M_ruleLine_242 : decode prog_14_method_35_code 242 = .ok (.aload_n 0, 1) := by decide +kernel
theorem d_M_ruleLine_243 : decode prog_14_method_35_code 243 = .ok (.invokevirtual 340, 3) := by decide +kernel
theorem d_M_ruleLine_246 : decode prog_14_method_35_code 246 = .ok (.ifCond .ne 20, 3) := by decide +kernel
theorem d_M_ruleLine_249 : decode prog_14_method_35_code 249 = .ok (.aload_n 0, 1) := by decide +kernel
theorem d_M_ruleLine_250 : decode prog_14_method_35_code 250 = .ok (.getfield 289, 3) := by decide +kernel
theorem d_M_ruleLine_253 : decode prog_14_method_35_code 253 = .ok (.iconst 3, 1) := by decide +kernel
theorem d_M_ruleLine_254 : decode prog_14_method_35_code 254 = .ok (.if_icmp .eq 16, 3) := by decide +kernel
theorem d_M_ruleLine_257 : decode prog_14_method_35_code 257 = .ok (.aload_n 0, 1) := by decide +kernel
theorem d_M_ruleLine_258 : decode prog_14_method_35_code 258 = .ok (.iload 5, 2) := by decide +kernel
theorem d_M_ruleLine_260 : decode prog_14_method_35_code 260 = .ok (.invokevirtual 343, 3) := by decide +kernel
theorem d_M_ruleLine_263 : decode prog_14_method_35_code 263 = .ok (.ifCond .eq 7, 3) := by decide +kernel
theorem d_M_ruleLine_266 : decode prog_14_method_35_code 266 = .ok (.iconst 1, 1) := by decide +kernel
theorem d_M_ruleLine_267 : decode prog_14_method_35_code 267 = .ok (.goto 4, 3) := by decide +kernel
theorem d_M_ruleLine_270 : decode prog_14_method_35_code 270 = .ok (.iconst 0, 1) := by decide +kernel
theorem d_M_ruleLine_271 : decode prog_14_method_35_code 271 = .ok (.ireturn, 1) := by decide +kernel
noncomputable def f_M_ruleLine_j193 (r0 : Option Nat) (y6 : Int64) (σ : rb_St) : Option rb_Rs :=
  (rb_fc σ r0 13).bind fun _ => rb_cI (f_M_markLine (r0) (y6) σ) fun x_16 σ_17 => if rb_isZ x_16 then some (some (.int x_16), σ_17) else none
theorem t_M_ruleLine_j193 {E : rb_EV} {d : Nat} {σ0 : rb_St} {res : rb_Rs} (hdd : 6 ≤ d)  (r0 : Option Nat) (y6 : Int64) (σ : rb_St) : rb_TC (f_M_ruleLine_j193 r0 y6 σ) (fun r => r = res) (rb_WK E k_M_ruleLine d σ0 res 193 [some (va_rf r0), none, none, none, none, none, some (.long y6), none] [] σ) := by
  unfold f_M_ruleLine_j193
  refine rb_TC.mono (rk_aload_n 0 d_M_ruleLine_193 rfl rfl) ?_
  refine rb_TC.mono (rk_lload d_M_ruleLine_194 rfl) ?_
  refine rt_vI (As := [.long y6]) (st := []) (r0) vw_M_335 (s_M_markLine (Nat.le_refl _) (r0) (y6) σ) (Nat.le_trans (by decide) hdd) rfl (by simp [rb_cat_r, rb_cat_i, rb_cat_l]) d_M_ruleLine_196 (fun x_16 σ_17 => ?_)
  refine rb_TC.ite (fun hn => ?_) (fun _ => rb_TC.none)
  exact rt_iret (ty := .boolean) rfl (rb_nar_Z hn) (fun h => h) d_M_ruleLine_199
noncomputable def f_M_ruleLine_j249 (r0 : Option Nat) (x5 : Int32) (σ : rb_St) : Option rb_Rs :=
  (rb_gI σ r0 13 40).bind fun x_23 => if x_23 = (3 : Int32) then (some (some (.int (0 : Int32)), σ)) else ((rb_fc σ r0 13).bind fun _ => rb_cI (f_M_plainLine (r0) (x5) σ) fun x_24 σ_25 => if x_24 = 0 then (some (some (.int (0 : Int32)), σ_25)) else (some (some (.int (1 : Int32)), σ_25)))
theorem t_M_ruleLine_j249 {E : rb_EV} {d : Nat} {σ0 : rb_St} {res : rb_Rs} (hdd : 6 ≤ d)  (r0 : Option Nat) (x5 : Int32) (σ : rb_St) : rb_TC (f_M_ruleLine_j249 r0 x5 σ) (fun r => r = res) (rb_WK E k_M_ruleLine d σ0 res 249 [some (va_rf r0), none, none, none, none, some (.int x5), none, none] [] σ) := by
  unfold f_M_ruleLine_j249
  refine rb_TC.mono (rk_aload_n 0 d_M_ruleLine_249 rfl rfl) ?_
  refine rt_gI r0 fw_M_289 d_M_ruleLine_250 (fun x_23 => ?_)
  refine rb_TC.mono (rk_iconst (3 : Int32) d_M_ruleLine_253 (by decide)) ?_
  refine rt_icmp_eq 270 d_M_ruleLine_254 (by decide) (fun _ => ?_) (fun _ => ?_)
  · refine rb_TC.mono (rk_iconst (0 : Int32) d_M_ruleLine_270 (by decide)) ?_
    exact rt_iret (ty := .boolean) rfl (by decide) (fun h => h) d_M_ruleLine_271
  · refine rb_TC.mono (rk_aload_n 0 d_M_ruleLine_257 rfl rfl) ?_
    refine rb_TC.mono (rk_iload d_M_ruleLine_258 rfl) ?_
    refine rt_vI (As := [.int x5]) (st := []) (r0) vw_M_343 (s_M_plainLine (Nat.le_refl _) (r0) (x5) σ) (Nat.le_trans (by decide) hdd) rfl (by simp [rb_cat_r, rb_cat_i, rb_cat_l]) d_M_ruleLine_260 (fun x_24 σ_25 => ?_)
    refine rt_if_eq 270 d_M_ruleLine_263 (by decide) (fun _ => ?_) (fun _ => ?_)
    · refine rb_TC.mono (rk_iconst (0 : Int32) d_M_ruleLine_270 (by decide)) ?_
      exact rt_iret (ty := .boolean) rfl (by decide) (fun h => h) d_M_ruleLine_271
    · refine rb_TC.mono (rk_iconst (1 : Int32) d_M_ruleLine_266 (by decide)) ?_
      refine rb_TC.mono (rk_goto 271 d_M_ruleLine_267 (by decide)) ?_
      exact rt_iret (ty := .boolean) rfl (by decide) (fun h => h) d_M_ruleLine_271
noncomputable def f_M_ruleLine_j150 (r0 : Option Nat) (x5 : Int32) (sy0 : Int64) (σ : rb_St) : Option rb_Rs :=
  if (lg_cmp sy0 (3361750429958808275 : Int64)) = 0 then ((rb_fc σ r0 13).bind fun _ => rb_cI (f_M_suffixLine (r0)  σ) fun x_14 σ_15 => if rb_isZ x_14 then some (some (.int x_14), σ_15) else none) else (if (lg_cmp sy0 (1602175100761 : Int64)) = 0 then (f_M_ruleLine_j193 (r0) (sy0) σ) else (if (lg_cmp sy0 (204837624211781 : Int64)) = 0 then (f_M_ruleLine_j193 (r0) (sy0) σ) else (if (lg_cmp sy0 (205181754107732 : Int64)) = 0 then (f_M_ruleLine_j193 (r0) (sy0) σ) else (if (lg_cmp sy0 (26197154770282068 : Int64)) = 0 then ((rb_pI σ r0 13 40 (2 : Int32)).bind fun σ_18 => (rb_gI σ_18 r0 13 47).bind fun x_19 => if x_19 = (1 : Int32) then (some (some (.int (1 : Int32)), σ_18)) else (some (some (.int (0 : Int32)), σ_18))) else (if x5 = (1 : Int32) then ((rb_gI σ r0 13 47).bind fun x_20 => if x_20 = (1 : Int32) then ((rb_fc σ r0 13).bind fun _ => rb_cI (f_M_endingLine (r0)  σ) fun x_21 σ_22 => if x_21 = 0 then (f_M_ruleLine_j249 (r0) (x5) σ_22) else (some (some (.int (1 : Int32)), σ_22))) else (f_M_ruleLine_j249 (r0) (x5) σ)) else (f_M_ruleLine_j249 (r0) (x5) σ))))))
theorem t_M_ruleLine_j150 {E : rb_EV} {d : Nat} {σ0 : rb_St} {res : rb_Rs} (hdd : 6 ≤ d)  (r0 : Option Nat) (x5 : Int32) (sy0 : Int64) (σ : rb_St) : rb_TC (f_M_ruleLine_j150 r0 x5 sy0 σ) (fun r => r = res) (rb_WK E k_M_ruleLine d σ0 res 150 [some (va_rf r0), none, none, none, none, some (.int x5), none, none] [.long sy0] σ) := by
  unfold f_M_ruleLine_j150
  refine rb_TC.mono (rk_lstore (lv2 := [some (va_rf r0), none, none, none, none, some (.int x5), some (.long sy0), none]) d_M_ruleLine_150 (by decide) (fun _ => rb_one_i) rfl) ?_
  refine rb_TC.mono (rk_lload d_M_ruleLine_152 rfl) ?_
  refine rb_TC.mono (rk_ldc2 d_M_ruleLine_154 w_long_M_324) ?_
  refine rb_TC.mono (rk_lcmp d_M_ruleLine_157) ?_
  refine rt_if_ne 166 d_M_ruleLine_158 (by decide) (fun _ => ?_) (fun _ => ?_)
  · refine rb_TC.mono (rk_aload_n 0 d_M_ruleLine_161 rfl rfl) ?_
    refine rt_vI (As := []) (st := []) (r0) vw_M_326 (s_M_suffixLine (Nat.le_refl _) (r0)  σ) (Nat.le_trans (by decide) hdd) rfl (by simp [rb_cat_r, rb_cat_i, rb_cat_l]) d_M_ruleLine_162 (fun x_14 σ_15 => ?_)
    refine rb_TC.ite (fun hn => ?_) (fun _ => rb_TC.none)
    exact rt_iret (ty := .boolean) rfl (rb_nar_Z hn) (fun h => h) d_M_ruleLine_165
  · refine rb_TC.mono (rk_lload d_M_ruleLine_166 rfl) ?_
    refine rb_TC.mono (rk_ldc2 d_M_ruleLine_168 w_long_M_329) ?_
    refine rb_TC.mono (rk_lcmp d_M_ruleLine_171) ?_
    refine rt_if_eq 193 d_M_ruleLine_172 (by decide) (fun _ => ?_) (fun _ => ?_)
    · refine rb_TC.mono (rk_less (lv2 := [some (va_rf r0), none, none, none, none, none, some (.long sy0), none]) (rb_le_ok (rb_leS (rb_leN (rb_leN (rb_leN (rb_leN (rb_leN (rb_leS (rb_leN rb_le0)))))))))) ?_
      exact t_M_ruleLine_j193 hdd  (r0) (sy0) σ
    · refine rb_TC.mono (rk_lload d_M_ruleLine_175 rfl) ?_
      refine rb_TC.mono (rk_ldc2 d_M_ruleLine_177 w_long_M_331) ?_
      refine rb_TC.mono (rk_lcmp d_M_ruleLine_180) ?_
      refine rt_if_eq 193 d_M_ruleLine_181 (by decide) (fun _ => ?_) (fun _ => ?_)
      · refine rb_TC.mono (rk_less (lv2 := [some (va_rf r0), none, none, none, none, none, some (.long sy0), none]) (rb_le_ok (rb_leS (rb_leN (rb_leN (rb_leN (rb_leN (rb_leN (rb_leS (rb_leN rb_le0)))))))))) ?_
        exact t_M_ruleLine_j193 hdd  (r0) (sy0) σ
      · refine rb_TC.mono (rk_lload d_M_ruleLine_184 rfl) ?_
        refine rb_TC.mono (rk_ldc2 d_M_ruleLine_186 w_long_M_333) ?_
        refine rb_TC.mono (rk_lcmp d_M_ruleLine_189) ?_
        refine rt_if_ne 200 d_M_ruleLine_190 (by decide) (fun _ => ?_) (fun _ => ?_)
        · refine rb_TC.mono (rk_less (lv2 := [some (va_rf r0), none, none, none, none, none, some (.long sy0), none]) (rb_le_ok (rb_leS (rb_leN (rb_leN (rb_leN (rb_leN (rb_leN (rb_leS (rb_leN rb_le0)))))))))) ?_
          exact t_M_ruleLine_j193 hdd  (r0) (sy0) σ
        · refine rb_TC.mono (rk_lload d_M_ruleLine_200 rfl) ?_
          refine rb_TC.mono (rk_ldc2 d_M_ruleLine_202 w_long_M_338) ?_
          refine rb_TC.mono (rk_lcmp d_M_ruleLine_205) ?_
          refine rt_if_ne 228 d_M_ruleLine_206 (by decide) (fun _ => ?_) (fun _ => ?_)
          · refine rb_TC.mono (rk_aload_n 0 d_M_ruleLine_209 rfl rfl) ?_
            refine rb_TC.mono (rk_iconst (2 : Int32) d_M_ruleLine_210 (by decide)) ?_
            refine rt_pI r0 fp_M_ruleLine_289 d_M_ruleLine_211 (fun σ_18 => ?_)
            refine rb_TC.mono (rk_aload_n 0 d_M_ruleLine_214 rfl rfl) ?_
            refine rt_gI r0 fw_M_254 d_M_ruleLine_215 (fun x_19 => ?_)
            refine rb_TC.mono (rk_iconst (1 : Int32) d_M_ruleLine_218 (by decide)) ?_
            refine rt_icmp_ne 226 d_M_ruleLine_219 (by decide) (fun _ => ?_) (fun _ => ?_)
            · refine rb_TC.mono (rk_iconst (1 : Int32) d_M_ruleLine_222 (by decide)) ?_
              refine rb_TC.mono (rk_goto 227 d_M_ruleLine_223 (by decide)) ?_
              exact rt_iret (ty := .boolean) rfl (by decide) (fun h => h) d_M_ruleLine_227
            · refine rb_TC.mono (rk_iconst (0 : Int32) d_M_ruleLine_226 (by decide)) ?_
              exact rt_iret (ty := .boolean) rfl (by decide) (fun h => h) d_M_ruleLine_227
          · refine rb_TC.mono (rk_iload d_M_ruleLine_228 rfl) ?_
            refine rb_TC.mono (rk_iconst (1 : Int32) d_M_ruleLine_230 (by decide)) ?_
            refine rt_icmp_ne 249 d_M_ruleLine_231 (by decide) (fun _ => ?_) (fun _ => ?_)
            · refine rb_TC.mono (rk_aload_n 0 d_M_ruleLine_234 rfl rfl) ?_
              refine rt_gI r0 fw_M_254 d_M_ruleLine_235 (fun x_20 => ?_)
              refine rb_TC.mono (rk_iconst (1 : Int32) d_M_ruleLine_238 (by decide)) ?_
              refine rt_icmp_ne 249 d_M_ruleLine_239 (by decide) (fun _ => ?_) (fun _ => ?_)
              · refine rb_TC.mono (rk_aload_n 0 d_M_ruleLine_242 rfl rfl) ?_
                refine rt_vI (As := []) (st := []) (r0) vw_M_340 (s_M_endingLine (Nat.le_refl _) (r0)  σ) (Nat.le_trans (by decide) hdd) rfl (by simp [rb_cat_r, rb_cat_i, rb_cat_l]) d_M_ruleLine_243 (fun x_21 σ_22 => ?_)
                refine rt_if_ne 266 d_M_ruleLine_246 (by decide) (fun _ => ?_) (fun _ => ?_)
                · refine rb_TC.mono (rk_less (lv2 := [some (va_rf r0), none, none, none, none, some (.int x5), none, none]) (rb_le_ok (rb_leS (rb_leN (rb_leN (rb_leN (rb_leN (rb_leS (rb_leN (rb_leN rb_le0)))))))))) ?_
                  exact t_M_ruleLine_j249 hdd  (r0) (x5) σ_22
                · refine rb_TC.mono (rk_iconst (1 : Int32) d_M_ruleLine_266 (by decide)) ?_
                  refine rb_TC.mono (rk_goto 271 d_M_ruleLine_267 (by decide)) ?_
                  exact rt_iret (ty := .boolean) rfl (by decide) (fun h => h) d_M_ruleLine_271
              · refine rb_TC.mono (rk_less (lv2 := [some (va_rf r0), none, none, none, none, some (.int x5), none, none]) (rb_le_ok (rb_leS (rb_leN (rb_leN (rb_leN (rb_leN (rb_leS (rb_leN (rb_leN rb_le0)))))))))) ?_
                exact t_M_ruleLine_j249 hdd  (r0) (x5) σ
            · refine rb_TC.mono (rk_less (lv2 := [some (va_rf r0), none, none, none, none, some (.int x5), none, none]) (rb_le_ok (rb_leS (rb_leN (rb_leN (rb_leN (rb_leN (rb_leS (rb_leN (rb_leN rb_le0)))))))))) ?_
              exact t_M_ruleLine_j249 hdd  (r0) (x5) σ
noncomputable def f_M_ruleLine_j47 (r0 : Option Nat) (x4 : Int32) (x5 : Int32) (sx0 : Int32) (σ : rb_St) : Option ((Int32 × Int32 × Int32) ⊕ rb_Rs) :=
  (rb_gR σ r0 13 43).bind fun r_28 => (rb_aI σ r_28 102 x5).bind fun x_29 => if x_29 = (58 : Int32) then (some (.inl (sx0, (x4 + (1 : Int32)), (x5 + 1)))) else (some (.inl (sx0, x4, (x5 + 1))))
theorem t_M_ruleLine_j47 {E : rb_EV} {d : Nat} {σ0 : rb_St} {res : rb_Rs} (hdd : 6 ≤ d)  (r0 : Option Nat) (x4 : Int32) (x5 : Int32) (sx0 : Int32) (σ : rb_St) : rb_TC (f_M_ruleLine_j47 r0 x4 x5 sx0 σ) (Sum.elim (fun z : (Int32 × Int32 × Int32) => rb_WK E k_M_ruleLine d σ0 res 20 [some (va_rf r0), none, none, some (.int z.1), some (.int z.2.1), some (.int z.2.2), none, none] [] σ) (fun r => r = res)) (rb_WK E k_M_ruleLine d σ0 res 47 [some (va_rf r0), none, none, none, some (.int x4), some (.int x5), none, none] [.int sx0] σ) := by
  unfold f_M_ruleLine_j47
  refine rb_TC.mono (rk_istore_n (lv2 := [some (va_rf r0), none, none, some (.int sx0), some (.int x4), some (.int x5), none, none]) 3 d_M_ruleLine_47 rfl (by decide) (fun _ => rb_one_n) rfl) ?_
  refine rb_TC.mono (rk_aload_n 0 d_M_ruleLine_48 rfl rfl) ?_
  refine rt_gR r0 fw_M_93 d_M_ruleLine_49 (fun r_28 => ?_)
  refine rb_TC.mono (rk_iload d_M_ruleLine_52 rfl) ?_
  refine rt_iald r_28 d_M_ruleLine_54 (fun x_29 => ?_)
  refine rb_TC.mono (rk_bipush (58 : Int32) d_M_ruleLine_55 (by decide)) ?_
  refine rt_icmp_ne 67 d_M_ruleLine_57 (by decide) (fun _ => ?_) (fun _ => ?_)
  · refine rb_TC.mono (rk_iload d_M_ruleLine_60 rfl) ?_
    refine rb_TC.mono (rk_iconst (1 : Int32) d_M_ruleLine_62 (by decide)) ?_
    refine rb_TC.mono (rk_iadd d_M_ruleLine_63) ?_
    refine rb_TC.mono (rk_goto 69 d_M_ruleLine_64 (by decide)) ?_
    refine rb_TC.mono (rk_istore (lv2 := [some (va_rf r0), none, none, some (.int sx0), some (.int (x4 + (1 : Int32))), some (.int x5), none, none]) d_M_ruleLine_69 (by decide) (fun _ => rb_one_i) rfl) ?_
    refine rb_TC.mono (rk_iinc (lv2 := [some (va_rf r0), none, none, some (.int sx0), some (.int (x4 + (1 : Int32))), some (.int (x5 + 1)), none, none]) (x5 + 1) d_M_ruleLine_71 rfl rfl (by decide) (fun _ => rb_one_i) rfl) ?_
    refine rb_TC.mono (rk_goto 20 d_M_ruleLine_74 (by decide)) ?_
    exact rb_back
  · refine rb_TC.mono (rk_iload d_M_ruleLine_67 rfl) ?_
    refine rb_TC.mono (rk_istore (lv2 := [some (va_rf r0), none, none, some (.int sx0), some (.int x4), some (.int x5), none, none]) d_M_ruleLine_69 (by decide) (fun _ => rb_one_i) rfl) ?_
    refine rb_TC.mono (rk_iinc (lv2 := [some (va_rf r0), none, none, some (.int sx0), some (.int x4), some (.int (x5 + 1)), none, none]) (x5 + 1) d_M_ruleLine_71 rfl rfl (by decide) (fun _ => rb_one_i) rfl) ?_
    refine rb_TC.mono (rk_goto 20 d_M_ruleLine_74 (by decide)) ?_
    exact rb_back
noncomputable def f_M_ruleLine_b20 (r0 : Option Nat) (x3 : Int32) (x4 : Int32) (x5 : Int32) (σ : rb_St) : Option ((Int32 × Int32 × Int32) ⊕ rb_Rs) :=
  (rb_gI σ r0 13 44).bind fun x_3 => if x_3 ≤ x5 then ((if x4 = (1 : Int32) then ((rb_pI σ r0 13 47 (0 : Int32)).bind fun σ_4 => (rb_fc σ_4 r0 13).bind fun _ => rb_cV (f_M_split (r0) ((0 : Int32)) (x3) σ_4) fun σ_5 => (rb_gI σ_5 r0 13 47).bind fun x_6 => (rb_gI σ_5 r0 13 44).bind fun x_7 => (rb_fc σ_5 r0 13).bind fun _ => rb_cV (f_M_split (r0) ((x3 + (1 : Int32))) (x_7) σ_5) fun σ_8 => if x_6 = 0 then (some (some (.int (0 : Int32)), σ_8)) else ((rb_gI σ_8 r0 13 39).bind fun x_9 => (rb_pI σ_8 r0 13 39 (x_9 + (1 : Int32))).bind fun σ_10 => (rb_pI σ_10 r0 13 40 (1 : Int32)).bind fun σ_11 => if x_6 = (1 : Int32) then ((rb_fc σ_11 r0 13).bind fun _ => rb_cL (f_M_word (r0) ((0 : Int32)) σ_11) fun y_12 σ_13 => f_M_ruleLine_j150 (r0) (x_6) (y_12) σ_13) else (f_M_ruleLine_j150 (r0) (x_6) ((0 : Int64)) σ_11))) else (some (some (.int (0 : Int32)), σ))).map Sum.inr) else ((rb_gR σ r0 13 43).bind fun r_26 => (rb_aI σ r_26 102 x5).bind fun x_27 => if x_27 = (58 : Int32) then (f_M_ruleLine_j47 (r0) (x4) (x5) (x5) σ) else (f_M_ruleLine_j47 (r0) (x4) (x5) (x3) σ))
theorem t_M_ruleLine_b20 {E : rb_EV} {d : Nat} {σ0 : rb_St} {res : rb_Rs} (hdd : 6 ≤ d)  (r0 : Option Nat) (x3 : Int32) (x4 : Int32) (x5 : Int32) (σ : rb_St) : rb_TC (f_M_ruleLine_b20 r0 x3 x4 x5 σ) (Sum.elim (fun z : (Int32 × Int32 × Int32) => rb_WK E k_M_ruleLine d σ0 res 20 [some (va_rf r0), none, none, some (.int z.1), some (.int z.2.1), some (.int z.2.2), none, none] [] σ) (fun r => r = res)) (rb_WK E k_M_ruleLine d σ0 res 20 [some (va_rf r0), none, none, some (.int x3), some (.int x4), some (.int x5), none, none] [] σ) := by
  unfold f_M_ruleLine_b20
  refine rb_TC.mono (rk_iload d_M_ruleLine_20 rfl) ?_
  refine rb_TC.mono (rk_aload_n 0 d_M_ruleLine_22 rfl rfl) ?_
  refine rt_gI r0 fw_M_203 d_M_ruleLine_23 (fun x_3 => ?_)
  refine rt_icmp_ge 77 d_M_ruleLine_26 (by decide) (fun _ => ?_) (fun _ => ?_)
  · refine rb_TC.out ?_
    refine rb_TC.mono (rk_iload d_M_ruleLine_77 rfl) ?_
    refine rb_TC.mono (rk_iconst (1 : Int32) d_M_ruleLine_79 (by decide)) ?_
    refine rt_icmp_eq 85 d_M_ruleLine_80 (by decide) (fun _ => ?_) (fun _ => ?_)
    · refine rb_TC.mono (rk_aload_n 0 d_M_ruleLine_85 rfl rfl) ?_
      refine rb_TC.mono (rk_iconst (0 : Int32) d_M_ruleLine_86 (by decide)) ?_
      refine rt_pI r0 fp_M_ruleLine_254 d_M_ruleLine_87 (fun σ_4 => ?_)
      refine rb_TC.mono (rk_aload_n 0 d_M_ruleLine_90 rfl rfl) ?_
      refine rb_TC.mono (rk_iconst (0 : Int32) d_M_ruleLine_91 (by decide)) ?_
      refine rb_TC.mono (rk_iload_n 3 d_M_ruleLine_92 rfl rfl) ?_
      refine rt_vV (As := [.int (0 : Int32), .int x3]) (st := []) (r0) vw_M_317 (s_M_split (Nat.le_refl _) (r0) ((0 : Int32)) (x3) σ_4) (Nat.le_trans (by decide) hdd) rfl (by simp [rb_cat_r, rb_cat_i, rb_cat_l]) d_M_ruleLine_93 (fun σ_5 => ?_)
      refine rb_TC.mono (rk_aload_n 0 d_M_ruleLine_96 rfl rfl) ?_
      refine rt_gI r0 fw_M_254 d_M_ruleLine_97 (fun x_6 => ?_)
      refine rb_TC.mono (rk_istore (lv2 := [some (va_rf r0), none, none, some (.int x3), some (.int x4), some (.int x_6), none, none]) d_M_ruleLine_100 (by decide) (fun _ => rb_one_i) rfl) ?_
      refine rb_TC.mono (rk_aload_n 0 d_M_ruleLine_102 rfl rfl) ?_
      refine rb_TC.mono (rk_iload_n 3 d_M_ruleLine_103 rfl rfl) ?_
      refine rb_TC.mono (rk_iconst (1 : Int32) d_M_ruleLine_104 (by decide)) ?_
      refine rb_TC.mono (rk_iadd d_M_ruleLine_105) ?_
      refine rb_TC.mono (rk_aload_n 0 d_M_ruleLine_106 rfl rfl) ?_
      refine rt_gI r0 fw_M_203 d_M_ruleLine_107 (fun x_7 => ?_)
      refine rt_vV (As := [.int (x3 + (1 : Int32)), .int x_7]) (st := []) (r0) vw_M_317 (s_M_split (Nat.le_refl _) (r0) ((x3 + (1 : Int32))) (x_7) σ_5) (Nat.le_trans (by decide) hdd) rfl (by simp [rb_cat_r, rb_cat_i, rb_cat_l]) d_M_ruleLine_110 (fun σ_8 => ?_)
      refine rb_TC.mono (rk_iload d_M_ruleLine_113 rfl) ?_
      refine rt_if_ne 120 d_M_ruleLine_115 (by decide) (fun _ => ?_) (fun _ => ?_)
      · refine rb_TC.mono (rk_iconst (0 : Int32) d_M_ruleLine_118 (by decide)) ?_
        exact rt_iret (ty := .boolean) rfl (by decide) (fun h => h) d_M_ruleLine_119
      · refine rb_TC.mono (rk_aload_n 0 d_M_ruleLine_120 rfl rfl) ?_
        refine rb_TC.mono (rk_dupr d_M_ruleLine_121) ?_
        refine rt_gI r0 fw_M_286 d_M_ruleLine_122 (fun x_9 => ?_)
        refine rb_TC.mono (rk_iconst (1 : Int32) d_M_ruleLine_125 (by decide)) ?_
        refine rb_TC.mono (rk_iadd d_M_ruleLine_126) ?_
        refine rt_pI r0 fp_M_ruleLine_286 d_M_ruleLine_127 (fun σ_10 => ?_)
        refine rb_TC.mono (rk_aload_n 0 d_M_ruleLine_130 rfl rfl) ?_
        refine rb_TC.mono (rk_iconst (1 : Int32) d_M_ruleLine_131 (by decide)) ?_
        refine rt_pI r0 fp_M_ruleLine_289 d_M_ruleLine_132 (fun σ_11 => ?_)
        refine rb_TC.mono (rk_iload d_M_ruleLine_135 rfl) ?_
        refine rb_TC.mono (rk_iconst (1 : Int32) d_M_ruleLine_137 (by decide)) ?_
        refine rt_icmp_ne 149 d_M_ruleLine_138 (by decide) (fun _ => ?_) (fun _ => ?_)
        · refine rb_TC.mono (rk_aload_n 0 d_M_ruleLine_141 rfl rfl) ?_
          refine rb_TC.mono (rk_iconst (0 : Int32) d_M_ruleLine_142 (by decide)) ?_
          refine rt_vL (As := [.int (0 : Int32)]) (st := []) (r0) vw_M_320 (s_M_word (Nat.le_refl _) (r0) ((0 : Int32)) σ_11) (Nat.le_trans (by decide) hdd) rfl (by simp [rb_cat_r, rb_cat_i, rb_cat_l]) d_M_ruleLine_143 (fun y_12 σ_13 => ?_)
          refine rb_TC.mono (rk_goto 150 d_M_ruleLine_146 (by decide)) ?_
          refine rb_TC.mono (rk_less (lv2 := [some (va_rf r0), none, none, none, none, some (.int x_6), none, none]) (rb_le_ok (rb_leS (rb_leN (rb_leN (rb_leN (rb_leN (rb_leS (rb_leN (rb_leN rb_le0)))))))))) ?_
          exact t_M_ruleLine_j150 hdd  (r0) (x_6) (y_12) σ_13
        · refine rb_TC.mono (rk_lconst (0 : Int64) d_M_ruleLine_149 (by decide)) ?_
          refine rb_TC.mono (rk_less (lv2 := [some (va_rf r0), none, none, none, none, some (.int x_6), none, none]) (rb_le_ok (rb_leS (rb_leN (rb_leN (rb_leN (rb_leN (rb_leS (rb_leN (rb_leN rb_le0)))))))))) ?_
          exact t_M_ruleLine_j150 hdd  (r0) (x_6) ((0 : Int64)) σ_11
    · refine rb_TC.mono (rk_iconst (0 : Int32) d_M_ruleLine_83 (by decide)) ?_
      exact rt_iret (ty := .boolean) rfl (by decide) (fun h => h) d_M_ruleLine_84
  · refine rb_TC.mono (rk_aload_n 0 d_M_ruleLine_29 rfl rfl) ?_
    refine rt_gR r0 fw_M_93 d_M_ruleLine_30 (fun r_26 => ?_)
    refine rb_TC.mono (rk_iload d_M_ruleLine_33 rfl) ?_
    refine rt_iald r_26 d_M_ruleLine_35 (fun x_27 => ?_)
    refine rb_TC.mono (rk_bipush (58 : Int32) d_M_ruleLine_36 (by decide)) ?_
    refine rt_icmp_ne 46 d_M_ruleLine_38 (by decide) (fun _ => ?_) (fun _ => ?_)
    · refine rb_TC.mono (rk_iload d_M_ruleLine_41 rfl) ?_
      refine rb_TC.mono (rk_goto 47 d_M_ruleLine_43 (by decide)) ?_
      refine rb_TC.mono (rk_less (lv2 := [some (va_rf r0), none, none, none, some (.int x4), some (.int x5), none, none]) (rb_le_ok (rb_leS (rb_leN (rb_leN (rb_leN (rb_leS (rb_leS (rb_leN (rb_leN rb_le0)))))))))) ?_
      exact t_M_ruleLine_j47 hdd  (r0) (x4) (x5) (x5) σ
    · refine rb_TC.mono (rk_iload_n 3 d_M_ruleLine_46 rfl rfl) ?_
      refine rb_TC.mono (rk_less (lv2 := [some (va_rf r0), none, none, none, some (.int x4), some (.int x5), none, none]) (rb_le_ok (rb_leS (rb_leN (rb_leN (rb_leN (rb_leS (rb_leS (rb_leN (rb_leN rb_le0)))))))))) ?_
      exact t_M_ruleLine_j47 hdd  (r0) (x4) (x5) (x3) σ
noncomputable def f_M_ruleLine (r0 : Option Nat) (x1 : Int32) (x2 : Int32) (σ : rb_St) : Option rb_Rs :=
  (rb_fc σ r0 13).bind fun _ => rb_cI (f_M_expand (r0) (x1) (x2) ((0 : Int32)) σ) fun x_1 σ_2 => if x_1 = 0 then (some (some (.int (0 : Int32)), σ_2)) else (rb_it (fun z : (Int32 × Int32 × Int32) => f_M_ruleLine_b20 (r0) (z.1) (z.2.1) (z.2.2) σ_2) ((-1 : Int32), (0 : Int32), (0 : Int32)))
theorem s_M_ruleLine {E : rb_EV} {d : Nat} (hdd : 6 ≤ d) (r0 : Option Nat) (x1 : Int32) (x2 : Int32) (σ : rb_St) : rb_Does E k_M_ruleLine d [va_rf r0, .int x1, .int x2] σ (f_M_ruleLine r0 x1 x2 σ) := by
  refine rb_start (lv := [some (va_rf r0), some (.int x1), some (.int x2), none, none, none, none, none]) (by decide) (by simp [lg_sl, rb_as, lv_args, rb_cat_r, rb_cat_i, rb_cat_l, rb_nL, k_M_ruleLine]) (fun res => ?_)
  unfold f_M_ruleLine
  refine rb_TC.mono (rk_aload_n 0 d_M_ruleLine_0 rfl rfl) ?_
  refine rb_TC.mono (rk_iload_n 1 d_M_ruleLine_1 rfl rfl) ?_
  refine rb_TC.mono (rk_iload_n 2 d_M_ruleLine_2 rfl rfl) ?_
  refine rb_TC.mono (rk_iconst (0 : Int32) d_M_ruleLine_3 (by decide)) ?_
  refine rt_vI (As := [.int x1, .int x2, .int (0 : Int32)]) (st := []) (r0) vw_M_313 (s_M_expand (Nat.le_refl _) (r0) (x1) (x2) ((0 : Int32)) σ) (Nat.le_trans (by decide) hdd) rfl (by simp [rb_cat_r, rb_cat_i, rb_cat_l]) d_M_ruleLine_4 (fun x_1 σ_2 => ?_)
  refine rt_if_ne 12 d_M_ruleLine_7 (by decide) (fun _ => ?_) (fun _ => ?_)
  · refine rb_TC.mono (rk_iconst (0 : Int32) d_M_ruleLine_10 (by decide)) ?_
    exact rt_iret (ty := .boolean) rfl (by decide) (fun h => h) d_M_ruleLine_11
  · refine rb_TC.mono (rk_iconst (-1 : Int32) d_M_ruleLine_12 (by decide)) ?_
    refine rb_TC.mono (rk_istore_n (lv2 := [some (va_rf r0), some (.int x1), some (.int x2), some (.int (-1 : Int32)), none, none, none, none]) 3 d_M_ruleLine_13 rfl (by decide) (fun _ => rb_one_i) rfl) ?_
    refine rb_TC.mono (rk_iconst (0 : Int32) d_M_ruleLine_14 (by decide)) ?_
    refine rb_TC.mono (rk_istore (lv2 := [some (va_rf r0), some (.int x1), some (.int x2), some (.int (-1 : Int32)), some (.int (0 : Int32)), none, none, none]) d_M_ruleLine_15 (by decide) (fun _ => rb_one_i) rfl) ?_
    refine rb_TC.mono (rk_iconst (0 : Int32) d_M_ruleLine_17 (by decide)) ?_
    refine rb_TC.mono (rk_istore (lv2 := [some (va_rf r0), some (.int x1), some (.int x2), some (.int (-1 : Int32)), some (.int (0 : Int32)), some (.int (0 : Int32)), none, none]) d_M_ruleLine_18 (by decide) (fun _ => rb_one_i) rfl) ?_
    refine rb_TC.mono (rk_less (lv2 := [some (va_rf r0), none, none, some (.int (-1 : Int32)), some (.int (0 : Int32)), some (.int (0 : Int32)), none, none]) (rb_le_ok (rb_leS (rb_leN (rb_leN (rb_leS (rb_leS (rb_leS (rb_leN (rb_leN rb_le0)))))))))) ?_
    exact rb_TC.loop2 (A := (fun z : (Int32 × Int32 × Int32) => rb_WK E k_M_ruleLine d σ res 20 [some (va_rf r0), none, none, some (.int z.1), some (.int z.2.1), some (.int z.2.2), none, none] [] σ_2)) ((-1 : Int32), (0 : Int32), (0 : Int32)) (fun z => t_M_ruleLine_b20 hdd  (r0) (z.1) (z.2.1) (z.2.2) σ_2)
-- ===== RuleBuilderModel.readLine(II)Z
def k_M_readLine : rb_MK := (⟨"RuleBuilderModel", "readLine", "(II)Z"⟩, prog_14_method_33_code, 7, some (.boolean))
theorem mw_M_readLine : rb_Mw k_M_readLine 2 := ⟨rb_inG 1504 (by decide +kernel) rfl, rb_inG 94 (by decide +kernel) rfl, ⟨by decide, by decide, by decide +kernel⟩, by decide⟩
theorem vw_M_301 : rb_Vw "RuleBuilderModel" 301 k_M_command 13 2 := ⟨mw_M_command, rb_inG 1505 (by decide +kernel) rfl, rb_inG 1507 (by decide +kernel) rfl, rb_inG 42 (by decide +kernel) rfl, by decide, by decide, _, rfl, rfl⟩
theorem vw_M_304 : rb_Vw "RuleBuilderModel" 304 k_M_ruleLine 13 2 := ⟨mw_M_ruleLine, rb_inG 1509 (by decide +kernel) rfl, rb_inG 1511 (by decide +kernel) rfl, rb_inG 43 (by decide +kernel) rfl, by decide, by decide, _, rfl, rfl⟩
theorem d_M_readLine_0 : decode prog_14_method_33_code 0 = .ok (.iload_n 1, 1) := by decide +kernel
theorem d_M_readLine_1 : decode prog_14_method_33_code 1 = .ok (.iload_n 2, 1) := by decide +kernel
theorem d_M_readLine_2 : decode prog_14_method_33_code 2 = .ok (.if_icmp .ge 23, 3) := by decide +kernel
theorem d_M_readLine_5 : decode prog_14_method_33_code 5 = .ok (.aload_n 0, 1) := by decide +kernel
theorem d_M_readLine_6 : decode prog_14_method_33_code 6 = .ok (.getfield 45, 3) := by decide +kernel
theorem d_M_readLine_9 : decode prog_14_method_33_code 9 = .ok (.iload_n 1, 1) := by decide +kernel
theorem d_M_readLine_10 : decode prog_14_method_33_code 10 = .ok (.iaload, 1) := by decide +kernel
theorem d_M_readLine_11 : decode prog_14_method_33_code 11 = .ok (.bipush 9, 2) := by decide +kernel
theorem d_M_readLine_13 : decode prog_14_method_33_code 13 = .ok (.if_icmp .ne 12, 3) := by decide +kernel
theorem d_M_readLine_16 : decode prog_14_method_33_code 16 = .ok (.aload_n 0, 1) := by decide +kernel
theorem d_M_readLine_17 : decode prog_14_method_33_code 17 = .ok (.iload_n 1, 1) := by decide +kernel
theorem d_M_readLine_18 : decode prog_14_method_33_code 18 = .ok (.iconst 1, 1) := by decide +kernel
theorem d_M_readLine_19 : decode prog_14_method_33_code 19 = .ok (.iadd, 1) := by decide +kernel
theorem d_M_readLine_20 : decode prog_14_method_33_code 20 = .ok (.iload_n 2, 1) := by decide +kernel
theorem d_M_readLine_21 : decode prog_14_method_33_code 21 = .ok (.invokevirtual 301, 3) := by decide +kernel
theorem d_M_readLine_24 : decode prog_14_method_33_code 24 = .ok (.ireturn, 1) := by decide +kernel
theorem d_M_readLine_25 : decode prog_14_method_33_code 25 = .ok (.iload_n 1, 1) := by decide +kernel
theorem d_M_readLine_26 : decode prog_14_method_33_code 26 = .ok (.istore_n 3, 1) := by decide +kernel
theorem d_M_readLine_27 : decode prog_14_method_33_code 27 = .ok (.iload_n 3, 1) := by decide +kernel
theorem d_M_readLine_28 : decode prog_14_method_33_code 28 = .ok (.iload_n 2, 1) := by decide +kernel
theorem d_M_readLine_29 : decode prog_14_method_33_code 29 = .ok (.if_icmp .ge 20, 3) := by decide +kernel
theorem d_M_readLine_32 : decode prog_14_method_33_code 32 = .ok (.aload_n 0, 1) := by decide +kernel
theorem d_M_readLine_33 : decode prog_14_method_33_code 33 = .ok (.getfield 45, 3) := by decide +kernel
theorem d_M_readLine_36 : decode prog_14_method_33_code 36 = .ok (.iload_n 3, 1) := by decide +kernel
theorem d_M_readLine_37 : decode prog_14_method_33_code 37 = .ok (.iaload, 1) := by decide +kernel
theorem d_M_readLine_38 : decode prog_14_method_33_code 38 = .ok (.bipush 35, 2) := by decide +kernel
theorem d_M_readLine_40 : decode prog_14_method_33_code 40 = .ok (.if_icmp .eq 9, 3) := by decide +kernel
theorem d_M_readLine_43 : decode prog_14_method_33_code 43 = .ok (.iinc 3 1, 3) := by decide +kernel
theorem d_M_readLine_46 : decode prog_14_method_33_code 46 = .ok (.goto (-19), 3) := by decide +kernel
theorem d_M_readLine_49 : decode prog_14_method_33_code 49 = .ok (.iload_n 1, 1) := by decide +kernel
theorem d_M_readLine_50 : decode prog_14_method_33_code 50 = .ok (.istore 4, 2) := by decide +kernel
theorem d_M_readLine_52 : decode prog_14_method_33_code 52 = .ok (.iload 4, 2) := by decide +kernel
theorem d_M_readLine_54 : decode prog_14_method_33_code 54 = .ok (.iload_n 3, 1) := by decide +kernel
theorem d_M_readLine_55 : decode prog_14_method_33_code 55 = .ok (.if_icmp .ge 21, 3) := by decide +kernel
theorem d_M_readLine_58 : decode prog_14_method_33_code 58 = .ok (.aload_n 0, 1) := by decide +kernel
theorem d_M_readLine_59 : decode prog_14_method_33_code 59 = .ok (.getfield 45, 3) := by decide +kernel
theorem d_M_readLine_62 : decode prog_14_method_33_code 62 = .ok (.iload 4, 2) := by decide +kernel
theorem d_M_readLine_64 : decode prog_14_method_33_code 64 = .ok (.iaload, 1) := by decide +kernel
theorem d_M_readLine_65 : decode prog_14_method_33_code 65 = .ok (.bipush 32, 2) := by decide +kernel
theorem d_M_readLine_67 : decode prog_14_method_33_code 67 = .ok (.if_icmp .ne 9, 3) := by decide +kernel
theorem d_M_readLine_70 : decode prog_14_method_33_code 70 = .ok (.iinc 4 1, 3) := by decide +kernel
theorem d_M_readLine_73 : decode prog_14_method_33_code 73 = .ok (.goto (-21), 3) := by decide +kernel
theorem d_M_readLine_76 : decode prog_14_method_33_code 76 = .ok (.iload_n 3, 1) := by decide +kernel
theorem d_M_readLine_77 : decode prog_14_method_33_code 77 = .ok (.iload 4, 2) := by decide +kernel
theorem d_M_readLine_79 : decode prog_14_method_33_code 79 = .ok (.if_icmp .le 22, 3) := by decide +kernel
theorem d_M_readLine_82 : decode prog_14_method_33_code 82 = .ok (.aload_n 0, 1) := by decide +kernel
theorem d_M_readLine_83 : decode prog_14_method_33_code 83 = .ok (.getfield 45, 3) := by decide +kernel
theorem d_M_readLine_86 : decode prog_14_method_33_code 86 = .ok (.iload_n 3, 1) := by decide +kernel
theorem d_M_readLine_87 : decode prog_14_method_33_code 87 = .ok (.iconst 1, 1) := by decide +kernel
theorem d_M_readLine_88 : decode prog_14_method_33_code 88 = .ok (.isub, 1) := by decide +kernel
theorem d_M_readLine_89 : decode prog_14_method_33_code 89 = .ok (.iaload, 1) := by decide +kernel
theorem d_M_readLine_90 : decode prog_14_method_33_code 90 = .ok (.bipush 32, 2) := by decide +kernel
theorem d_M_readLine_92 : decode prog_14_method_33_code 92 = .ok (.if_icmp .ne 9, 3) := by decide +kernel
theorem d_M_readLine_95 : decode prog_14_method_33_code 95 = .ok (.iinc 3 (-1), 3) := by decide +kernel
theorem d_M_readLine_98 : decode prog_14_method_33_code 98 = .ok (.goto (-22), 3) := by decide +kernel
theorem d_M_readLine_101 : decode prog_14_method_33_code 101 = .ok (.iload 4, 2) := by decide +kernel
theorem d_M_readLine_103 : decode prog_14_method_33_code 103 = .ok (.iload_n 3, 1) := by decide +kernel
theorem d_M_readLine_104 : decode prog_14_method_33_code 104 = .ok (.if_icmp .ne 5, 3) := by decide +kernel
theorem d_M_readLine_107 : decode prog_14_method_33_code 107 = .ok (.iconst 1, 1) := by decide +kernel
theorem d_M_readLine_108 : decode prog_14_method_33_code 108 = .ok (.ireturn, 1) := by decide +kernel
theorem d_M_readLine_109 : decode prog_14_method_33_code 109 = .ok (.aload_n 0, 1) := by decide +kernel
theorem d_M_readLine_110 : decode prog_14_method_33_code 110 = .ok (.getfield 45, 3) := by decide +kernel
theorem d_M_readLine_113 : decode prog_14_method_33_code 113 = .ok (.iload 4, 2) := by decide +kernel
theorem d_M_readLine_115 : decode prog_14_method_33_code 115 = .ok (.iaload, 1) := by decide +kernel
theorem d_M_readLine_116 : decode prog_14_method_33_code 116 = .ok (.invokestatic 163, 3) := by decide +kernel
theorem d_M_readLine_119 : decode prog_14_method_33_code 119 = .ok (.ifCond .eq 94, 3) := by decide +kernel
theorem d_M_readLine_122 : decode prog_14_method_33_code 122 = .ok (.iload 4, 2) := by decide +kernel
theorem d_M_readLine_124 : decode prog_14_method_33_code 124 = .ok (.iconst 1, 1) := by decide +kernel
theorem d_M_readLine_125 : decode prog_14_method_33_code 125 = .ok (.iadd, 1) := by decide +kernel
theorem d_M_readLine_126 : decode prog_14_method_33_code 126 = .ok (.iload_n 3, 1) := by decide +kernel
theorem d_M_readLine_127 : decode prog_14_method_33_code 127 = .ok (.if_icmp .ge 86, 3) := by decide +kernel
theorem d_M_readLine_130 : decode prog_14_method_33_code 130 = .ok (.aload_n 0, 1) := by decide +kernel
theorem d_M_readLine_131 : decode prog_14_method_33_code 131 = .ok (.getfield 45, 3) := by decide +kernel
theorem d_M_readLine_134 : decode prog_14_method_33_code 134 = .ok (.iload 4, 2) := by decide +kernel
theorem d_M_readLine_136 : decode prog_14_method_33_code 136 = .ok (.iconst 1, 1) := by decide +kernel
theorem d_M_readLine_137 : decode prog_14_method_33_code 137 = .ok (.iadd, 1) := by decide +kernel
theorem d_M_readLine_138 : decode prog_14_method_33_code 138 = .ok (.iaload, 1) := by decide +kernel
theorem d_M_readLine_139 : decode prog_14_method_33_code 139 = .ok (.bipush 61, 2) := by decide +kernel
theorem d_M_readLine_141 : decode prog_14_method_33_code 141 = .ok (.if_icmp .ne 72, 3) := by decide +kernel
theorem d_M_readLine_144 : decode prog_14_method_33_code 144 = .ok (.aload_n 0, 1) := by decide +kernel
theorem d_M_readLine_145 : decode prog_14_method_33_code 145 = .ok (.getfield 45, 3) := by decide +kernel
theorem d_M_readLine_148 : decode prog_14_method_33_code 148 = .ok (.iload 4, 2) := by decide +kernel
theorem d_M_readLine_150 : decode prog_14_method_33_code 150 = .ok (.iaload, 1) := by decide +kernel
theorem d_M_readLine_151 : decode prog_14_method_33_code 151 = .ok (.bipush 65, 2) := by decide +kernel
theorem d_M_readLine_153 : decode prog_14_method_33_code 153 = .ok (.isub, 1) := by decide +kernel
theorem d_M_readLine_154 : decode prog_14_method_33_code 154 = .ok (.istore 5, 2) := by decide +kernel
theorem d_M_readLine_156 : decode prog_14_method_33_code 156 = .ok (.iload 4, 2) := by decide +kernel
theorem d_M_readLine_158 : decode prog_14_method_33_code 158 = .ok (.iconst 2, 1) := by decide +kernel
theorem d_M_readLine_159 : decode prog_14_method_33_code 159 = .ok (.iadd, 1) := by decide +kernel
theorem d_M_readLine_160 : decode prog_14_method_33_code 160 = .ok (.istore 6, 2) := by decide +kernel
theorem d_M_readLine_162 : decode prog_14_method_33_code 162 = .ok (.iload 6, 2) := by decide +kernel
theorem d_M_readLine_164 : decode prog_14_method_33_code 164 = .ok (.iload_n 3, 1) := by decide +kernel
theorem d_M_readLine_165 : decode prog_14_method_33_code 165 = .ok (.if_icmp .ge 21, 3) := by decide +kernel
theorem d_M_readLine_168 : decode prog_14_method_33_code 168 = .ok (.aload_n 0, 1) := by decide +kernel
theorem d_M_readLine_169 : decode prog_14_method_33_code 169 = .ok (.getfield 45, 3) := by decide +kernel
theorem d_M_readLine_172 : decode prog_14_method_33_code 172 = .ok (.iload 6, 2) := by decide +kernel
theorem d_M_readLine_174 : decode prog_14_method_33_code 174 = .ok (.iaload, 1) := by decide +kernel
theorem d_M_readLine_175 : decode prog_14_method_33_code 175 = .ok (.bipush 32, 2) := by decide +kernel
theorem d_M_readLine_177 : decode prog_14_method_33_code 177 = .ok (.if_icmp .ne 9, 3) := by decide +kernel
theorem d_M_readLine_180 : decode prog_14_method_33_code 180 = .ok (.iinc 6 1, 3) := by decide +kernel
theorem d_M_readLine_183 : decode prog_14_method_33_code 183 = .ok (.goto (-21), 3) := by decide +kernel
theorem d_M_readLine_186 : decode prog_14_method_33_code 186 = .ok (.aload_n 0, 1) := by decide +kernel
theorem d_M_readLine_187 : decode prog_14_method_33_code 187 = .ok (.getfield 36, 3) := by decide +kernel
theorem d_M_readLine_190 : decode prog_14_method_33_code 190 = .ok (.iload 5, 2) := by decide +kernel
theorem d_M_readLine_192 : decode prog_14_method_33_code 192 = .ok (.iconst 1, 1) := by decide +kernel
theorem d_M_readLine_193 : decode prog_14_method_33_code 193 = .ok (.bastore, 1) := by decide +kernel
theorem d_M_readLine_194 : decode prog_14_method_33_code 194 = .ok (.aload_n 0, 1) := by decide +kernel
theorem d_M_readLine_195 : decode prog_14_method_33_code 195 = .ok (.getfield 39, 3) := by decide +kernel
theorem d_M_readLine_198 : decode prog_14_method_33_code 198 = .ok (.iload 5, 2) := by decide +kernel
theorem d_M_readLine_200 : decode prog_14_method_33_code 200 = .ok (.iload 6, 2) := by decide +kernel
theorem d_M_readLine_202 : decode prog_14_method_33_code 202 = .ok (.iastore, 1) := by decide +kernel
theorem d_M_readLine_203 : decode prog_14_method_33_code 203 = .ok (.aload_n 0, 1) := by decide +kernel
theorem d_M_readLine_204 : decode prog_14_method_33_code 204 = .ok (.getfield 42, 3) := by decide +kernel
theorem d_M_readLine_207 : decode prog_14_method_33_code 207 = .ok (.iload 5, 2) := by decide +kernel
theorem d_M_readLine_209 : decode prog_14_method_33_code 209 = .ok (.iload_n 3, 1) := by decide +kernel
theorem d_M_readLine_210 : decode prog_14_method_33_code 210 = .ok (.iastore, 1) := by decide +kernel
theorem d_M_readLine_211 : decode prog_14_method_33_code 211 = .ok (.iconst 1, 1) := by decide +kernel
theorem d_M_readLine_212 : decode prog_14_method_33_code 212 = .ok (.ireturn, 1) := by decide +kernel
theorem d_M_readLine_213 : decode prog_14_method_33_code 213 = .ok (.aload_n 0, 1) := by decide +kernel
theorem d_M_readLine_214 : decode prog_14_method_33_code 214 = .ok (.iload 4, 2) := by decide +kernel
theorem d_M_readLine_216 : decode prog_14_method_33_code 216 = .ok (.iload_n 3, 1) := by decide +kernel
theorem d_M_readLine_217 : decode prog_14_method_33_code 217 = .ok (.invokevirtual 304, 3) := by decide +kernel
theorem d_M_readLine_220 : decode prog_14_method_33_code 220 = .ok (.ireturn, 1) := by decide +kernel
noncomputable def f_M_readLine_j213 (r0 : Option Nat) (x3 : Int32) (x4 : Int32) (σ : rb_St) : Option rb_Rs :=
  (rb_fc σ r0 13).bind fun _ => rb_cI (f_M_ruleLine (r0) (x4) (x3) σ) fun x_5 σ_6 => if rb_isZ x_5 then some (some (.int x_5), σ_6) else none
theorem t_M_readLine_j213 {E : rb_EV} {d : Nat} {σ0 : rb_St} {res : rb_Rs} (hdd : 7 ≤ d)  (r0 : Option Nat) (x3 : Int32) (x4 : Int32) (σ : rb_St) : rb_TC (f_M_readLine_j213 r0 x3 x4 σ) (fun r => r = res) (rb_WK E k_M_readLine d σ0 res 213 [some (va_rf r0), none, none, some (.int x3), some (.int x4), none, none] [] σ) := by
  unfold f_M_readLine_j213
  refine rb_TC.mono (rk_aload_n 0 d_M_readLine_213 rfl rfl) ?_
  refine rb_TC.mono (rk_iload d_M_readLine_214 rfl) ?_
  refine rb_TC.mono (rk_iload_n 3 d_M_readLine_216 rfl rfl) ?_
  refine rt_vI (As := [.int x4, .int x3]) (st := []) (r0) vw_M_304 (s_M_ruleLine (Nat.le_refl _) (r0) (x4) (x3) σ) (Nat.le_trans (by decide) hdd) rfl (by simp [rb_cat_r, rb_cat_i, rb_cat_l]) d_M_readLine_217 (fun x_5 σ_6 => ?_)
  refine rb_TC.ite (fun hn => ?_) (fun _ => rb_TC.none)
  exact rt_iret (ty := .boolean) rfl (rb_nar_Z hn) (fun h => h) d_M_readLine_220
noncomputable def f_M_readLine_j186 (r0 : Option Nat) (x3 : Int32) (x5 : Int32) (x6 : Int32) (σ : rb_St) : Option rb_Rs :=
  (rb_gR σ r0 13 11).bind fun r_11 => (rb_sI σ r_11 104 x5 (1 : Int32)).bind fun σ_12 => (rb_gR σ_12 r0 13 12).bind fun r_13 => (rb_sI σ_12 r_13 102 x5 x6).bind fun σ_14 => (rb_gR σ_14 r0 13 13).bind fun r_15 => (rb_sI σ_14 r_15 102 x5 x3).bind fun σ_16 => some (some (.int (1 : Int32)), σ_16)
theorem t_M_readLine_j186 {E : rb_EV} {d : Nat} {σ0 : rb_St} {res : rb_Rs} (hdd : 7 ≤ d)  (r0 : Option Nat) (x3 : Int32) (x5 : Int32) (x6 : Int32) (σ : rb_St) : rb_TC (f_M_readLine_j186 r0 x3 x5 x6 σ) (fun r => r = res) (rb_WK E k_M_readLine d σ0 res 186 [some (va_rf r0), none, none, some (.int x3), none, some (.int x5), some (.int x6)] [] σ) := by
  unfold f_M_readLine_j186
  refine rb_TC.mono (rk_aload_n 0 d_M_readLine_186 rfl rfl) ?_
  refine rt_gR r0 fw_M_36 d_M_readLine_187 (fun r_11 => ?_)
  refine rb_TC.mono (rk_iload d_M_readLine_190 rfl) ?_
  refine rb_TC.mono (rk_iconst (1 : Int32) d_M_readLine_192 (by decide)) ?_
  refine rt_zast r_11 d_M_readLine_193 (fun σ_12 => ?_)
  refine rb_TC.mono (rk_aload_n 0 d_M_readLine_194 rfl rfl) ?_
  refine rt_gR r0 fw_M_39 d_M_readLine_195 (fun r_13 => ?_)
  refine rb_TC.mono (rk_iload d_M_readLine_198 rfl) ?_
  refine rb_TC.mono (rk_iload d_M_readLine_200 rfl) ?_
  refine rt_iast r_13 d_M_readLine_202 (fun σ_14 => ?_)
  refine rb_TC.mono (rk_aload_n 0 d_M_readLine_203 rfl rfl) ?_
  refine rt_gR r0 fw_M_42 d_M_readLine_204 (fun r_15 => ?_)
  refine rb_TC.mono (rk_iload d_M_readLine_207 rfl) ?_
  refine rb_TC.mono (rk_iload_n 3 d_M_readLine_209 rfl rfl) ?_
  refine rt_iast r_15 d_M_readLine_210 (fun σ_16 => ?_)
  refine rb_TC.mono (rk_iconst (1 : Int32) d_M_readLine_211 (by decide)) ?_
  exact rt_iret (ty := .boolean) rfl (by decide) (fun h => h) d_M_readLine_212
noncomputable def f_M_readLine_b162 (r0 : Option Nat) (x3 : Int32) (x5 : Int32) (x6 : Int32) (σ : rb_St) : Option ((Int32) ⊕ rb_Rs) :=
  if x3 ≤ x6 then ((f_M_readLine_j186 (r0) (x3) (x5) (x6) σ).map Sum.inr) else ((rb_gR σ r0 13 14).bind fun r_17 => (rb_aI σ r_17 102 x6).bind fun x_18 => if x_18 = (32 : Int32) then (some (.inl (x6 + 1))) else ((f_M_readLine_j186 (r0) (x3) (x5) (x6) σ).map Sum.inr))
theorem t_M_readLine_b162 {E : rb_EV} {d : Nat} {σ0 : rb_St} {res : rb_Rs} (hdd : 7 ≤ d)  (r0 : Option Nat) (x3 : Int32) (x5 : Int32) (x6 : Int32) (σ : rb_St) : rb_TC (f_M_readLine_b162 r0 x3 x5 x6 σ) (Sum.elim (fun z : (Int32) => rb_WK E k_M_readLine d σ0 res 162 [some (va_rf r0), none, none, some (.int x3), none, some (.int x5), some (.int z)] [] σ) (fun r => r = res)) (rb_WK E k_M_readLine d σ0 res 162 [some (va_rf r0), none, none, some (.int x3), none, some (.int x5), some (.int x6)] [] σ) := by
  unfold f_M_readLine_b162
  refine rb_TC.mono (rk_iload d_M_readLine_162 rfl) ?_
  refine rb_TC.mono (rk_iload_n 3 d_M_readLine_164 rfl rfl) ?_
  refine rt_icmp_ge 186 d_M_readLine_165 (by decide) (fun _ => ?_) (fun _ => ?_)
  · refine rb_TC.out ?_
    exact t_M_readLine_j186 hdd  (r0) (x3) (x5) (x6) σ
  · refine rb_TC.mono (rk_aload_n 0 d_M_readLine_168 rfl rfl) ?_
    refine rt_gR r0 fw_M_45 d_M_readLine_169 (fun r_17 => ?_)
    refine rb_TC.mono (rk_iload d_M_readLine_172 rfl) ?_
    refine rt_iald r_17 d_M_readLine_174 (fun x_18 => ?_)
    refine rb_TC.mono (rk_bipush (32 : Int32) d_M_readLine_175 (by decide)) ?_
    refine rt_icmp_ne 186 d_M_readLine_177 (by decide) (fun _ => ?_) (fun _ => ?_)
    · refine rb_TC.mono (rk_iinc (lv2 := [some (va_rf r0), none, none, some (.int x3), none, some (.int x5), some (.int (x6 + 1))]) (x6 + 1) d_M_readLine_180 rfl rfl (by decide) (fun _ => rb_one_i) rfl) ?_
      refine rb_TC.mono (rk_goto 162 d_M_readLine_183 (by decide)) ?_
      exact rb_back
    · refine rb_TC.out ?_
      exact t_M_readLine_j186 hdd  (r0) (x3) (x5) (x6) σ
noncomputable def f_M_readLine_j101 (r0 : Option Nat) (x3 : Int32) (x4 : Int32) (σ : rb_St) : Option rb_Rs :=
  if x4 = x3 then (some (some (.int (1 : Int32)), σ)) else ((rb_gR σ r0 13 14).bind fun r_1 => (rb_aI σ r_1 102 x4).bind fun x_2 => rb_cI (f_M_capital (x_2) σ) fun x_3 σ_4 => if x_3 = 0 then (f_M_readLine_j213 (r0) (x3) (x4) σ_4) else (if x3 ≤ (x4 + (1 : Int32)) then (f_M_readLine_j213 (r0) (x3) (x4) σ_4) else ((rb_gR σ_4 r0 13 14).bind fun r_7 => (rb_aI σ_4 r_7 102 (x4 + (1 : Int32))).bind fun x_8 => if x_8 = (61 : Int32) then ((rb_gR σ_4 r0 13 14).bind fun r_9 => (rb_aI σ_4 r_9 102 x4).bind fun x_10 => rb_it (fun z : (Int32) => f_M_readLine_b162 (r0) (x3) ((x_10 - (65 : Int32))) (z) σ_4) (x4 + (2 : Int32))) else (f_M_readLine_j213 (r0) (x3) (x4) σ_4))))
theorem t_M_readLine_j101 {E : rb_EV} {d : Nat} {σ0 : rb_St} {res : rb_Rs} (hdd : 7 ≤ d)  (r0 : Option Nat) (x3 : Int32) (x4 : Int32) (σ : rb_St) : rb_TC (f_M_readLine_j101 r0 x3 x4 σ) (fun r => r = res) (rb_WK E k_M_readLine d σ0 res 101 [some (va_rf r0), none, none, some (.int x3), some (.int x4), none, none] [] σ) := by
  unfold f_M_readLine_j101
  refine rb_TC.mono (rk_iload d_M_readLine_101 rfl) ?_
  refine rb_TC.mono (rk_iload_n 3 d_M_readLine_103 rfl rfl) ?_
  refine rt_icmp_ne 109 d_M_readLine_104 (by decide) (fun _ => ?_) (fun _ => ?_)
  · refine rb_TC.mono (rk_iconst (1 : Int32) d_M_readLine_107 (by decide)) ?_
    exact rt_iret (ty := .boolean) rfl (by decide) (fun h => h) d_M_readLine_108
  · refine rb_TC.mono (rk_aload_n 0 d_M_readLine_109 rfl rfl) ?_
    refine rt_gR r0 fw_M_45 d_M_readLine_110 (fun r_1 => ?_)
    refine rb_TC.mono (rk_iload d_M_readLine_113 rfl) ?_
    refine rt_iald r_1 d_M_readLine_115 (fun x_2 => ?_)
    refine rt_sI (As := [.int x_2]) (st := []) sw_M_163 (s_M_capital (Nat.le_refl _) (x_2) σ) (Nat.le_trans (by decide) hdd) rfl (by simp [rb_cat_r, rb_cat_i, rb_cat_l]) d_M_readLine_116 (fun x_3 σ_4 => ?_)
    refine rt_if_eq 213 d_M_readLine_119 (by decide) (fun _ => ?_) (fun _ => ?_)
    · exact t_M_readLine_j213 hdd  (r0) (x3) (x4) σ_4
    · refine rb_TC.mono (rk_iload d_M_readLine_122 rfl) ?_
      refine rb_TC.mono (rk_iconst (1 : Int32) d_M_readLine_124 (by decide)) ?_
      refine rb_TC.mono (rk_iadd d_M_readLine_125) ?_
      refine rb_TC.mono (rk_iload_n 3 d_M_readLine_126 rfl rfl) ?_
      refine rt_icmp_ge 213 d_M_readLine_127 (by decide) (fun _ => ?_) (fun _ => ?_)
      · exact t_M_readLine_j213 hdd  (r0) (x3) (x4) σ_4
      · refine rb_TC.mono (rk_aload_n 0 d_M_readLine_130 rfl rfl) ?_
        refine rt_gR r0 fw_M_45 d_M_readLine_131 (fun r_7 => ?_)
        refine rb_TC.mono (rk_iload d_M_readLine_134 rfl) ?_
        refine rb_TC.mono (rk_iconst (1 : Int32) d_M_readLine_136 (by decide)) ?_
        refine rb_TC.mono (rk_iadd d_M_readLine_137) ?_
        refine rt_iald r_7 d_M_readLine_138 (fun x_8 => ?_)
        refine rb_TC.mono (rk_bipush (61 : Int32) d_M_readLine_139 (by decide)) ?_
        refine rt_icmp_ne 213 d_M_readLine_141 (by decide) (fun _ => ?_) (fun _ => ?_)
        · refine rb_TC.mono (rk_aload_n 0 d_M_readLine_144 rfl rfl) ?_
          refine rt_gR r0 fw_M_45 d_M_readLine_145 (fun r_9 => ?_)
          refine rb_TC.mono (rk_iload d_M_readLine_148 rfl) ?_
          refine rt_iald r_9 d_M_readLine_150 (fun x_10 => ?_)
          refine rb_TC.mono (rk_bipush (65 : Int32) d_M_readLine_151 (by decide)) ?_
          refine rb_TC.mono (rk_isub d_M_readLine_153) ?_
          refine rb_TC.mono (rk_istore (lv2 := [some (va_rf r0), none, none, some (.int x3), some (.int x4), some (.int (x_10 - (65 : Int32))), none]) d_M_readLine_154 (by decide) (fun _ => rb_one_i) rfl) ?_
          refine rb_TC.mono (rk_iload d_M_readLine_156 rfl) ?_
          refine rb_TC.mono (rk_iconst (2 : Int32) d_M_readLine_158 (by decide)) ?_
          refine rb_TC.mono (rk_iadd d_M_readLine_159) ?_
          refine rb_TC.mono (rk_istore (lv2 := [some (va_rf r0), none, none, some (.int x3), some (.int x4), some (.int (x_10 - (65 : Int32))), some (.int (x4 + (2 : Int32)))]) d_M_readLine_160 (by decide) (fun _ => rb_one_i) rfl) ?_
          refine rb_TC.mono (rk_less (lv2 := [some (va_rf r0), none, none, some (.int x3), none, some (.int (x_10 - (65 : Int32))), some (.int (x4 + (2 : Int32)))]) (rb_le_ok (rb_leS (rb_leN (rb_leN (rb_leS (rb_leN (rb_leS (rb_leS rb_le0))))))))) ?_
          exact rb_TC.loop2 (A := (fun z : (Int32) => rb_WK E k_M_readLine d σ0 res 162 [some (va_rf r0), none, none, some (.int x3), none, some (.int (x_10 - (65 : Int32))), some (.int z)] [] σ_4)) (x4 + (2 : Int32)) (fun z => t_M_readLine_b162 hdd  (r0) (x3) ((x_10 - (65 : Int32))) (z) σ_4)
        · exact t_M_readLine_j213 hdd  (r0) (x3) (x4) σ_4
noncomputable def f_M_readLine_b76 (r0 : Option Nat) (x3 : Int32) (x4 : Int32) (σ : rb_St) : Option ((Int32) ⊕ rb_Rs) :=
  if x3 ≤ x4 then ((f_M_readLine_j101 (r0) (x3) (x4) σ).map Sum.inr) else ((rb_gR σ r0 13 14).bind fun r_19 => (rb_aI σ r_19 102 (x3 - (1 : Int32))).bind fun x_20 => if x_20 = (32 : Int32) then (some (.inl (x3 + (-1)))) else ((f_M_readLine_j101 (r0) (x3) (x4) σ).map Sum.inr))
theorem t_M_readLine_b76 {E : rb_EV} {d : Nat} {σ0 : rb_St} {res : rb_Rs} (hdd : 7 ≤ d)  (r0 : Option Nat) (x3 : Int32) (x4 : Int32) (σ : rb_St) : rb_TC (f_M_readLine_b76 r0 x3 x4 σ) (Sum.elim (fun z : (Int32) => rb_WK E k_M_readLine d σ0 res 76 [some (va_rf r0), none, none, some (.int z), some (.int x4), none, none] [] σ) (fun r => r = res)) (rb_WK E k_M_readLine d σ0 res 76 [some (va_rf r0), none, none, some (.int x3), some (.int x4), none, none] [] σ) := by
  unfold f_M_readLine_b76
  refine rb_TC.mono (rk_iload_n 3 d_M_readLine_76 rfl rfl) ?_
  refine rb_TC.mono (rk_iload d_M_readLine_77 rfl) ?_
  refine rt_icmp_le 101 d_M_readLine_79 (by decide) (fun _ => ?_) (fun _ => ?_)
  · refine rb_TC.out ?_
    exact t_M_readLine_j101 hdd  (r0) (x3) (x4) σ
  · refine rb_TC.mono (rk_aload_n 0 d_M_readLine_82 rfl rfl) ?_
    refine rt_gR r0 fw_M_45 d_M_readLine_83 (fun r_19 => ?_)
    refine rb_TC.mono (rk_iload_n 3 d_M_readLine_86 rfl rfl) ?_
    refine rb_TC.mono (rk_iconst (1 : Int32) d_M_readLine_87 (by decide)) ?_
    refine rb_TC.mono (rk_isub d_M_readLine_88) ?_
    refine rt_iald r_19 d_M_readLine_89 (fun x_20 => ?_)
    refine rb_TC.mono (rk_bipush (32 : Int32) d_M_readLine_90 (by decide)) ?_
    refine rt_icmp_ne 101 d_M_readLine_92 (by decide) (fun _ => ?_) (fun _ => ?_)
    · refine rb_TC.mono (rk_iinc (lv2 := [some (va_rf r0), none, none, some (.int (x3 + (-1))), some (.int x4), none, none]) (x3 + (-1)) d_M_readLine_95 rfl rfl (by decide) (fun _ => rb_one_n) rfl) ?_
      refine rb_TC.mono (rk_goto 76 d_M_readLine_98 (by decide)) ?_
      exact rb_back
    · refine rb_TC.out ?_
      exact t_M_readLine_j101 hdd  (r0) (x3) (x4) σ
noncomputable def f_M_readLine_b52 (r0 : Option Nat) (x3 : Int32) (x4 : Int32) (σ : rb_St) : Option ((Int32) ⊕ rb_Rs) :=
  if x3 ≤ x4 then ((rb_it (fun z : (Int32) => f_M_readLine_b76 (r0) (z) (x4) σ) x3).map Sum.inr) else ((rb_gR σ r0 13 14).bind fun r_21 => (rb_aI σ r_21 102 x4).bind fun x_22 => if x_22 = (32 : Int32) then (some (.inl (x4 + 1))) else ((rb_it (fun z : (Int32) => f_M_readLine_b76 (r0) (z) (x4) σ) x3).map Sum.inr))
theorem t_M_readLine_b52 {E : rb_EV} {d : Nat} {σ0 : rb_St} {res : rb_Rs} (hdd : 7 ≤ d)  (r0 : Option Nat) (x3 : Int32) (x4 : Int32) (σ : rb_St) : rb_TC (f_M_readLine_b52 r0 x3 x4 σ) (Sum.elim (fun z : (Int32) => rb_WK E k_M_readLine d σ0 res 52 [some (va_rf r0), none, none, some (.int x3), some (.int z), none, none] [] σ) (fun r => r = res)) (rb_WK E k_M_readLine d σ0 res 52 [some (va_rf r0), none, none, some (.int x3), some (.int x4), none, none] [] σ) := by
  unfold f_M_readLine_b52
  refine rb_TC.mono (rk_iload d_M_readLine_52 rfl) ?_
  refine rb_TC.mono (rk_iload_n 3 d_M_readLine_54 rfl rfl) ?_
  refine rt_icmp_ge 76 d_M_readLine_55 (by decide) (fun _ => ?_) (fun _ => ?_)
  · refine rb_TC.out ?_
    exact rb_TC.loop2 (A := (fun z : (Int32) => rb_WK E k_M_readLine d σ0 res 76 [some (va_rf r0), none, none, some (.int z), some (.int x4), none, none] [] σ)) x3 (fun z => t_M_readLine_b76 hdd  (r0) (z) (x4) σ)
  · refine rb_TC.mono (rk_aload_n 0 d_M_readLine_58 rfl rfl) ?_
    refine rt_gR r0 fw_M_45 d_M_readLine_59 (fun r_21 => ?_)
    refine rb_TC.mono (rk_iload d_M_readLine_62 rfl) ?_
    refine rt_iald r_21 d_M_readLine_64 (fun x_22 => ?_)
    refine rb_TC.mono (rk_bipush (32 : Int32) d_M_readLine_65 (by decide)) ?_
    refine rt_icmp_ne 76 d_M_readLine_67 (by decide) (fun _ => ?_) (fun _ => ?_)
    · refine rb_TC.mono (rk_iinc (lv2 := [some (va_rf r0), none, none, some (.int x3), some (.int (x4 + 1)), none, none]) (x4 + 1) d_M_readLine_70 rfl rfl (by decide) (fun _ => rb_one_i) rfl) ?_
      refine rb_TC.mono (rk_goto 52 d_M_readLine_73 (by decide)) ?_
      exact rb_back
    · refine rb_TC.out ?_
      exact rb_TC.loop2 (A := (fun z : (Int32) => rb_WK E k_M_readLine d σ0 res 76 [some (va_rf r0), none, none, some (.int z), some (.int x4), none, none] [] σ)) x3 (fun z => t_M_readLine_b76 hdd  (r0) (z) (x4) σ)
noncomputable def f_M_readLine_j49 (r0 : Option Nat) (x1 : Int32) (x3 : Int32) (σ : rb_St) : Option rb_Rs :=
  rb_it (fun z : (Int32) => f_M_readLine_b52 (r0) (x3) (z) σ) x1
theorem t_M_readLine_j49 {E : rb_EV} {d : Nat} {σ0 : rb_St} {res : rb_Rs} (hdd : 7 ≤ d)  (r0 : Option Nat) (x1 : Int32) (x3 : Int32) (σ : rb_St) : rb_TC (f_M_readLine_j49 r0 x1 x3 σ) (fun r => r = res) (rb_WK E k_M_readLine d σ0 res 49 [some (va_rf r0), some (.int x1), none, some (.int x3), none, none, none] [] σ) := by
  unfold f_M_readLine_j49
  refine rb_TC.mono (rk_iload_n 1 d_M_readLine_49 rfl rfl) ?_
  refine rb_TC.mono (rk_istore (lv2 := [some (va_rf r0), some (.int x1), none, some (.int x3), some (.int x1), none, none]) d_M_readLine_50 (by decide) (fun _ => rb_one_i) rfl) ?_
  refine rb_TC.mono (rk_less (lv2 := [some (va_rf r0), none, none, some (.int x3), some (.int x1), none, none]) (rb_le_ok (rb_leS (rb_leN (rb_leN (rb_leS (rb_leS (rb_leN (rb_leN rb_le0))))))))) ?_
  exact rb_TC.loop2 (A := (fun z : (Int32) => rb_WK E k_M_readLine d σ0 res 52 [some (va_rf r0), none, none, some (.int x3), some (.int z), none, none] [] σ)) x1 (fun z => t_M_readLine_b52 hdd  (r0) (x3) (z) σ)
noncomputable def f_M_readLine_b27 (r0 : Option Nat) (x1 : Int32) (x2 : Int32) (x3 : Int32) (σ : rb_St) : Option ((Int32) ⊕ rb_Rs) :=
  if x2 ≤ x3 then ((f_M_readLine_j49 (r0) (x1) (x3) σ).map Sum.inr) else ((rb_gR σ r0 13 14).bind fun r_23 => (rb_aI σ r_23 102 x3).bind fun x_24 => if x_24 = (35 : Int32) then ((f_M_readLine_j49 (r0) (x1) (x3) σ).map Sum.inr) else (some (.inl (x3 + 1))))
theorem t_M_readLine_b27 {E : rb_EV} {d : Nat} {σ0 : rb_St} {res : rb_Rs} (hdd : 7 ≤ d)  (r0 : Option Nat) (x1 : Int32) (x2 : Int32) (x3 : Int32) (σ : rb_St) : rb_TC (f_M_readLine_b27 r0 x1 x2 x3 σ) (Sum.elim (fun z : (Int32) => rb_WK E k_M_readLine d σ0 res 27 [some (va_rf r0), some (.int x1), some (.int x2), some (.int z), none, none, none] [] σ) (fun r => r = res)) (rb_WK E k_M_readLine d σ0 res 27 [some (va_rf r0), some (.int x1), some (.int x2), some (.int x3), none, none, none] [] σ) := by
  unfold f_M_readLine_b27
  refine rb_TC.mono (rk_iload_n 3 d_M_readLine_27 rfl rfl) ?_
  refine rb_TC.mono (rk_iload_n 2 d_M_readLine_28 rfl rfl) ?_
  refine rt_icmp_ge 49 d_M_readLine_29 (by decide) (fun _ => ?_) (fun _ => ?_)
  · refine rb_TC.out ?_
    refine rb_TC.mono (rk_less (lv2 := [some (va_rf r0), some (.int x1), none, some (.int x3), none, none, none]) (rb_le_ok (rb_leS (rb_leS (rb_leN (rb_leS (rb_leN (rb_leN (rb_leN rb_le0))))))))) ?_
    exact t_M_readLine_j49 hdd  (r0) (x1) (x3) σ
  · refine rb_TC.mono (rk_aload_n 0 d_M_readLine_32 rfl rfl) ?_
    refine rt_gR r0 fw_M_45 d_M_readLine_33 (fun r_23 => ?_)
    refine rb_TC.mono (rk_iload_n 3 d_M_readLine_36 rfl rfl) ?_
    refine rt_iald r_23 d_M_readLine_37 (fun x_24 => ?_)
    refine rb_TC.mono (rk_bipush (35 : Int32) d_M_readLine_38 (by decide)) ?_
    refine rt_icmp_eq 49 d_M_readLine_40 (by decide) (fun _ => ?_) (fun _ => ?_)
    · refine rb_TC.out ?_
      refine rb_TC.mono (rk_less (lv2 := [some (va_rf r0), some (.int x1), none, some (.int x3), none, none, none]) (rb_le_ok (rb_leS (rb_leS (rb_leN (rb_leS (rb_leN (rb_leN (rb_leN rb_le0))))))))) ?_
      exact t_M_readLine_j49 hdd  (r0) (x1) (x3) σ
    · refine rb_TC.mono (rk_iinc (lv2 := [some (va_rf r0), some (.int x1), some (.int x2), some (.int (x3 + 1)), none, none, none]) (x3 + 1) d_M_readLine_43 rfl rfl (by decide) (fun _ => rb_one_i) rfl) ?_
      refine rb_TC.mono (rk_goto 27 d_M_readLine_46 (by decide)) ?_
      exact rb_back
noncomputable def f_M_readLine (r0 : Option Nat) (x1 : Int32) (x2 : Int32) (σ : rb_St) : Option rb_Rs :=
  if x2 ≤ x1 then (rb_it (fun z : (Int32) => f_M_readLine_b27 (r0) (x1) (x2) (z) σ) x1) else ((rb_gR σ r0 13 14).bind fun r_25 => (rb_aI σ r_25 102 x1).bind fun x_26 => if x_26 = (9 : Int32) then ((rb_fc σ r0 13).bind fun _ => rb_cI (f_M_command (r0) ((x1 + (1 : Int32))) (x2) σ) fun x_27 σ_28 => if rb_isZ x_27 then some (some (.int x_27), σ_28) else none) else (rb_it (fun z : (Int32) => f_M_readLine_b27 (r0) (x1) (x2) (z) σ) x1))
theorem s_M_readLine {E : rb_EV} {d : Nat} (hdd : 7 ≤ d) (r0 : Option Nat) (x1 : Int32) (x2 : Int32) (σ : rb_St) : rb_Does E k_M_readLine d [va_rf r0, .int x1, .int x2] σ (f_M_readLine r0 x1 x2 σ) := by
  refine rb_start (lv := [some (va_rf r0), some (.int x1), some (.int x2), none, none, none, none]) (by decide) (by simp [lg_sl, rb_as, lv_args, rb_cat_r, rb_cat_i, rb_cat_l, rb_nL, k_M_readLine]) (fun res => ?_)
  unfold f_M_readLine
  refine rb_TC.mono (rk_iload_n 1 d_M_readLine_0 rfl rfl) ?_
  refine rb_TC.mono (rk_iload_n 2 d_M_readLine_1 rfl rfl) ?_
  refine rt_icmp_ge 25 d_M_readLine_2 (by decide) (fun _ => ?_) (fun _ => ?_)
  · refine rb_TC.mono (rk_iload_n 1 d_M_readLine_25 rfl rfl) ?_
    refine rb_TC.mono (rk_istore_n (lv2 := [some (va_rf r0), some (.int x1), some (.int x2), some (.int x1), none, none, none]) 3 d_M_readLine_26 rfl (by decide) (fun _ => rb_one_i) rfl) ?_
    exact rb_TC.loop2 (A := (fun z : (Int32) => rb_WK E k_M_readLine d σ res 27 [some (va_rf r0), some (.int x1), some (.int x2), some (.int z), none, none, none] [] σ)) x1 (fun z => t_M_readLine_b27 hdd  (r0) (x1) (x2) (z) σ)
  · refine rb_TC.mono (rk_aload_n 0 d_M_readLine_5 rfl rfl) ?_
    refine rt_gR r0 fw_M_45 d_M_readLine_6 (fun r_25 => ?_)
    refine rb_TC.mono (rk_iload_n 1 d_M_readLine_9 rfl rfl) ?_
    refine rt_iald r_25 d_M_readLine_10 (fun x_26 => ?_)
    refine rb_TC.mono (rk_bipush (9 : Int32) d_M_readLine_11 (by decide)) ?_
    refine rt_icmp_ne 25 d_M_readLine_13 (by decide) (fun _ => ?_) (fun _ => ?_)
    · refine rb_TC.mono (rk_aload_n 0 d_M_readLine_16 rfl rfl) ?_
      refine rb_TC.mono (rk_iload_n 1 d_M_readLine_17 rfl rfl) ?_
      refine rb_TC.mono (rk_iconst (1 : Int32) d_M_readLine_18 (by decide)) ?_
      refine rb_TC.mono (rk_iadd d_M_readLine_19) ?_
      refine rb_TC.mono (rk_iload_n 2 d_M_readLine_20 rfl rfl) ?_
      refine rt_vI (As := [.int (x1 + (1 : Int32)), .int x2]) (st := []) (r0) vw_M_301 (s_M_command (Nat.le_refl _) (r0) ((x1 + (1 : Int32))) (x2) σ) (Nat.le_trans (by decide) hdd) rfl (by simp [rb_cat_r, rb_cat_i, rb_cat_l]) d_M_readLine_21 (fun x_27 σ_28 => ?_)
      refine rb_TC.ite (fun hn => ?_) (fun _ => rb_TC.none)
      exact rt_iret (ty := .boolean) rfl (rb_nar_Z hn) (fun h => h) d_M_readLine_24
    · refine rb_TC.mono (rk_iload_n 1 d_M_readLine_25 rfl rfl) ?_
      refine rb_TC.mono (rk_istore_n (lv2 := [some (va_rf r0), some (.int x1), some (.int x2), some (.int x1), none, none, none]) 3 d_M_readLine_26 rfl (by decide) (fun _ => rb_one_i) rfl) ?_
      exact rb_TC.loop2 (A := (fun z : (Int32) => rb_WK E k_M_readLine d σ res 27 [some (va_rf r0), some (.int x1), some (.int x2), some (.int z), none, none, none] [] σ)) x1 (fun z => t_M_readLine_b27 hdd  (r0) (x1) (x2) (z) σ)
-- ===== RuleBuilderModel.load()I
def k_M_load : rb_MK := (⟨"RuleBuilderModel", "load", "()I"⟩, prog_14_method_32_code, 3, some (.int))
theorem mw_M_load : rb_Mw k_M_load 0 := ⟨rb_inG 1496 (by decide +kernel) rfl, rb_inG 94 (by decide +kernel) rfl, ⟨by decide, by decide, by decide +kernel⟩, by decide⟩
theorem vw_M_295 : rb_Vw "RuleBuilderModel" 295 k_M_copyText 13 0 := ⟨mw_M_copyText, rb_inG 1497 (by decide +kernel) rfl, rb_inG 1499 (by decide +kernel) rfl, rb_inG 40 (by decide +kernel) rfl, by decide, by decide, _, rfl, rfl⟩
theorem vw_M_298 : rb_Vw "RuleBuilderModel" 298 k_M_readLine 13 2 := ⟨mw_M_readLine, rb_inG 1501 (by decide +kernel) rfl, rb_inG 1503 (by decide +kernel) rfl, rb_inG 41 (by decide +kernel) rfl, by decide, by decide, _, rfl, rfl⟩
theorem d_M_load_0 : decode prog_14_method_32_code 0 = .ok (.aload_n 0, 1) := by decide +kernel
theorem d_M_load_1 : decode prog_14_method_32_code 1 = .ok (.invokevirtual 156, 3) := by decide +kernel
theorem d_M_load_4 : decode prog_14_method_32_code 4 = .ok (.aload_n 0, 1) := by decide +kernel
theorem d_M_load_5 : decode prog_14_method_32_code 5 = .ok (.invokevirtual 295, 3) := by decide +kernel
theorem d_M_load_8 : decode prog_14_method_32_code 8 = .ok (.iconst 0, 1) := by decide +kernel
theorem d_M_load_9 : decode prog_14_method_32_code 9 = .ok (.istore_n 1, 1) := by decide +kernel
theorem d_M_load_10 : decode prog_14_method_32_code 10 = .ok (.iload_n 1, 1) := by decide +kernel
theorem d_M_load_11 : decode prog_14_method_32_code 11 = .ok (.bipush 32, 2) := by decide +kernel
theorem d_M_load_13 : decode prog_14_method_32_code 13 = .ok (.if_icmp .ge 16, 3) := by decide +kernel
theorem d_M_load_16 : decode prog_14_method_32_code 16 = .ok (.aload_n 0, 1) := by decide +kernel
theorem d_M_load_17 : decode prog_14_method_32_code 17 = .ok (.getfield 123, 3) := by decide +kernel
theorem d_M_load_20 : decode prog_14_method_32_code 20 = .ok (.iload_n 1, 1) := by decide +kernel
theorem d_M_load_21 : decode prog_14_method_32_code 21 = .ok (.iconst 0, 1) := by decide +kernel
theorem d_M_load_22 : decode prog_14_method_32_code 22 = .ok (.iastore, 1) := by decide +kernel
theorem d_M_load_23 : decode prog_14_method_32_code 23 = .ok (.iinc 1 1, 3) := by decide +kernel
theorem d_M_load_26 : decode prog_14_method_32_code 26 = .ok (.goto (-16), 3) := by decide +kernel
theorem d_M_load_29 : decode prog_14_method_32_code 29 = .ok (.iconst 0, 1) := by decide +kernel
theorem d_M_load_30 : decode prog_14_method_32_code 30 = .ok (.istore_n 1, 1) := by decide +kernel
theorem d_M_load_31 : decode prog_14_method_32_code 31 = .ok (.iload_n 1, 1) := by decide +kernel
theorem d_M_load_32 : decode prog_14_method_32_code 32 = .ok (.aload_n 0, 1) := by decide +kernel
theorem d_M_load_33 : decode prog_14_method_32_code 33 = .ok (.getfield 292, 3) := by decide +kernel
theorem d_M_load_36 : decode prog_14_method_32_code 36 = .ok (.if_icmp .gt 60, 3) := by decide +kernel
theorem d_M_load_39 : decode prog_14_method_32_code 39 = .ok (.iload_n 1, 1) := by decide +kernel
theorem d_M_load_40 : decode prog_14_method_32_code 40 = .ok (.istore_n 2, 1) := by decide +kernel
theorem d_M_load_41 : decode prog_14_method_32_code 41 = .ok (.iload_n 2, 1) := by decide +kernel
theorem d_M_load_42 : decode prog_14_method_32_code 42 = .ok (.aload_n 0, 1) := by decide +kernel
theorem d_M_load_43 : decode prog_14_method_32_code 43 = .ok (.getfield 292, 3) := by decide +kernel
theorem d_M_load_46 : decode prog_14_method_32_code 46 = .ok (.if_icmp .ge 20, 3) := by decide +kernel
theorem d_M_load_49 : decode prog_14_method_32_code 49 = .ok (.aload_n 0, 1) := by decide +kernel
theorem d_M_load_50 : decode prog_14_method_32_code 50 = .ok (.getfield 45, 3) := by decide +kernel
theorem d_M_load_53 : decode prog_14_method_32_code 53 = .ok (.iload_n 2, 1) := by decide +kernel
theorem d_M_load_54 : decode prog_14_method_32_code 54 = .ok (.iaload, 1) := by decide +kernel
theorem d_M_load_55 : decode prog_14_method_32_code 55 = .ok (.bipush 10, 2) := by decide +kernel
theorem d_M_load_57 : decode prog_14_method_32_code 57 = .ok (.if_icmp .eq 9, 3) := by decide +kernel
theorem d_M_load_60 : decode prog_14_method_32_code 60 = .ok (.iinc 2 1, 3) := by decide +kernel
theorem d_M_load_63 : decode prog_14_method_32_code 63 = .ok (.goto (-22), 3) := by decide +kernel
theorem d_M_load_66 : decode prog_14_method_32_code 66 = .ok (.aload_n 0, 1) := by decide +kernel
theorem d_M_load_67 : decode prog_14_method_32_code 67 = .ok (.iload_n 1, 1) := by decide +kernel
theorem d_M_load_68 : decode prog_14_method_32_code 68 = .ok (.iload_n 2, 1) := by decide +kernel
theorem d_M_load_69 : decode prog_14_method_32_code 69 = .ok (.invokevirtual 298, 3) := by decide +kernel
theorem d_M_load_72 : decode prog_14_method_32_code 72 = .ok (.ifCond .ne 17, 3) := by decide +kernel
theorem d_M_load_75 : decode prog_14_method_32_code 75 = .ok (.aload_n 0, 1) := by decide +kernel
theorem d_M_load_76 : decode prog_14_method_32_code 76 = .ok (.invokevirtual 156, 3) := by decide +kernel
theorem d_M_load_79 : decode prog_14_method_32_code 79 = .ok (.aload_n 0, 1) := by decide +kernel
theorem d_M_load_80 : decode prog_14_method_32_code 80 = .ok (.getfield 48, 3) := by decide +kernel
theorem d_M_load_83 : decode prog_14_method_32_code 83 = .ok (.iload_n 1, 1) := by decide +kernel
theorem d_M_load_84 : decode prog_14_method_32_code 84 = .ok (.iaload, 1) := by decide +kernel
theorem d_M_load_85 : decode prog_14_method_32_code 85 = .ok (.ineg, 1) := by decide +kernel
theorem d_M_load_86 : decode prog_14_method_32_code 86 = .ok (.iconst 1, 1) := by decide +kernel
theorem d_M_load_87 : decode prog_14_method_32_code 87 = .ok (.isub, 1) := by decide +kernel
theorem d_M_load_88 : decode prog_14_method_32_code 88 = .ok (.ireturn, 1) := by decide +kernel
theorem d_M_load_89 : decode prog_14_method_32_code 89 = .ok (.iload_n 2, 1) := by decide +kernel
theorem d_M_load_90 : decode prog_14_method_32_code 90 = .ok (.iconst 1, 1) := by decide +kernel
theorem d_M_load_91 : decode prog_14_method_32_code 91 = .ok (.iadd, 1) := by decide +kernel
theorem d_M_load_92 : decode prog_14_method_32_code 92 = .ok (.istore_n 1, 1) := by decide +kernel
theorem d_M_load_93 : decode prog_14_method_32_code 93 = .ok (.goto (-62), 3) := by decide +kernel
theorem d_M_load_96 : decode prog_14_method_32_code 96 = .ok (.iconst 0, 1) := by decide +kernel
theorem d_M_load_97 : decode prog_14_method_32_code 97 = .ok (.ireturn, 1) := by decide +kernel
noncomputable def f_M_load_j66 (r0 : Option Nat) (x1 : Int32) (x2 : Int32) (σ : rb_St) : Option ((Int32 × rb_St) ⊕ rb_Rs) :=
  (rb_fc σ r0 13).bind fun _ => rb_cI (f_M_readLine (r0) (x1) (x2) σ) fun x_5 σ_6 => if x_5 = 0 then (((rb_fc σ_6 r0 13).bind fun _ => rb_cV (f_M_forget (r0)  σ_6) fun σ_7 => (rb_gR σ_7 r0 13 15).bind fun r_8 => (rb_aI σ_7 r_8 102 x1).bind fun x_9 => some (some (.int ((-x_9) - (1 : Int32))), σ_7)).map Sum.inr) else (some (.inl ((x2 + (1 : Int32)), σ_6)))
theorem t_M_load_j66 {E : rb_EV} {d : Nat} {σ0 : rb_St} {res : rb_Rs} (hdd : 8 ≤ d)  (r0 : Option Nat) (x1 : Int32) (x2 : Int32) (σ : rb_St) : rb_TC (f_M_load_j66 r0 x1 x2 σ) (Sum.elim (fun z : (Int32 × rb_St) => rb_WK E k_M_load d σ0 res 31 [some (va_rf r0), some (.int z.1), none] [] z.2) (fun r => r = res)) (rb_WK E k_M_load d σ0 res 66 [some (va_rf r0), some (.int x1), some (.int x2)] [] σ) := by
  unfold f_M_load_j66
  refine rb_TC.mono (rk_aload_n 0 d_M_load_66 rfl rfl) ?_
  refine rb_TC.mono (rk_iload_n 1 d_M_load_67 rfl rfl) ?_
  refine rb_TC.mono (rk_iload_n 2 d_M_load_68 rfl rfl) ?_
  refine rt_vI (As := [.int x1, .int x2]) (st := []) (r0) vw_M_298 (s_M_readLine (Nat.le_refl _) (r0) (x1) (x2) σ) (Nat.le_trans (by decide) hdd) rfl (by simp [rb_cat_r, rb_cat_i, rb_cat_l]) d_M_load_69 (fun x_5 σ_6 => ?_)
  refine rt_if_ne 89 d_M_load_72 (by decide) (fun _ => ?_) (fun _ => ?_)
  · refine rb_TC.out ?_
    refine rb_TC.mono (rk_aload_n 0 d_M_load_75 rfl rfl) ?_
    refine rt_vV (As := []) (st := []) (r0) vw_M_156 (s_M_forget (Nat.le_refl _) (r0)  σ_6) (Nat.le_trans (by decide) hdd) rfl (by simp [rb_cat_r, rb_cat_i, rb_cat_l]) d_M_load_76 (fun σ_7 => ?_)
    refine rb_TC.mono (rk_aload_n 0 d_M_load_79 rfl rfl) ?_
    refine rt_gR r0 fw_M_48 d_M_load_80 (fun r_8 => ?_)
    refine rb_TC.mono (rk_iload_n 1 d_M_load_83 rfl rfl) ?_
    refine rt_iald r_8 d_M_load_84 (fun x_9 => ?_)
    refine rb_TC.mono (rk_ineg d_M_load_85) ?_
    refine rb_TC.mono (rk_iconst (1 : Int32) d_M_load_86 (by decide)) ?_
    refine rb_TC.mono (rk_isub d_M_load_87) ?_
    exact rt_iret (ty := .int) rfl rfl (fun h => h) d_M_load_88
  · refine rb_TC.mono (rk_iload_n 2 d_M_load_89 rfl rfl) ?_
    refine rb_TC.mono (rk_iconst (1 : Int32) d_M_load_90 (by decide)) ?_
    refine rb_TC.mono (rk_iadd d_M_load_91) ?_
    refine rb_TC.mono (rk_istore_n (lv2 := [some (va_rf r0), some (.int (x2 + (1 : Int32))), some (.int x2)]) 1 d_M_load_92 rfl (by decide) (fun _ => rb_one_r) rfl) ?_
    refine rb_TC.mono (rk_goto 31 d_M_load_93 (by decide)) ?_
    refine rb_TC.mono (rk_less (lv2 := [some (va_rf r0), some (.int (x2 + (1 : Int32))), none]) (rb_le_ok (rb_leS (rb_leS (rb_leN rb_le0))))) ?_
    exact rb_back
noncomputable def f_M_load_b41 (r0 : Option Nat) (x1 : Int32) (x2 : Int32) (σ : rb_St) : Option ((Int32) ⊕ ((Int32 × rb_St) ⊕ rb_Rs)) :=
  (rb_gI σ r0 13 16).bind fun x_4 => if x_4 ≤ x2 then ((f_M_load_j66 (r0) (x1) (x2) σ).map Sum.inr) else ((rb_gR σ r0 13 14).bind fun r_10 => (rb_aI σ r_10 102 x2).bind fun x_11 => if x_11 = (10 : Int32) then ((f_M_load_j66 (r0) (x1) (x2) σ).map Sum.inr) else (some (.inl (x2 + 1))))
theorem t_M_load_b41 {E : rb_EV} {d : Nat} {σ0 : rb_St} {res : rb_Rs} (hdd : 8 ≤ d)  (r0 : Option Nat) (x1 : Int32) (x2 : Int32) (σ : rb_St) : rb_TC (f_M_load_b41 r0 x1 x2 σ) (Sum.elim (fun z : (Int32) => rb_WK E k_M_load d σ0 res 41 [some (va_rf r0), some (.int x1), some (.int z)] [] σ) (Sum.elim (fun z : (Int32 × rb_St) => rb_WK E k_M_load d σ0 res 31 [some (va_rf r0), some (.int z.1), none] [] z.2) (fun r => r = res))) (rb_WK E k_M_load d σ0 res 41 [some (va_rf r0), some (.int x1), some (.int x2)] [] σ) := by
  unfold f_M_load_b41
  refine rb_TC.mono (rk_iload_n 2 d_M_load_41 rfl rfl) ?_
  refine rb_TC.mono (rk_aload_n 0 d_M_load_42 rfl rfl) ?_
  refine rt_gI r0 fw_M_292 d_M_load_43 (fun x_4 => ?_)
  refine rt_icmp_ge 66 d_M_load_46 (by decide) (fun _ => ?_) (fun _ => ?_)
  · refine rb_TC.out ?_
    exact t_M_load_j66 hdd  (r0) (x1) (x2) σ
  · refine rb_TC.mono (rk_aload_n 0 d_M_load_49 rfl rfl) ?_
    refine rt_gR r0 fw_M_45 d_M_load_50 (fun r_10 => ?_)
    refine rb_TC.mono (rk_iload_n 2 d_M_load_53 rfl rfl) ?_
    refine rt_iald r_10 d_M_load_54 (fun x_11 => ?_)
    refine rb_TC.mono (rk_bipush (10 : Int32) d_M_load_55 (by decide)) ?_
    refine rt_icmp_eq 66 d_M_load_57 (by decide) (fun _ => ?_) (fun _ => ?_)
    · refine rb_TC.out ?_
      exact t_M_load_j66 hdd  (r0) (x1) (x2) σ
    · refine rb_TC.mono (rk_iinc (lv2 := [some (va_rf r0), some (.int x1), some (.int (x2 + 1))]) (x2 + 1) d_M_load_60 rfl rfl (by decide) (fun _ => rb_one_i) rfl) ?_
      refine rb_TC.mono (rk_goto 41 d_M_load_63 (by decide)) ?_
      exact rb_back
noncomputable def f_M_load_b31 (r0 : Option Nat) (x1 : Int32) (σ : rb_St) : Option ((Int32 × rb_St) ⊕ rb_Rs) :=
  (rb_gI σ r0 13 16).bind fun x_3 => if x_3 < x1 then ((some (some (.int (0 : Int32)), σ)).map Sum.inr) else (rb_it (fun z : (Int32) => f_M_load_b41 (r0) (x1) (z) σ) x1)
theorem t_M_load_b31 {E : rb_EV} {d : Nat} {σ0 : rb_St} {res : rb_Rs} (hdd : 8 ≤ d)  (r0 : Option Nat) (x1 : Int32) (σ : rb_St) : rb_TC (f_M_load_b31 r0 x1 σ) (Sum.elim (fun z : (Int32 × rb_St) => rb_WK E k_M_load d σ0 res 31 [some (va_rf r0), some (.int z.1), none] [] z.2) (fun r => r = res)) (rb_WK E k_M_load d σ0 res 31 [some (va_rf r0), some (.int x1), none] [] σ) := by
  unfold f_M_load_b31
  refine rb_TC.mono (rk_iload_n 1 d_M_load_31 rfl rfl) ?_
  refine rb_TC.mono (rk_aload_n 0 d_M_load_32 rfl rfl) ?_
  refine rt_gI r0 fw_M_292 d_M_load_33 (fun x_3 => ?_)
  refine rt_icmp_gt 96 d_M_load_36 (by decide) (fun _ => ?_) (fun _ => ?_)
  · refine rb_TC.out ?_
    refine rb_TC.mono (rk_iconst (0 : Int32) d_M_load_96 (by decide)) ?_
    exact rt_iret (ty := .int) rfl rfl (fun h => h) d_M_load_97
  · refine rb_TC.mono (rk_iload_n 1 d_M_load_39 rfl rfl) ?_
    refine rb_TC.mono (rk_istore_n (lv2 := [some (va_rf r0), some (.int x1), some (.int x1)]) 2 d_M_load_40 rfl (by decide) (fun _ => rb_one_i) rfl) ?_
    exact rb_TC.loop2 (A := (fun z : (Int32) => rb_WK E k_M_load d σ0 res 41 [some (va_rf r0), some (.int x1), some (.int z)] [] σ)) x1 (fun z => t_M_load_b41 hdd  (r0) (x1) (z) σ)
noncomputable def f_M_load_b10 (r0 : Option Nat) (x1 : Int32) (σ : rb_St) : Option ((Int32 × rb_St) ⊕ rb_Rs) :=
  if (32 : Int32) ≤ x1 then ((rb_it (fun z : (Int32 × rb_St) => f_M_load_b31 (r0) (z.1) z.2) ((0 : Int32), σ)).map Sum.inr) else ((rb_gR σ r0 13 57).bind fun r_12 => (rb_sI σ r_12 102 x1 (0 : Int32)).bind fun σ_13 => some (.inl ((x1 + 1), σ_13)))
theorem t_M_load_b10 {E : rb_EV} {d : Nat} {σ0 : rb_St} {res : rb_Rs} (hdd : 8 ≤ d)  (r0 : Option Nat) (x1 : Int32) (σ : rb_St) : rb_TC (f_M_load_b10 r0 x1 σ) (Sum.elim (fun z : (Int32 × rb_St) => rb_WK E k_M_load d σ0 res 10 [some (va_rf r0), some (.int z.1), none] [] z.2) (fun r => r = res)) (rb_WK E k_M_load d σ0 res 10 [some (va_rf r0), some (.int x1), none] [] σ) := by
  unfold f_M_load_b10
  refine rb_TC.mono (rk_iload_n 1 d_M_load_10 rfl rfl) ?_
  refine rb_TC.mono (rk_bipush (32 : Int32) d_M_load_11 (by decide)) ?_
  refine rt_icmp_ge 29 d_M_load_13 (by decide) (fun _ => ?_) (fun _ => ?_)
  · refine rb_TC.out ?_
    refine rb_TC.mono (rk_iconst (0 : Int32) d_M_load_29 (by decide)) ?_
    refine rb_TC.mono (rk_istore_n (lv2 := [some (va_rf r0), some (.int (0 : Int32)), none]) 1 d_M_load_30 rfl (by decide) (fun _ => rb_one_r) rfl) ?_
    exact rb_TC.loop2 (A := (fun z : (Int32 × rb_St) => rb_WK E k_M_load d σ0 res 31 [some (va_rf r0), some (.int z.1), none] [] z.2)) ((0 : Int32), σ) (fun z => t_M_load_b31 hdd  (r0) (z.1) z.2)
  · refine rb_TC.mono (rk_aload_n 0 d_M_load_16 rfl rfl) ?_
    refine rt_gR r0 fw_M_123 d_M_load_17 (fun r_12 => ?_)
    refine rb_TC.mono (rk_iload_n 1 d_M_load_20 rfl rfl) ?_
    refine rb_TC.mono (rk_iconst (0 : Int32) d_M_load_21 (by decide)) ?_
    refine rt_iast r_12 d_M_load_22 (fun σ_13 => ?_)
    refine rb_TC.mono (rk_iinc (lv2 := [some (va_rf r0), some (.int (x1 + 1)), none]) (x1 + 1) d_M_load_23 rfl rfl (by decide) (fun _ => rb_one_r) rfl) ?_
    refine rb_TC.mono (rk_goto 10 d_M_load_26 (by decide)) ?_
    exact rb_back
noncomputable def f_M_load (r0 : Option Nat) (σ : rb_St) : Option rb_Rs :=
  (rb_fc σ r0 13).bind fun _ => rb_cV (f_M_forget (r0)  σ) fun σ_1 => (rb_fc σ_1 r0 13).bind fun _ => rb_cV (f_M_copyText (r0)  σ_1) fun σ_2 => rb_it (fun z : (Int32 × rb_St) => f_M_load_b10 (r0) (z.1) z.2) ((0 : Int32), σ_2)
theorem s_M_load {E : rb_EV} {d : Nat} (hdd : 8 ≤ d) (r0 : Option Nat) (σ : rb_St) : rb_Does E k_M_load d [va_rf r0] σ (f_M_load r0 σ) := by
  refine rb_start (lv := [some (va_rf r0), none, none]) (by decide) (by simp [lg_sl, rb_as, lv_args, rb_cat_r, rb_cat_i, rb_cat_l, rb_nL, k_M_load]) (fun res => ?_)
  unfold f_M_load
  refine rb_TC.mono (rk_aload_n 0 d_M_load_0 rfl rfl) ?_
  refine rt_vV (As := []) (st := []) (r0) vw_M_156 (s_M_forget (Nat.le_refl _) (r0)  σ) (Nat.le_trans (by decide) hdd) rfl (by simp [rb_cat_r, rb_cat_i, rb_cat_l]) d_M_load_1 (fun σ_1 => ?_)
  refine rb_TC.mono (rk_aload_n 0 d_M_load_4 rfl rfl) ?_
  refine rt_vV (As := []) (st := []) (r0) vw_M_295 (s_M_copyText (Nat.le_refl _) (r0)  σ_1) (Nat.le_trans (by decide) hdd) rfl (by simp [rb_cat_r, rb_cat_i, rb_cat_l]) d_M_load_5 (fun σ_2 => ?_)
  refine rb_TC.mono (rk_iconst (0 : Int32) d_M_load_8 (by decide)) ?_
  refine rb_TC.mono (rk_istore_n (lv2 := [some (va_rf r0), some (.int (0 : Int32)), none]) 1 d_M_load_9 rfl (by decide) (fun _ => rb_one_r) rfl) ?_
  exact rb_TC.loop2 (A := (fun z : (Int32 × rb_St) => rb_WK E k_M_load d σ res 10 [some (va_rf r0), some (.int z.1), none] [] z.2)) ((0 : Int32), σ_2) (fun z => t_M_load_b10 hdd  (r0) (z.1) z.2)
