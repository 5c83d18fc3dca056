/-! the reference: a command is carried out -/
theorem op_a : ∀ w, w < 64 → (((nI w &&& nI 1 = nI 0) ↔ op w 1 = false) ∧ ((nI w &&& nI 2 = nI 0) ↔ op w 2 = false) ∧ ((nI w &&& nI 4 = nI 0) ↔ op w 4 = false) ∧ ((nI w &&& nI 8 = nI 0) ↔ op w 8 = false) ∧ ((nI w &&& nI 16 = nI 0) ↔ op w 16 = false) ∧ ((nI w &&& nI 32 = nI 0) ↔ op w 32 = false) ∧ ((nI w &&& nI 14 = nI 0) ↔ (op w 2 || op w 4 || op w 8) = false)) := by
  unfold op
  decide
theorem perf_ok (ws : List (List Nat)) {S : PS} (h : pok S) : pok (x_perf ws S).2 ∧ (pN S).length ≤ (pN (x_perf ws S).2).length := by
  have hs : pok S ∧ (pN S).length ≤ (pN S).length := ⟨h, Nat.le_refl _⟩
  have hm : ∀ l, pok ((x_meets l (pN S)).2, pF S, pC S, pP S) ∧ (pN S).length ≤ (x_meets l (pN S)).2.length := fun l => ⟨⟨meets_ok _ _ h.1, h.2⟩, meets_len _ _⟩
  unfold x_perf
  split
  · exact hs
  · split
    · exact hs
    · split
      · exact ⟨⟨h.1, puts_len _ _⟩, Nat.le_refl _⟩
      · split
        · split
          · exact hs
          · have := hm (ws.drop 1)
            split
            · rename_i N hx
              rw [hx] at this
              exact this
            · rename_i ks N hx
              rw [hx] at this
              split
              · exact this
              · exact this
        · split
          · split
            · exact hs
            · have := hm (ws.drop 1)
              split
              · rename_i N hx
                rw [hx] at this
                exact this
              · rename_i ks N hx
                rw [hx] at this
                split
                · exact this
                · exact this
          · split
            · split
              · exact hs
              · have := hm ((ws.take (ws.length - 2)).drop 1)
                split
                · rename_i N hx
                  rw [hx] at this
                  exact this
                · rename_i ks N hx
                  rw [hx] at this
                  have h1 := nmeet_ok this.1.1 (ws.getD (ws.length - 1) [])
                  have h2 := nmeet_len N (ws.getD (ws.length - 1) [])
                  have h3 : (pN S).length ≤ N.length := this.2
                  split
                  · rename_i N2 hy
                    rw [show nmeet N _ = _ from hy] at h1 h2
                    exact ⟨⟨h1, h.2⟩, Nat.le_trans h3 h2⟩
                  · rename_i k N2 hy
                    rw [show nmeet N _ = _ from hy] at h1 h2
                    split
                    · exact ⟨⟨h1, h.2⟩, Nat.le_trans h3 h2⟩
                    · exact ⟨⟨h1, h.2⟩, Nat.le_trans h3 h2⟩
            · exact hs
theorem m_rules_nm {zi za zl : List Nat} {F F' : fx_F} {T : List Nat} {R : RS} (h : m_rules F T R) {N : List (List Nat)} (hN : m_names F' N) (hf : fr zi za zl F F') (h1 : ∀ z, z ∈ zi → z ∉ [3418, 3437, 3433, 3429, 3438, 3426, 3422, 3423, 3439, 3440, 3442, 3441]) (h2 : ∀ z, z ∈ za → z ∉ [61, 56, 57, 58, 54, 55, 43, 44, 45, 53, 52, 49, 50, 51]) (h3 : ∀ z, z ∈ zl → z ∉ [48, 59, 60]) : m_rules F' T (wN R N) := by
  obtain ⟨g1, g2, g3, g4, g5, g6, g7, g8, g9, g10, g11, g12⟩ := h
  have n1 : ∀ z, z ∈ [3418, 3437, 3433, 3429, 3438, 3426, 3422, 3423, 3439, 3440, 3442, 3441] → z ∉ zi := fun z a c => h1 z c a
  have n2 : ∀ z, z ∈ [61, 56, 57, 58, 54, 55, 43, 44, 45, 53, 52, 49, 50, 51] → z ∉ za := fun z a c => h2 z c a
  have n3 : ∀ z, z ∈ [48, 59, 60] → z ∉ zl := fun z a c => h3 z c a
  refine ⟨hN, m_sf_fr g2 hf ⟨n1 _ (by decide), n3 _ (by decide)⟩, m_en_fr g3 hf ⟨n1 _ (by decide), n2 _ (by decide), n3 _ (by decide), n3 _ (by decide)⟩, m_cm_fr g4 hf ⟨n1 _ (by decide), n2 _ (by decide), n2 _ (by decide), n2 _ (by decide)⟩, m_pr_fr g5 hf ⟨n1 _ (by decide), n2 _ (by decide), n2 _ (by decide)⟩, m_defd_fr g6 hf ⟨n2 _ (by decide), n2 _ (by decide), n2 _ (by decide)⟩, m_ow_fr g7 hf (n2 _ (by decide)), m_fl_fr g8 hf ⟨n2 _ (by decide), n2 _ (by decide), n2 _ (by decide), n2 _ (by decide)⟩, m_op_fr g9 hf ⟨n1 _ (by decide), n1 _ (by decide)⟩, m_bo_fr g10 hf ⟨n1 _ (by decide), n1 _ (by decide)⟩, m_nu_fr g11 hf ⟨n1 _ (by decide), n1 _ (by decide)⟩, m_cu_fr (R := R) g12 hf ⟨n1 _ (by decide), n1 _ (by decide)⟩⟩
/-- what a command may change -/
abbrev zBi : List Nat := [3402, 3407, 3444, 3447, 3448, 3470, 3472]
abbrev zBa : List Nat := [37, 38, 39, 62, 63, 64, 65, 66, 67, 68, 69, 70, 71, 82]
/-- while a build is under way -/
def m_bx (T : List Nat) (gv : Nat → Option (List Nat)) (R : RS) (w : Nat) (F : fx_F) (S : PS) (n : Nat) : Prop := m_rules F T (wN R (pN S)) ∧ m_text F T ∧ m_given F gv ∧ m_files F (pF S) (pC S) ∧ m_print F (pP S) ∧ F.1 3456 = nI w ∧ F.1 3470 = nI n
theorem m_bx_fr {T : List Nat} {gv : Nat → Option (List Nat)} {R : RS} {w : Nat} {F F' : fx_F} {S : PS} {n : Nat} (h : m_bx T gv R w F S n) {zi za zl : List Nat} (hf : fr zi za zl F F') (h1 : ∀ z, z ∈ zi → z ∉ [3402, 3418, 3437, 3433, 3429, 3438, 3426, 3422, 3423, 3439, 3440, 3442, 3441, 3407, 3472, 3456, 3470]) (h2 : ∀ z, z ∈ za → z ∉ [61, 56, 57, 58, 54, 55, 43, 44, 45, 53, 52, 49, 50, 51, 46, 40, 41, 42, 37, 38, 39, 82]) (h3 : ∀ z, z ∈ zl → z ∉ [36, 48, 59, 60]) : m_bx T gv R w F' S n := by
  obtain ⟨g1, g2, g3, g4, g5, g6, g7⟩ := h
  have n1 : ∀ z, z ∈ [3402, 3418, 3437, 3433, 3429, 3438, 3426, 3422, 3423, 3439, 3440, 3442, 3441, 3407, 3472, 3456, 3470] → z ∉ zi := fun z a c => h1 z c a
  have n2 : ∀ z, z ∈ [61, 56, 57, 58, 54, 55, 43, 44, 45, 53, 52, 49, 50, 51, 46, 40, 41, 42, 37, 38, 39, 82] → z ∉ za := fun z a c => h2 z c a
  refine ⟨m_rules_fr g1 hf (fun z hz hc => h1 z hz ?_) (fun z hz hc => h2 z hz ?_) h3, m_text_fr g2 hf (n2 _ (by decide)), m_given_fr g3 hf ⟨n2 _ (by decide), n2 _ (by decide), n2 _ (by decide)⟩, m_files_fr g4 hf ⟨n1 _ (by decide), n2 _ (by decide), n2 _ (by decide), n2 _ (by decide)⟩, m_print_fr g5 hf ⟨n1 _ (by decide), n2 _ (by decide)⟩, (hf.1 3456 (n1 _ (by decide))).trans g6, (hf.1 3470 (n1 _ (by decide))).trans g7⟩
  · revert hc
    simp only [List.mem_cons, List.not_mem_nil, or_false]
    omega
  · revert hc
    simp only [List.mem_cons, List.not_mem_nil, or_false]
    omega
section
variable {σ : rb_St} {b : Nat} {F : fx_F} {T : List Nat} {gv : Nat → Option (List Nat)} {R : RS}
theorem m_option {w : Nat} (hw : w < 64) (hm : F.1 3456 = nI w) {i : Nat} {x : Bool} (hi : (nI w &&& nI i = nI 0) ↔ x = false) : f_M_option (some (fx_ad b 34)) (nI i) (fx_mk σ b F) = some (some (.int (nI (b2 x))), fx_mk σ b F) := by
  unfold f_M_option
  cases x
  · simp only [↓fx_bm, hm, u_l0, u_l1, hi.mpr rfl, ↓reduceIte, b2_f]
  · have : ¬ (nI w &&& nI i = nI 0) := fun h => by cases hi.mp h
    simp only [↓fx_bm, hm, u_l0, u_l1, this, ↓reduceIte, b2_t]
theorem m_isSilent {t : Nat} (ht : t < 32) {x y : Bool} (hx : (F.2.1 51)[t]? = some (nI (b2 x))) (hy : F.1 3423 = nI (b2 y)) : f_M_isSilent (some (fx_ad b 34)) (nI t) (fx_mk σ b F) = some (some (.int (nI (b2 (x || y)))), fx_mk σ b F) := by
  unfold f_M_isSilent
  cases x
  · cases y
    · simp (disch := omega) only [↓fx_bm, ↓bx_of rfl (show t < 2147483648 by omega) hx, hy, b2_f, ↓reduceIte, n_ltT, n_ltF, n_leT, n_leF, n_eqT, n_eqF, nI_1, u_lt, u_le, u_eq, u_add, u_ix, u_ixL, u_ixR, u_cl, u_nm1, u_nm1', u_m1l, u_m1n, u_l0, Option.bind_some, Option.map_some, not_true_eq_false, not_false_eq_true, true_and, and_true, Nat.add_sub_cancel, Bool.false_eq_true, u_nar2, Bool.or_false]
    · simp (disch := omega) only [↓fx_bm, ↓bx_of rfl (show t < 2147483648 by omega) hx, hy, b2_f, b2_t, ↓reduceIte, n_ltT, n_ltF, n_leT, n_leF, n_eqT, n_eqF, nI_1, u_lt, u_le, u_eq, u_add, u_ix, u_ixL, u_ixR, u_cl, u_nm1, u_nm1', u_m1l, u_m1n, u_l0, Option.bind_some, Option.map_some, not_true_eq_false, not_false_eq_true, true_and, and_true, Nat.add_sub_cancel, Bool.false_eq_true, u_nar2, Bool.or_true, u_l1]
  · simp (disch := omega) only [↓fx_bm, ↓bx_of rfl (show t < 2147483648 by omega) hx, b2_t, ↓reduceIte, n_ltT, n_ltF, n_leT, n_leF, n_eqT, n_eqF, nI_1, u_lt, u_le, u_eq, u_add, u_ix, u_ixL, u_ixR, u_cl, u_nm1, u_nm1', u_m1l, u_m1n, u_l0, Option.bind_some, Option.map_some, not_true_eq_false, not_false_eq_true, true_and, and_true, Nat.add_sub_cancel, Bool.false_eq_true, u_nar2, Bool.true_or, u_l1]
theorem m_mk1 {x1 x2 : Int32} {p c : Nat} (hc : c < 127) {a q l : Bool} {x7 : Int32} : f_M_carry_j106 (some (fx_ad b 34)) x1 x2 (nI p) (nI (b2 a)) (nI (b2 l)) x7 (nI c) (nI (b2 q)) (fx_mk σ b F) = f_M_carry_j125 (some (fx_ad b 34)) x1 x2 (nI p) (nI (b2 a)) (nI (b2 q)) x7 (nI (b2 (l || decide (c = 43)))) (fx_mk σ b F) := by
  unfold f_M_carry_j106 f_M_carry_j120
  cases l
  · by_cases e : c = 43
    · simp (disch := omega) only [b2_f, ↓reduceIte, n_ltT, n_ltF, n_leT, n_leF, n_eqT, n_eqF, nI_1, u_lt, u_le, u_eq, u_add, u_ix, u_ixL, u_ixR, u_cl, u_nm1, u_nm1', u_m1l, u_m1n, u_l0, Option.bind_some, Option.map_some, not_true_eq_false, not_false_eq_true, true_and, and_true, Nat.add_sub_cancel, Bool.false_eq_true, u_nar2, e, show (43 : Int32) = nI 43 from rfl, decide_true, Bool.or_true, b2_t, u_l1]
    · simp (disch := omega) only [b2_f, ↓reduceIte, n_ltT, n_ltF, n_leT, n_leF, n_eqT, n_eqF, nI_1, u_lt, u_le, u_eq, u_add, u_ix, u_ixL, u_ixR, u_cl, u_nm1, u_nm1', u_m1l, u_m1n, u_l0, Option.bind_some, Option.map_some, not_true_eq_false, not_false_eq_true, true_and, and_true, Nat.add_sub_cancel, Bool.false_eq_true, u_nar2, e, show (43 : Int32) = nI 43 from rfl, decide_false, Bool.or_false]
  · simp (disch := omega) only [b2_t, ↓reduceIte, n_ltT, n_ltF, n_leT, n_leF, n_eqT, n_eqF, nI_1, u_lt, u_le, u_eq, u_add, u_ix, u_ixL, u_ixR, u_cl, u_nm1, u_nm1', u_m1l, u_m1n, u_l0, Option.bind_some, Option.map_some, not_true_eq_false, not_false_eq_true, true_and, and_true, Nat.add_sub_cancel, Bool.false_eq_true, u_nar2, Bool.true_or, u_l1]
theorem m_mk2 {x1 x2 : Int32} {p c : Nat} (hc : c < 127) {a q l : Bool} {x7 : Int32} : f_M_carry_j87 (some (fx_ad b 34)) x1 x2 (nI p) (nI (b2 q)) (nI (b2 l)) x7 (nI c) (nI (b2 a)) (fx_mk σ b F) = f_M_carry_j125 (some (fx_ad b 34)) x1 x2 (nI p) (nI (b2 a)) (nI (b2 (q || decide (c = 64)))) x7 (nI (b2 (l || decide (c = 43)))) (fx_mk σ b F) := by
  rw [← m_mk1 hc]
  unfold f_M_carry_j87 f_M_carry_j101
  cases q
  · by_cases e : c = 64
    · simp (disch := omega) only [b2_f, ↓reduceIte, n_ltT, n_ltF, n_leT, n_leF, n_eqT, n_eqF, nI_1, u_lt, u_le, u_eq, u_add, u_ix, u_ixL, u_ixR, u_cl, u_nm1, u_nm1', u_m1l, u_m1n, u_l0, Option.bind_some, Option.map_some, not_true_eq_false, not_false_eq_true, true_and, and_true, Nat.add_sub_cancel, Bool.false_eq_true, u_nar2, e, show (64 : Int32) = nI 64 from rfl, decide_true, Bool.or_true, b2_t, u_l1]
    · simp (disch := omega) only [b2_f, ↓reduceIte, n_ltT, n_ltF, n_leT, n_leF, n_eqT, n_eqF, nI_1, u_lt, u_le, u_eq, u_add, u_ix, u_ixL, u_ixR, u_cl, u_nm1, u_nm1', u_m1l, u_m1n, u_l0, Option.bind_some, Option.map_some, not_true_eq_false, not_false_eq_true, true_and, and_true, Nat.add_sub_cancel, Bool.false_eq_true, u_nar2, e, show (64 : Int32) = nI 64 from rfl, decide_false, Bool.or_false]
  · simp (disch := omega) only [b2_t, ↓reduceIte, n_ltT, n_ltF, n_leT, n_leF, n_eqT, n_eqF, nI_1, u_lt, u_le, u_eq, u_add, u_ix, u_ixL, u_ixR, u_cl, u_nm1, u_nm1', u_m1l, u_m1n, u_l0, Option.bind_some, Option.map_some, not_true_eq_false, not_false_eq_true, true_and, and_true, Nat.add_sub_cancel, Bool.false_eq_true, u_nar2, Bool.true_or, u_l1]
theorem m_mk3 {x1 x2 : Int32} {p c : Nat} (hc : c < 127) {a q l : Bool} {x7 : Int32} : f_M_carry_j68 (some (fx_ad b 34)) x1 x2 (nI p) (nI (b2 a)) (nI (b2 q)) (nI (b2 l)) (nI c) x7 (fx_mk σ b F) = f_M_carry_j125 (some (fx_ad b 34)) x1 x2 (nI p) (nI (b2 (a || decide (c = 45)))) (nI (b2 (q || decide (c = 64)))) x7 (nI (b2 (l || decide (c = 43)))) (fx_mk σ b F) := by
  rw [← m_mk2 hc]
  unfold f_M_carry_j68 f_M_carry_j82
  cases a
  · by_cases e : c = 45
    · simp (disch := omega) only [b2_f, ↓reduceIte, n_ltT, n_ltF, n_leT, n_leF, n_eqT, n_eqF, nI_1, u_lt, u_le, u_eq, u_add, u_ix, u_ixL, u_ixR, u_cl, u_nm1, u_nm1', u_m1l, u_m1n, u_l0, Option.bind_some, Option.map_some, not_true_eq_false, not_false_eq_true, true_and, and_true, Nat.add_sub_cancel, Bool.false_eq_true, u_nar2, e, show (45 : Int32) = nI 45 from rfl, decide_true, Bool.or_true, b2_t, u_l1]
    · simp (disch := omega) only [b2_f, ↓reduceIte, n_ltT, n_ltF, n_leT, n_leF, n_eqT, n_eqF, nI_1, u_lt, u_le, u_eq, u_add, u_ix, u_ixL, u_ixR, u_cl, u_nm1, u_nm1', u_m1l, u_m1n, u_l0, Option.bind_some, Option.map_some, not_true_eq_false, not_false_eq_true, true_and, and_true, Nat.add_sub_cancel, Bool.false_eq_true, u_nar2, e, show (45 : Int32) = nI 45 from rfl, decide_false, Bool.or_false]
  · simp (disch := omega) only [b2_t, ↓reduceIte, n_ltT, n_ltF, n_leT, n_leF, n_eqT, n_eqF, nI_1, u_lt, u_le, u_eq, u_add, u_ix, u_ixL, u_ixR, u_cl, u_nm1, u_nm1', u_m1l, u_m1n, u_l0, Option.bind_some, Option.map_some, not_true_eq_false, not_false_eq_true, true_and, and_true, Nat.add_sub_cancel, Bool.false_eq_true, u_nar2, Bool.true_or, u_l1]
theorem fi_step {P : Nat → Bool} {n k : Nat} (h : k < n) : fi P n k = if P k = true then k else fi P n (k + 1) := by
  unfold fi
  rw [show n - k = (n - (k + 1)) + 1 by omega, sr_m]
  by_cases e : P k = true
  · rw [if_pos e, if_pos e]
  · rw [if_neg e, if_neg e]
theorem m_marks (hT : m_text F T) (hT3 : T.length ≤ 320) (hTk : tk T) {x1 : Int32} {k fm to : Nat} (hk : k < 30) (hft : fm ≤ to) (hto : to ≤ T.length) (hto2 : (F.2.1 57)[k]? = some (nI to)) : ∀ (m i : Nat), i + m = to - fm → rb_it (fun z : (Int32 × Int32 × Int32 × Int32 × Int32) => f_M_carry_b19 (some (fx_ad b 34)) x1 (nI k) (z.1) (z.2.1) (z.2.2.1) (z.2.2.2.1) (z.2.2.2.2) (fx_mk σ b F)) (nI (fm + i), nI (b2 (decide (45 ∈ (slc T fm to).take i))), nI (b2 (decide (64 ∈ (slc T fm to).take i))), nI (b2 (decide (43 ∈ (slc T fm to).take i))), nI 1) = f_M_carry_j143 (some (fx_ad b 34)) x1 (nI k) (nI (fm + fi (fun k => !mkd ((slc T fm to).getD k 0)) (to - fm) i)) (nI (b2 (decide (45 ∈ (slc T fm to).take (fi (fun k => !mkd ((slc T fm to).getD k 0)) (to - fm) i))))) (nI (b2 (decide (64 ∈ (slc T fm to).take (fi (fun k => !mkd ((slc T fm to).getD k 0)) (to - fm) i))))) (nI (b2 (decide (43 ∈ (slc T fm to).take (fi (fun k => !mkd ((slc T fm to).getD k 0)) (to - fm) i))))) (fx_mk σ b F) := by
  have hlen := slc_len (p := fm) hto
  intro m
  induction m with
  | zero =>
    intro i hi
    rw [fi_end (by omega), show to - fm = i by omega]
    refine rb_it_m ?_
    show f_M_carry_b19 _ _ _ _ _ _ _ _ _ = _
    unfold f_M_carry_b19
    simp (disch := omega) only [↓fx_bm, ↓bx_of rfl (show k < 2147483648 by omega) hto2, ↓reduceIte, n_ltT, n_ltF, n_leT, n_leF, n_eqT, n_eqF, nI_1, u_lt, u_le, u_eq, u_add, u_ix, u_ixL, u_ixR, u_cl, u_nm1, u_nm1', u_m1l, u_m1n, u_l0, Option.bind_some, Option.map_some, not_true_eq_false, not_false_eq_true, true_and, and_true, Nat.add_sub_cancel, Bool.false_eq_true, u_nar2]
  | succ m ih =>
    intro i hi
    have hit : i < to - fm := by omega
    have hg := rk_getD hT (i := fm + i) (by omega)
    have hty := ty_lt (tk_get hTk (k := fm + i) (by omega))
    have hs : (slc T fm to).getD i 0 = T.getD (fm + i) 0 := slc_get hit
    rw [fi_step hit, hs]
    generalize T.getD (fm + i) 0 = c at hg hty hs ⊢
    have htake : ∀ d, decide (d ∈ (slc T fm to).take (i + 1)) = (decide (d ∈ (slc T fm to).take i) || decide (c = d)) := fun d => by
      rw [take_succ (d := 0) (by omega), hs]
      simp only [List.mem_append, List.mem_singleton, Bool.decide_or, eq_comm (a := d) (b := c)]
    have hbody : ∀ x7, (mkd c = true ∧ x7 = nI 1 ∨ mkd c = false ∧ x7 = nI 0) → f_M_carry_b19 (some (fx_ad b 34)) x1 (nI k) (nI (fm + i)) (nI (b2 (decide (45 ∈ (slc T fm to).take i)))) (nI (b2 (decide (64 ∈ (slc T fm to).take i)))) (nI (b2 (decide (43 ∈ (slc T fm to).take i)))) (nI 1) (fx_mk σ b F) = f_M_carry_j125 (some (fx_ad b 34)) x1 (nI k) (nI (fm + i)) (nI (b2 (decide (45 ∈ (slc T fm to).take (i + 1))))) (nI (b2 (decide (64 ∈ (slc T fm to).take (i + 1))))) x7 (nI (b2 (decide (43 ∈ (slc T fm to).take (i + 1))))) (fx_mk σ b F) := by
      intro x7 hx
      rw [htake, htake, htake, ← m_mk3 (by omega)]
      unfold f_M_carry_b19 f_M_carry_j63
      rcases hx with ⟨h1, h2⟩ | ⟨h1, h2⟩
      · subst h2
        have h3 : c = 45 ∨ c = 64 ∨ c = 43 := of_decide_eq_true h1
        rcases h3 with h | h | h <;> subst h <;> simp (disch := omega) only [↓fx_bm, ↓bx_of rfl (show k < 2147483648 by omega) hto2, ↓bx_of rfl (show fm + i < 2147483648 by omega) hg, show (45 : Int32) = nI 45 from rfl, show (64 : Int32) = nI 64 from rfl, show (43 : Int32) = nI 43 from rfl, ↓reduceIte, n_ltT, n_ltF, n_leT, n_leF, n_eqT, n_eqF, nI_1, u_lt, u_le, u_eq, u_add, u_ix, u_ixL, u_ixR, u_cl, u_nm1, u_nm1', u_m1l, u_m1n, u_l0, Option.bind_some, Option.map_some, not_true_eq_false, not_false_eq_true, true_and, and_true, Nat.add_sub_cancel, Bool.false_eq_true, u_nar2, u_l1, Nat.reduceEqDiff]
      · subst h2
        have h3 : ¬ (c = 45 ∨ c = 64 ∨ c = 43) := of_decide_eq_false h1
        have h4 : ¬ c = 45 := fun h => h3 (Or.inl h)
        have h5 : ¬ c = 64 := fun h => h3 (Or.inr (Or.inl h))
        have h6 : ¬ c = 43 := fun h => h3 (Or.inr (Or.inr h))
        simp (disch := omega) only [↓fx_bm, ↓bx_of rfl (show k < 2147483648 by omega) hto2, ↓bx_of rfl (show fm + i < 2147483648 by omega) hg, show (45 : Int32) = nI 45 from rfl, show (64 : Int32) = nI 64 from rfl, show (43 : Int32) = nI 43 from rfl, h4, h5, h6, ↓reduceIte, n_ltT, n_ltF, n_leT, n_leF, n_eqT, n_eqF, nI_1, u_lt, u_le, u_eq, u_add, u_ix, u_ixL, u_ixR, u_cl, u_nm1, u_nm1', u_m1l, u_m1n, u_l0, Option.bind_some, Option.map_some, not_true_eq_false, not_false_eq_true, true_and, and_true, Nat.add_sub_cancel, Bool.false_eq_true, u_nar2]
    cases hmk : mkd c
    · rw [Bool.not_false, if_pos rfl]
      have hb := hbody (nI 0) (Or.inr ⟨hmk, rfl⟩)
      have hnm : ¬ (c = 45 ∨ c = 64 ∨ c = 43) := of_decide_eq_false hmk
      have hsame : ∀ d, (d = 45 ∨ d = 64 ∨ d = 43) → decide (d ∈ (slc T fm to).take (i + 1)) = decide (d ∈ (slc T fm to).take i) := fun d hd => by
        rw [htake, decide_eq_false (show ¬ c = d from fun h => hnm (by rw [h]; exact hd)), Bool.or_false]
      rw [hsame 45 (Or.inl rfl), hsame 64 (Or.inr (Or.inl rfl)), hsame 43 (Or.inr (Or.inr rfl))] at hb
      have hstep : f_M_carry_b19 (some (fx_ad b 34)) x1 (nI k) (nI (fm + i)) (nI (b2 (decide (45 ∈ (slc T fm to).take i)))) (nI (b2 (decide (64 ∈ (slc T fm to).take i)))) (nI (b2 (decide (43 ∈ (slc T fm to).take i)))) (nI 1) (fx_mk σ b F) = some (.inl (nI (fm + i), nI (b2 (decide (45 ∈ (slc T fm to).take i))), nI (b2 (decide (64 ∈ (slc T fm to).take i))), nI (b2 (decide (43 ∈ (slc T fm to).take i))), nI 0)) := by
        rw [hb]
        unfold f_M_carry_j125
        exact if_pos rfl
      refine (rb_it_l hstep).trans ?_
      refine rb_it_m ?_
      show f_M_carry_b19 _ _ _ _ _ _ _ _ _ = _
      unfold f_M_carry_b19
      simp (disch := omega) only [↓fx_bm, ↓bx_of rfl (show k < 2147483648 by omega) hto2, ↓reduceIte, n_ltT, n_ltF, n_leT, n_leF, n_eqT, n_eqF, nI_1, u_lt, u_le, u_eq, u_add, u_ix, u_ixL, u_ixR, u_cl, u_nm1, u_nm1', u_m1l, u_m1n, u_l0, Option.bind_some, Option.map_some, not_true_eq_false, not_false_eq_true, true_and, and_true, Nat.add_sub_cancel, Bool.false_eq_true, u_nar2]
    · rw [Bool.not_true, if_neg (by decide), ← ih (i + 1) (by omega)]
      refine rb_it_l ?_
      have hb := hbody (nI 1) (Or.inl ⟨hmk, rfl⟩)
      refine hb.trans ?_
      unfold f_M_carry_j125
      simp (disch := omega) only [↓reduceIte, n_ltT, n_ltF, n_leT, n_leF, n_eqT, n_eqF, nI_1, u_lt, u_le, u_eq, u_add, u_ix, u_ixL, u_ixR, u_cl, u_nm1, u_nm1', u_m1l, u_m1n, u_l0, Option.bind_some, Option.map_some, not_true_eq_false, not_false_eq_true, true_and, and_true, Nat.add_sub_cancel, Bool.false_eq_true, u_nar2, Nat.add_assoc]
end
