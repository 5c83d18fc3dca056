/-! the class: parts of texts, names, cuts -/
section
variable {σ : rb_St} {b : Nat} {F : fx_F} {o : Nat}
theorem c_addPart (ho : tO o) (hb : rb_b σ ≤ b) {a : Nat} {s : List Nat} (hs : sx σ b a s) {q : Nat} (hq : q ≤ s.length) : ∀ (m i : Nat) (F : fx_F) (l : List Nat), i + m = q → fx_ln F → tw F o l → ∃ F', rb_it (fun z : (Int32 × rb_St) => f_Text_addPart_b7 (some (fx_ad b o)) (some a) (nI q) (z.1) z.2) (nI i, fx_mk σ b F) = some (some (.int (nI (b2 (decide (l.length + m ≤ tcap o))))), fx_mk σ b F') ∧ tw F' o ((l ++ slc s i q).take (tcap o)) ∧ fx_ln F' ∧ fr [100 * o + 1] [o + 1] [] F F' := by
  have h400 := (tcap_le ho).1
  have hsl := hs.2.2
  obtain ⟨v, rest, k1, k2, k3, k4, k5, k6⟩ := hsl
  intro m
  induction m with
  | zero =>
    intro i F l hi hF h
    have hl := tw_len hF h
    have hz : slc s i q = [] := List.eq_nil_of_length_eq_zero (by rw [slc_len hq]; omega)
    rw [hz, List.append_nil, List.take_of_length_le hl, Nat.add_zero, decide_eq_true hl]
    refine ⟨F, ?_, h, hF, fr_refl _ _ _ _⟩
    refine rb_it_r ?_
    show f_Text_addPart_b7 _ _ _ _ _ = _
    unfold f_Text_addPart_b7 f_Text_addPart_j67
    simp (disch := omega) only [↓reduceIte, n_ltT, n_ltF, n_leT, n_leF, n_eqT, n_eqF, nI_1, u_lt, u_le, u_eq, u_add, u_ix, u_ixL, u_ixR, u_cl, u_nm1, u_nm1', u_m1l, u_m1n, u_l0, Option.bind_some, Option.map_some, not_true_eq_false, not_false_eq_true, true_and, and_true, Nat.add_sub_cancel, Bool.false_eq_true, u_nar2, b2_t, u_l1]
  | succ m ih =>
    intro i F l hi hF h
    have hl := tw_len hF h
    have hrow : (F.2.1 (o + 1)).length = tcap o := hF.1 _
    have hlen := c_len (F := F) hs
    have hfc := fo_fk (F := F) hs.1 k3
    by_cases e : l.length = tcap o
    · rw [decide_eq_false (by omega), List.take_append, e, Nat.sub_self, List.take_zero, List.append_nil, List.take_of_length_le (by omega)]
      refine ⟨F, ?_, h, hF, fr_refl _ _ _ _⟩
      have h1 := h.1
      rw [e] at h1
      refine rb_it_r ?_
      show f_Text_addPart_b7 _ _ _ _ _ = _
      unfold f_Text_addPart_b7
      simp (disch := omega) only [hfc, ↓cI_of hlen, ↓t_b ho, h1, hrow, ↓reduceIte, n_ltT, n_ltF, n_leT, n_leF, n_eqT, n_eqF, nI_1, u_lt, u_le, u_eq, u_add, u_ix, u_ixL, u_ixR, u_cl, u_nm1, u_nm1', u_m1l, u_m1n, u_l0, Option.bind_some, Option.map_some, not_true_eq_false, not_false_eq_true, true_and, and_true, Nat.add_sub_cancel, Bool.false_eq_true, u_nar2, b2_f]
    · have hch := c_charAt (F := F) hs (i := i) (by omega)
      have hcc := k5 _ (getD_mem (d := 0) (show i < s.length by omega))
      generalize hF1 : fx_I (fx_A F (o + 1) ((F.2.1 (o + 1)).set l.length (nI (s.getD i 0)))) (100 * o + 1) (nI (l.length + 1)) = F1
      have hfr1 : fr [100 * o + 1] [o + 1] [] F F1 := by
        subst hF1
        exact fr_I (fr_A (fr_refl _ _ _ _) (List.mem_singleton.mpr rfl)) (List.mem_singleton.mpr rfl)
      have hln1 : fx_ln F1 := by
        subst hF1
        exact fx_lnI (fx_lnA hF (by rw [List.length_set]; exact hF.1 _))
      have h1 : tw F1 o (l ++ [s.getD i 0]) := by
        subst hF1
        refine ⟨by rw [fx_I_1, if_pos rfl, List.length_append, List.length_cons, List.length_nil], ?_⟩
        rw [fx_I_A, fx_A_A, if_pos rfl]
        exact rk_push h.2 (by omega) _
      obtain ⟨F', e1, e2, e3, e4⟩ := ih (i + 1) F1 (l ++ [s.getD i 0]) (by omega) hln1 h1
      have hsp : slc s i q = [s.getD i 0] ++ slc s (i + 1) q := by
        unfold slc
        rw [List.drop_eq_getElem_cons (show i < s.length by omega), show q - i = (q - (i + 1)) + 1 by omega, List.take_succ_cons, getD_get (show i < s.length by omega)]
        rfl
      rw [hsp, ← List.append_assoc]
      refine ⟨F', ?_, e2, e3, fr_trans hfr1 e4⟩
      rw [List.length_append, List.length_cons, List.length_nil, show l.length + (0 + 1) + m = l.length + (m + 1) by omega] at e1
      rw [← e1]
      refine rb_it_l ?_
      subst hF1
      show f_Text_addPart_b7 _ _ _ _ _ = _
      unfold f_Text_addPart_b7
      simp (disch := omega) only [hfc, ↓cI_of hlen, ↓t_b ho, ↓t_v ho hb, h.1, hrow, ↓cI_of hch, fx_A_1, u_nar1, ↓reduceIte, n_ltT, n_ltF, n_leT, n_leF, n_eqT, n_eqF, nI_1, u_lt, u_le, u_eq, u_add, u_ix, u_ixL, u_ixR, u_cl, u_nm1, u_nm1', u_m1l, u_m1n, u_l0, Option.bind_some, Option.map_some, not_true_eq_false, not_false_eq_true, true_and, and_true, Nat.add_sub_cancel, Bool.false_eq_true, u_nar2]
theorem c_addPartF (ho : tO o) (hb : rb_b σ ≤ b) {a : Nat} {s : List Nat} (hs : sx σ b a s) {p q : Nat} (hpq : p ≤ q) (hq : q ≤ s.length) (hF : fx_ln F) {l : List Nat} (h : tw F o l) : ∃ F', f_Text_addPart (some (fx_ad b o)) (some a) (nI p) (nI q) (fx_mk σ b F) = some (some (.int (nI (b2 (decide (l.length + (q - p) ≤ tcap o))))), fx_mk σ b F') ∧ tw F' o ((l ++ slc s p q).take (tcap o)) ∧ fx_ln F' ∧ fr [100 * o + 1] [o + 1] [] F F' := by
  have hs6 : s.length ≤ 100000 := by
    obtain ⟨v, rest, k1, k2, k3, k4, k5, k6⟩ := hs.2.2
    exact k6
  obtain ⟨F', e1, e2⟩ := c_addPart (σ := σ) (b := b) ho hb hs hq (q - p) p F l (by omega) hF h
  refine ⟨F', ?_, e2⟩
  unfold f_Text_addPart
  rw [show rb_mx (nI p) (0 : Int32) = nI p from if_neg (by rw [u_l0, u_lt (by omega) (by omega)]; omega)]
  exact e1
theorem c_addText (ho : tO o) (hb : rb_b σ ≤ b) {o2 : Nat} (ho2 : tO o2) (hne : o2 ≠ o) {s : List Nat} {q : Nat} (hq : q ≤ s.length) (hcs : ∀ c, c ∈ s → c < 65536) : ∀ (m i : Nat) (F : fx_F) (l : List Nat), i + m = q → fx_ln F → tw F o l → tw F o2 s → ∃ F', rb_it (fun z : (Int32 × rb_St) => f_Text_addText_b7 (some (fx_ad b o)) (some (fx_ad b o2)) (nI q) (z.1) z.2) (nI i, fx_mk σ b F) = some (some (.int (nI (b2 (decide (l.length + m ≤ tcap o))))), fx_mk σ b F') ∧ tw F' o ((l ++ slc s i q).take (tcap o)) ∧ fx_ln F' ∧ fr [100 * o + 1] [o + 1] [] F F' := by
  have h400 := (tcap_le ho).1
  have h4002 := (tcap_le ho2).1
  have hz1 : ¬ (100 * o2 + 1 ∈ [100 * o + 1]) := by
    rw [List.mem_singleton]
    omega
  have hz2 : ¬ (o2 + 1 ∈ [o + 1]) := by
    rw [List.mem_singleton]
    omega
  intro m
  induction m with
  | zero =>
    intro i F l hi hF h h2
    have hl := tw_len hF h
    have hz : slc s i q = [] := List.eq_nil_of_length_eq_zero (by rw [slc_len hq]; omega)
    have hl2 := tw_len hF h2
    rw [hz, List.append_nil, List.take_of_length_le hl, Nat.add_zero, decide_eq_true hl]
    refine ⟨F, ?_, h, hF, fr_refl _ _ _ _⟩
    refine rb_it_r ?_
    show f_Text_addText_b7 _ _ _ _ _ = _
    unfold f_Text_addText_b7 f_Text_addText_j68
    simp (disch := omega) only [↓reduceIte, n_ltT, n_ltF, n_leT, n_leF, n_eqT, n_eqF, nI_1, u_lt, u_le, u_eq, u_add, u_ix, u_ixL, u_ixR, u_cl, u_nm1, u_nm1', u_m1l, u_m1n, u_l0, Option.bind_some, Option.map_some, not_true_eq_false, not_false_eq_true, true_and, and_true, Nat.add_sub_cancel, Bool.false_eq_true, u_nar2, b2_t, u_l1]
  | succ m ih =>
    intro i F l hi hF h h2
    have hl := tw_len hF h
    have hl2 := tw_len hF h2
    have hrow : (F.2.1 (o + 1)).length = tcap o := hF.1 _
    by_cases e : l.length = tcap o
    · rw [decide_eq_false (by omega), List.take_append, e, Nat.sub_self, List.take_zero, List.append_nil, List.take_of_length_le (by omega)]
      refine ⟨F, ?_, h, hF, fr_refl _ _ _ _⟩
      have h1 := h.1
      rw [e] at h1
      refine rb_it_r ?_
      show f_Text_addText_b7 _ _ _ _ _ = _
      unfold f_Text_addText_b7
      simp (disch := omega) only [↓t_b ho, ↓t_b ho2, h1, h2.1, hrow, ↓reduceIte, n_ltT, n_ltF, n_leT, n_leF, n_eqT, n_eqF, nI_1, u_lt, u_le, u_eq, u_add, u_ix, u_ixL, u_ixR, u_cl, u_nm1, u_nm1', u_m1l, u_m1n, u_l0, Option.bind_some, Option.map_some, not_true_eq_false, not_false_eq_true, true_and, and_true, Nat.add_sub_cancel, Bool.false_eq_true, u_nar2, b2_f]
    · have hg := rk_getD h2.2 (show i < s.length by omega)
      have hcc := hcs _ (getD_mem (d := 0) (show i < s.length by omega))
      generalize hF1 : fx_I (fx_A F (o + 1) ((F.2.1 (o + 1)).set l.length (nI (s.getD i 0)))) (100 * o + 1) (nI (l.length + 1)) = F1
      have hfr1 : fr [100 * o + 1] [o + 1] [] F F1 := by
        subst hF1
        exact fr_I (fr_A (fr_refl _ _ _ _) (List.mem_singleton.mpr rfl)) (List.mem_singleton.mpr rfl)
      have hln1 : fx_ln F1 := by
        subst hF1
        exact fx_lnI (fx_lnA hF (by rw [List.length_set]; exact hF.1 _))
      have h1 : tw F1 o (l ++ [s.getD i 0]) := by
        subst hF1
        refine ⟨by rw [fx_I_1, if_pos rfl, List.length_append, List.length_cons, List.length_nil], ?_⟩
        rw [fx_I_A, fx_A_A, if_pos rfl]
        exact rk_push h.2 (by omega) _
      obtain ⟨F', e1, e2, e3, e4⟩ := ih (i + 1) F1 (l ++ [s.getD i 0]) (by omega) hln1 h1 (tw_fr h2 hfr1 hz1 hz2)
      have hsp : slc s i q = [s.getD i 0] ++ slc s (i + 1) q := by
        unfold slc
        rw [List.drop_eq_getElem_cons (show i < s.length by omega), show q - i = (q - (i + 1)) + 1 by omega, List.take_succ_cons, getD_get (show i < s.length by omega)]
        rfl
      rw [hsp, ← List.append_assoc]
      refine ⟨F', ?_, e2, e3, fr_trans hfr1 e4⟩
      rw [List.length_append, List.length_cons, List.length_nil, show l.length + (0 + 1) + m = l.length + (m + 1) by omega] at e1
      rw [← e1]
      refine rb_it_l ?_
      subst hF1
      show f_Text_addText_b7 _ _ _ _ _ = _
      unfold f_Text_addText_b7
      simp (disch := omega) only [↓t_b ho, ↓t_b ho2, ↓t_v ho hb, h.1, h2.1, hrow, ↓bx_of rfl (show i < 2147483648 by omega) hg, fx_A_1, u_nar1, ↓reduceIte, n_ltT, n_ltF, n_leT, n_leF, n_eqT, n_eqF, nI_1, u_lt, u_le, u_eq, u_add, u_ix, u_ixL, u_ixR, u_cl, u_nm1, u_nm1', u_m1l, u_m1n, u_l0, Option.bind_some, Option.map_some, not_true_eq_false, not_false_eq_true, true_and, and_true, Nat.add_sub_cancel, Bool.false_eq_true, u_nar2]
theorem c_addTextF (ho : tO o) (hb : rb_b σ ≤ b) {o2 : Nat} (ho2 : tO o2) (hne : o2 ≠ o) {s : List Nat} {p q : Nat} (hpq : p ≤ q) (hq : q ≤ s.length) (hcs : ∀ c, c ∈ s → c < 65536) (hF : fx_ln F) {l : List Nat} (h : tw F o l) (h2 : tw F o2 s) : ∃ F', f_Text_addText (some (fx_ad b o)) (some (fx_ad b o2)) (nI p) (nI q) (fx_mk σ b F) = some (some (.int (nI (b2 (decide (l.length + (q - p) ≤ tcap o))))), fx_mk σ b F') ∧ tw F' o ((l ++ slc s p q).take (tcap o)) ∧ fx_ln F' ∧ fr [100 * o + 1] [o + 1] [] F F' := by
  have h4002 := (tcap_le ho2).1
  have hl2 := tw_len hF h2
  obtain ⟨F', e1, e2⟩ := c_addText (σ := σ) (b := b) ho hb ho2 hne hq hcs (q - p) p F l (by omega) hF h h2
  refine ⟨F', ?_, e2⟩
  unfold f_Text_addText
  rw [show rb_mx (nI p) (0 : Int32) = nI p from if_neg (by rw [u_l0, u_lt (by omega) (by omega)]; omega)]
  exact e1
theorem c_isName (ho : tO o) (hF : fx_ln F) {l : List Nat} (h : tw F o l) (hc : ∀ c, c ∈ l → c < 65536) {p q : Nat} (hpq : p ≤ q) (hq : q ≤ l.length) : f_Text_isName (some (fx_ad b o)) (nI p) (nI q) (fx_mk σ b F) = some (some (.int (nI (b2 (sp_name (slc l p q))))), fx_mk σ b F) := by
  have hl := tw_len hF h
  have h400 := (tcap_le ho).1
  have hlen := slc_len (p := p) hq
  unfold f_Text_isName
  by_cases e1 : q - p < 1
  · have hz : sp_name (slc l p q) = false := by
      unfold sp_name
      rw [decide_eq_false (show ¬ 1 ≤ (slc l p q).length by omega)]
      rfl
    rw [hz]
    simp (disch := omega) only [u_sub, u_l1, ↓reduceIte, n_ltT, n_ltF, n_leT, n_leF, n_eqT, n_eqF, nI_1, u_lt, u_le, u_eq, u_add, u_ix, u_ixL, u_ixR, u_cl, u_nm1, u_nm1', u_m1l, u_m1n, u_l0, Option.bind_some, Option.map_some, not_true_eq_false, not_false_eq_true, true_and, and_true, Nat.add_sub_cancel, Bool.false_eq_true, u_nar2, b2_f]
  · by_cases e8 : q - p ≤ 8
    · have hall : sp_name (slc l p q) = (slc l p q).all sp_nc := by
        unfold sp_name
        rw [decide_eq_true (show 1 ≤ (slc l p q).length by omega), decide_eq_true (show (slc l p q).length ≤ 8 by omega), Bool.true_and, Bool.true_and]
      rw [hall]
      have hloop : ∀ (m k : Nat), k + m = q → p ≤ k → rb_it (fun z : (Int32) => f_Text_isName_b19 (some (fx_ad b o)) (nI q) (z) (fx_mk σ b F)) (nI k) = some (some (.int (nI (b2 ((slc l k q).all sp_nc)))), fx_mk σ b F) := by
        intro m
        induction m with
        | zero =>
          intro k hk hp
          have hz : slc l k q = [] := List.eq_nil_of_length_eq_zero (by rw [slc_len hq]; omega)
          rw [hz]
          refine rb_it_r ?_
          unfold f_Text_isName_b19
          simp (disch := omega) only [↓reduceIte, n_ltT, n_ltF, n_leT, n_leF, n_eqT, n_eqF, nI_1, u_lt, u_le, u_eq, u_add, u_ix, u_ixL, u_ixR, u_cl, u_nm1, u_nm1', u_m1l, u_m1n, u_l0, Option.bind_some, Option.map_some, not_true_eq_false, not_false_eq_true, true_and, and_true, Nat.add_sub_cancel, Bool.false_eq_true, u_nar2, List.all_nil, b2_t, u_l1]
        | succ m ih =>
          intro k hk hp
          have hkl : k < l.length := by omega
          have hg := rk_getD h.2 hkl
          have hci := hc _ (getD_mem (d := 0) hkl)
          have hsp : slc l k q = l.getD k 0 :: slc l (k + 1) q := by
            unfold slc
            rw [List.drop_eq_getElem_cons hkl, show q - k = (q - (k + 1)) + 1 by omega, List.take_succ_cons, getD_get hkl]
          have hj : f_Text_isName_b19 (some (fx_ad b o)) (nI q) (nI k) (fx_mk σ b F) = f_Text_isName_j46 (some (fx_ad b o)) (nI q) (nI k) (nI (l.getD k 0)) (fx_mk σ b F) := by
            unfold f_Text_isName_b19
            simp (disch := omega) only [↓t_b ho, h.1, ↓bx_of rfl (show k < 2147483648 by omega) hg, ↓reduceIte, n_ltT, n_ltF, n_leT, n_leF, n_eqT, n_eqF, nI_1, u_lt, u_le, u_eq, u_add, u_ix, u_ixL, u_ixR, u_cl, u_nm1, u_nm1', u_m1l, u_m1n, u_l0, Option.bind_some, Option.map_some, not_true_eq_false, not_false_eq_true, true_and, and_true, Nat.add_sub_cancel, Bool.false_eq_true, u_nar2]
          rw [hsp, List.all_cons]
          generalize l.getD k 0 = c at hci hj ⊢
          have hres : f_Text_isName_j46 (some (fx_ad b o)) (nI q) (nI k) (nI c) (fx_mk σ b F) = if sp_nc c = true then some (.inl (nI (k + 1))) else some (.inr (some (.int (nI 0)), fx_mk σ b F)) := by
            unfold f_Text_isName_j46 f_Text_isName_j62 f_Text_isName_j76 f_Text_isName_j90 f_Text_isName_j95
            by_cases a1 : c < 97
            · by_cases a2 : c < 48
              · by_cases a3 : c = 46
                · rw [if_pos (show sp_nc c = true by unfold sp_nc; exact decide_eq_true (by omega))]
                  simp (disch := omega) only [u_l97, u_l122, u_l48, u_l57, u_l46, u_l95, u_l1, ↓reduceIte, n_ltT, n_ltF, n_leT, n_leF, n_eqT, n_eqF, nI_1, u_lt, u_le, u_eq, u_add, u_ix, u_ixL, u_ixR, u_cl, u_nm1, u_nm1', u_m1l, u_m1n, u_l0, Option.bind_some, Option.map_some, not_true_eq_false, not_false_eq_true, true_and, and_true, Nat.add_sub_cancel, Bool.false_eq_true, u_nar2]
                · rw [if_neg (show ¬ sp_nc c = true by unfold sp_nc; rw [decide_eq_false (by omega)]; decide)]
                  simp (disch := omega) only [u_l97, u_l122, u_l48, u_l57, u_l46, u_l95, u_l1, ↓reduceIte, n_ltT, n_ltF, n_leT, n_leF, n_eqT, n_eqF, nI_1, u_lt, u_le, u_eq, u_add, u_ix, u_ixL, u_ixR, u_cl, u_nm1, u_nm1', u_m1l, u_m1n, u_l0, Option.bind_some, Option.map_some, not_true_eq_false, not_false_eq_true, true_and, and_true, Nat.add_sub_cancel, Bool.false_eq_true, u_nar2]
              · by_cases a4 : c ≤ 57
                · rw [if_pos (show sp_nc c = true by unfold sp_nc; exact decide_eq_true (by omega))]
                  simp (disch := omega) only [u_l97, u_l122, u_l48, u_l57, u_l46, u_l95, u_l1, ↓reduceIte, n_ltT, n_ltF, n_leT, n_leF, n_eqT, n_eqF, nI_1, u_lt, u_le, u_eq, u_add, u_ix, u_ixL, u_ixR, u_cl, u_nm1, u_nm1', u_m1l, u_m1n, u_l0, Option.bind_some, Option.map_some, not_true_eq_false, not_false_eq_true, true_and, and_true, Nat.add_sub_cancel, Bool.false_eq_true, u_nar2]
                · by_cases a5 : c = 95
                  · rw [if_pos (show sp_nc c = true by unfold sp_nc; exact decide_eq_true (by omega))]
                    simp (disch := omega) only [u_l97, u_l122, u_l48, u_l57, u_l46, u_l95, u_l1, ↓reduceIte, n_ltT, n_ltF, n_leT, n_leF, n_eqT, n_eqF, nI_1, u_lt, u_le, u_eq, u_add, u_ix, u_ixL, u_ixR, u_cl, u_nm1, u_nm1', u_m1l, u_m1n, u_l0, Option.bind_some, Option.map_some, not_true_eq_false, not_false_eq_true, true_and, and_true, Nat.add_sub_cancel, Bool.false_eq_true, u_nar2]
                  · rw [if_neg (show ¬ sp_nc c = true by unfold sp_nc; rw [decide_eq_false (by omega)]; decide)]
                    simp (disch := omega) only [u_l97, u_l122, u_l48, u_l57, u_l46, u_l95, u_l1, ↓reduceIte, n_ltT, n_ltF, n_leT, n_leF, n_eqT, n_eqF, nI_1, u_lt, u_le, u_eq, u_add, u_ix, u_ixL, u_ixR, u_cl, u_nm1, u_nm1', u_m1l, u_m1n, u_l0, Option.bind_some, Option.map_some, not_true_eq_false, not_false_eq_true, true_and, and_true, Nat.add_sub_cancel, Bool.false_eq_true, u_nar2]
            · by_cases a6 : c ≤ 122
              · rw [if_pos (show sp_nc c = true by unfold sp_nc; exact decide_eq_true (by omega))]
                simp (disch := omega) only [u_l97, u_l122, u_l48, u_l57, u_l46, u_l95, u_l1, ↓reduceIte, n_ltT, n_ltF, n_leT, n_leF, n_eqT, n_eqF, nI_1, u_lt, u_le, u_eq, u_add, u_ix, u_ixL, u_ixR, u_cl, u_nm1, u_nm1', u_m1l, u_m1n, u_l0, Option.bind_some, Option.map_some, not_true_eq_false, not_false_eq_true, true_and, and_true, Nat.add_sub_cancel, Bool.false_eq_true, u_nar2]
              · rw [if_neg (show ¬ sp_nc c = true by unfold sp_nc; rw [decide_eq_false (by omega)]; decide)]
                simp (disch := omega) only [u_l97, u_l122, u_l48, u_l57, u_l46, u_l95, u_l1, ↓reduceIte, n_ltT, n_ltF, n_leT, n_leF, n_eqT, n_eqF, nI_1, u_lt, u_le, u_eq, u_add, u_ix, u_ixL, u_ixR, u_cl, u_nm1, u_nm1', u_m1l, u_m1n, u_l0, Option.bind_some, Option.map_some, not_true_eq_false, not_false_eq_true, true_and, and_true, Nat.add_sub_cancel, Bool.false_eq_true, u_nar2]
          rw [hres] at hj
          cases hcn : sp_nc c
          · rw [hcn, if_neg (show ¬ false = true by decide)] at hj
            rw [Bool.false_and]
            exact rb_it_r hj
          · rw [hcn, if_pos rfl] at hj
            rw [Bool.true_and, ← ih (k + 1) (by omega) (by omega)]
            exact rb_it_l hj
      have := hloop (q - p) p (by omega) (Nat.le_refl _)
      rw [← this]
      simp (disch := omega) only [u_sub, u_l1, u_l8, ↓reduceIte, n_ltT, n_ltF, n_leT, n_leF, n_eqT, n_eqF, nI_1, u_lt, u_le, u_eq, u_add, u_ix, u_ixL, u_ixR, u_cl, u_nm1, u_nm1', u_m1l, u_m1n, u_l0, Option.bind_some, Option.map_some, not_true_eq_false, not_false_eq_true, true_and, and_true, Nat.add_sub_cancel, Bool.false_eq_true, u_nar2]
    · have hz : sp_name (slc l p q) = false := by
        unfold sp_name
        rw [decide_eq_false (show ¬ (slc l p q).length ≤ 8 by omega), Bool.and_false]
        rfl
      rw [hz]
      simp (disch := omega) only [u_sub, u_l1, u_l8, ↓reduceIte, n_ltT, n_ltF, n_leT, n_leF, n_eqT, n_eqF, nI_1, u_lt, u_le, u_eq, u_add, u_ix, u_ixL, u_ixR, u_cl, u_nm1, u_nm1', u_m1l, u_m1n, u_l0, Option.bind_some, Option.map_some, not_true_eq_false, not_false_eq_true, true_and, and_true, Nat.add_sub_cancel, Bool.false_eq_true, u_nar2, b2_f]
end
