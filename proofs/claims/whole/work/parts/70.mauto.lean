/-! the reference: dependencies, automatic macros -/
def m_ch (F : fx_F) (t : Nat) (ch : CH) : Prop := (F.2.1 76)[t]? = some (oi (ch.2.1.map Prod.fst)) ∧ (∀ x, ch.2.1 = some x → (F.2.2.1 77)[t]? = some (lN (pq x.2))) ∧ (F.2.1 78)[t]? = some (oi ch.1) ∧ (F.2.1 79)[t]? = some (nI (b2 ch.2.2))
def chok (N : List (List Nat)) (ch : CH) : Prop := (∀ x, ch.2.1 = some x → x.1 < N.length ∧ pq_ok x.2 ∧ tk x.2 ∧ x.2.length ≤ 8) ∧ (∀ g, ch.1 = some g → 1 ≤ g ∧ g ≤ 1000)
theorem m_ch_fr {zi za zl : List Nat} {F F' : fx_F} {t : Nat} {ch : CH} (h : m_ch F t ch) (hf : fr zi za zl F F') (hd : 76 ∉ za ∧ 78 ∉ za ∧ 79 ∉ za ∧ 77 ∉ zl) : m_ch F' t ch := by
  unfold m_ch at *
  rw [hf.2.1 76 hd.1, hf.2.1 78 hd.2.1, hf.2.1 79 hd.2.2.1, hf.2.2.1 77 hd.2.2.2]
  exact h
def prt (l : List (Nat × Nat)) (t : Nat) : List Nat := l.filterMap (fun x => if x.1 = t then some x.2 else none)
theorem prt_cons (x : Nat × Nat) (l : List (Nat × Nat)) (t : Nat) : prt (x :: l) t = if x.1 = t then x.2 :: prt l t else prt l t := by
  unfold prt
  rw [List.filterMap_cons]
  by_cases e : x.1 = t
  · rw [if_pos e, if_pos e]
  · rw [if_neg e, if_neg e]
theorem x_deps_eq (R : RS) (ch : CH) (t : Nat) : x_deps R ch t = (match ch.2.1 with | some x => [x.1] | none => []) ++ prt (rPr R) t := (rfl)
def prk (l : List (Nat × Nat)) : Prop := l.length ≤ 80 ∧ ∀ k, k < l.length → (l.getD k (0, 0)).1 < 32 ∧ (l.getD k (0, 0)).2 < 32
theorem prt_mem {l : List (Nat × Nat)} (h : prk l) {t d : Nat} (hd : d ∈ prt l t) : d < 32 := by
  unfold prt at hd
  obtain ⟨x, hx, he⟩ := List.mem_filterMap.mp hd
  obtain ⟨i, hi, e⟩ := List.mem_iff_getElem.mp hx
  have := (h.2 i hi).2
  rw [getD_get hi, e] at this
  split at he
  · injection he with he
    omega
  · cases he
theorem prt_len (l : List (Nat × Nat)) (t : Nat) : (prt l t).length ≤ l.length := List.length_filterMap_le _ _
theorem deps_len {R : RS} (h : prk (rPr R)) (ch : CH) (t : Nat) : (x_deps R ch t).length ≤ 81 := by
  rw [x_deps_eq, List.length_append]
  have := prt_len (rPr R) t
  have := h.1
  split <;> simp only [List.length_cons, List.length_nil] <;> omega
theorem deps_lt {R : RS} (h : prk (rPr R)) {N : List (List Nat)} (hN : nok N) {ch : CH} (hc : chok N ch) {t d : Nat} (hd : d ∈ x_deps R ch t) : d < 32 := by
  rw [x_deps_eq] at hd
  rcases List.mem_append.mp hd with hd | hd
  · cases hs : ch.2.1 with
    | none =>
      rw [hs] at hd
      cases hd
    | some x =>
      rw [hs] at hd
      have := (hc.1 x hs).1
      have hn := hN.1
      rw [List.mem_singleton] at hd
      omega
  · exact prt_mem h hd
section
variable {σ : rb_St} {b : Nat} {F : fx_F} {R : RS}
theorem m_depLoop {l : List (Nat × Nat)} (hl : prk l) (hm : m_pr F l) {t : Nat} (ht : t < 32) : ∀ (m p left : Nat), p + m = l.length → left < 1000 → rb_it (fun z : (Int32 × Int32) => f_M_dependency_b31 (some (fx_ad b 34)) (nI t) (z.1) (z.2) (fx_mk σ b F)) (nI left, nI p) = some (some (.int (oi (prt (l.drop p) t)[left]?)), fx_mk σ b F) := by
  have h80 := hl.1
  intro m
  induction m with
  | zero =>
    intro p left hp hle
    rw [List.drop_eq_nil_of_le (by omega)]
    refine rb_it_r ?_
    show f_M_dependency_b31 _ _ _ _ _ = _
    unfold f_M_dependency_b31
    simp (disch := omega) only [↓fx_bm, hm.1, ↓reduceIte, n_ltT, n_ltF, n_leT, n_leF, n_eqT, n_eqF, nI_1, u_lt, u_le, u_eq, u_add, u_ix, u_ixL, u_ixR, u_cl, u_nm1, u_nm1', u_m1l, u_m1n, u_l0, Option.bind_some, Option.map_some, not_true_eq_false, not_false_eq_true, true_and, and_true, Nat.add_sub_cancel, Bool.false_eq_true, u_nar2]
    rfl
  | succ m ih =>
    intro p left hp hle
    have hpl : p < l.length := by omega
    have ha := hm.2 p hpl
    have hb2 := hl.2 p hpl
    rw [List.drop_eq_getElem_cons hpl, prt_cons, ← getD_get (d := (0, 0)) hpl]
    generalize l.getD p (0, 0) = x at ha hb2 ⊢
    by_cases e : x.1 = t
    · rw [if_pos e]
      cases left with
      | zero =>
        refine rb_it_r ?_
        show f_M_dependency_b31 _ _ _ _ _ = _
        unfold f_M_dependency_b31
        simp (disch := omega) only [↓fx_bm, hm.1, ↓bx_of rfl (show p < 2147483648 by omega) ha.1, ↓bx_of rfl (show p < 2147483648 by omega) ha.2, e, ↓reduceIte, n_ltT, n_ltF, n_leT, n_leF, n_eqT, n_eqF, nI_1, u_lt, u_le, u_eq, u_add, u_ix, u_ixL, u_ixR, u_cl, u_nm1, u_nm1', u_m1l, u_m1n, u_l0, Option.bind_some, Option.map_some, not_true_eq_false, not_false_eq_true, true_and, and_true, Nat.add_sub_cancel, Bool.false_eq_true, u_nar2]
        rfl
      | succ left =>
        rw [List.getElem?_cons_succ, ← ih (p + 1) left (by omega) (by omega)]
        refine rb_it_l ?_
        show f_M_dependency_b31 _ _ _ _ _ = _
        unfold f_M_dependency_b31
        simp (disch := omega) only [↓fx_bm, hm.1, ↓bx_of rfl (show p < 2147483648 by omega) ha.1, e, u_b1, ↓reduceIte, n_ltT, n_ltF, n_leT, n_leF, n_eqT, n_eqF, nI_1, u_lt, u_le, u_eq, u_add, u_ix, u_ixL, u_ixR, u_cl, u_nm1, u_nm1', u_m1l, u_m1n, u_l0, Option.bind_some, Option.map_some, not_true_eq_false, not_false_eq_true, true_and, and_true, Nat.add_sub_cancel, Bool.false_eq_true, u_nar2]
    · rw [if_neg e, ← ih (p + 1) left (by omega) hle]
      refine rb_it_l ?_
      show f_M_dependency_b31 _ _ _ _ _ = _
      unfold f_M_dependency_b31
      simp (disch := omega) only [↓fx_bm, hm.1, ↓bx_of rfl (show p < 2147483648 by omega) ha.1, e, ↓reduceIte, n_ltT, n_ltF, n_leT, n_leF, n_eqT, n_eqF, nI_1, u_lt, u_le, u_eq, u_add, u_ix, u_ixL, u_ixR, u_cl, u_nm1, u_nm1', u_m1l, u_m1n, u_l0, Option.bind_some, Option.map_some, not_true_eq_false, not_false_eq_true, true_and, and_true, Nat.add_sub_cancel, Bool.false_eq_true, u_nar2]
theorem m_dependency (hl : prk (rPr R)) (hm : m_pr F (rPr R)) {ch : CH} {t : Nat} (ht : t < 32) (hs : (F.2.1 76)[t]? = some (oi (ch.2.1.map Prod.fst))) (hc : ∀ x, ch.2.1 = some x → x.1 < 32) {k : Nat} (hk : k < 900) : f_M_dependency (some (fx_ad b 34)) (nI t) (nI k) (fx_mk σ b F) = some (some (.int (oi (x_deps R ch t)[k]?)), fx_mk σ b F) := by
  rw [x_deps_eq]
  unfold f_M_dependency f_M_dependency_j16
  cases hx : ch.2.1 with
  | none =>
    rw [hx] at hs
    have hloop := m_depLoop (σ := σ) (b := b) hl hm ht (rPr R).length 0 k (by omega) (by omega)
    simp only [Option.map_none, oi_none] at hs
    simp (disch := omega) only [↓fx_bm, ↓bx_of rfl (show t < 2147483648 by omega) hs, u_m10, ↓reduceIte, n_ltT, n_ltF, n_leT, n_leF, n_eqT, n_eqF, nI_1, u_lt, u_le, u_eq, u_add, u_ix, u_ixL, u_ixR, u_cl, u_nm1, u_nm1', u_m1l, u_m1n, u_l0, Option.bind_some, Option.map_some, not_true_eq_false, not_false_eq_true, true_and, and_true, Nat.add_sub_cancel, Bool.false_eq_true, u_nar2, hloop, List.drop_zero, List.nil_append]
  | some x =>
    rw [hx] at hs
    have hx32 := hc x hx
    simp only [Option.map_some, oi_some] at hs
    cases k with
    | zero =>
      simp (disch := omega) only [↓fx_bm, ↓bx_of rfl (show t < 2147483648 by omega) hs, ↓reduceIte, n_ltT, n_ltF, n_leT, n_leF, n_eqT, n_eqF, nI_1, u_lt, u_le, u_eq, u_add, u_ix, u_ixL, u_ixR, u_cl, u_nm1, u_nm1', u_m1l, u_m1n, u_l0, Option.bind_some, Option.map_some, not_true_eq_false, not_false_eq_true, true_and, and_true, Nat.add_sub_cancel, Bool.false_eq_true, u_nar2, show nI 0 - (1 : Int32) = -1 from rfl, u_0m1]
      rfl
    | succ k =>
      have hloop := m_depLoop (σ := σ) (b := b) hl hm ht (rPr R).length 0 k (by omega) (by omega)
      simp (disch := omega) only [↓fx_bm, ↓bx_of rfl (show t < 2147483648 by omega) hs, ↓reduceIte, n_ltT, n_ltF, n_leT, n_leF, n_eqT, n_eqF, nI_1, u_lt, u_le, u_eq, u_add, u_ix, u_ixL, u_ixR, u_cl, u_nm1, u_nm1', u_m1l, u_m1n, u_l0, Option.bind_some, Option.map_some, not_true_eq_false, not_false_eq_true, true_and, and_true, Nat.add_sub_cancel, Bool.false_eq_true, u_nar2, show nI (k + 1) - (1 : Int32) = nI k from u_sb1 k, hloop, List.drop_zero]
      rfl
/-- names behind others, with spaces -/
def tx (sm : Bool) (l : List (List Nat)) : List Nat := if sm = true then l.flatMap (fun w => 32 :: w) else x_join l
theorem x_join_c (a : List Nat) : ∀ (l : List (List Nat)), x_join (a :: l) = a ++ l.flatMap (fun w => 32 :: w)
  | [] => by simp [x_join]
  | c :: l => by
    have := x_join_c c l
    rw [x_join, this, List.flatMap_cons, List.append_assoc]
    rfl
theorem tx_f (a : List Nat) (l : List (List Nat)) : tx false (a :: l) = a ++ tx true l := by
  unfold tx
  rw [if_neg (by decide), if_pos rfl]
  exact x_join_c a l
theorem tx_t (a : List Nat) (l : List (List Nat)) : tx true (a :: l) = [32] ++ (a ++ tx true l) := by
  unfold tx
  rw [if_pos rfl, if_pos rfl, List.flatMap_cons]
  rfl
theorem newer_step (N : List (List Nat)) {ds : List Nat} {nw : List Bool} {k : Nat} (hk : k < ds.length) (hn : ds.length = nw.length) : x_newer N (ds.drop k) (nw.drop k) = if nw.getD k false = true then N.getD (ds.getD k 0) [] :: x_newer N (ds.drop (k + 1)) (nw.drop (k + 1)) else x_newer N (ds.drop (k + 1)) (nw.drop (k + 1)) := by
  unfold x_newer
  rw [List.drop_eq_getElem_cons hk, List.drop_eq_getElem_cons (show k < nw.length by omega), List.zip_cons_cons, List.filter_cons, getD_get hk, getD_get (show k < nw.length by omega)]
  by_cases e : nw[k] = true
  · rw [if_pos e, if_pos e, List.map_cons]
  · rw [if_neg e, if_neg e]
/-- what automatic macros look at -/
def m_av (F : fx_F) (R : RS) (N : List (List Nat)) (ch : CH) (nw : List Bool) (t : Nat) : Prop := m_names F N ∧ m_pr F (rPr R) ∧ m_ch F t ch ∧ F.1 3468 = nI t ∧ ∀ i, i < nw.length → (F.2.1 81)[i]? = some (nI (b2 (nw.getD i false)))
theorem m_av_fr {zi za zl : List Nat} {F F' : fx_F} {N : List (List Nat)} {ch : CH} {nw : List Bool} {t : Nat} (h : m_av F R N ch nw t) (hf : fr zi za zl F F') (hd : (3402 ∉ zi ∧ 36 ∉ zl) ∧ (3429 ∉ zi ∧ 54 ∉ za ∧ 55 ∉ za) ∧ (76 ∉ za ∧ 78 ∉ za ∧ 79 ∉ za ∧ 77 ∉ zl) ∧ 3468 ∉ zi ∧ 81 ∉ za) : m_av F' R N ch nw t := by
  obtain ⟨h1, h2, h3, h4, h5⟩ := h
  refine ⟨m_names_fr h1 hf hd.1, m_pr_fr h2 hf hd.2.1, m_ch_fr h3 hf hd.2.2.1, ?_, ?_⟩
  · rw [hf.1 3468 hd.2.2.2.1]
    exact h4
  · rw [hf.2.1 81 hd.2.2.2.2]
    exact h5
theorem m_newer0 (hl : prk (rPr R)) {N : List (List Nat)} {ch : CH} {nw : List Bool} {t : Nat} (hN : nok N) (ht : t < 32) (hc : chok N ch) (hnw : (x_deps R ch t).length = nw.length) (hv : m_av F R N ch nw t) : ∀ (m k : Nat) (sm : Bool), k + m = nw.length → rb_it (fun z : (Int32 × Int32 × Int32 × Int32 × rb_St) => f_M_appendNewer_b15 (some (fx_ad b 34)) (nI t) (z.1) (z.2.1) (z.2.2.1) (z.2.2.2.1) z.2.2.2.2) (nI 0, nI (b2 sm), oi (x_deps R ch t)[k]?, nI k, fx_mk σ b F) = some (some (.int (nI 0)), fx_mk σ b F) := by
  have h81 := deps_len hl ch t
  have hc32 : ∀ x, ch.2.1 = some x → x.1 < 32 := fun x hx => Nat.lt_of_lt_of_le (hc.1 x hx).1 hN.1
  intro m
  induction m with
  | zero =>
    intro k sm hk
    rw [List.getElem?_eq_none (by omega), oi_none]
    refine rb_it_r ?_
    show f_M_appendNewer_b15 _ _ _ _ _ _ _ = _
    unfold f_M_appendNewer_b15
    simp only [u_l0, u_m10, if_true, if_pos (show rb_isZ (nI 0) from Or.inl rfl)]
    rfl
  | succ m ih =>
    intro k sm hk
    have hkd : k < (x_deps R ch t).length := by omega
    have hd32 : (x_deps R ch t)[k] < 32 := deps_lt hl hN hc (List.getElem_mem hkd)
    have hdep := m_dependency (σ := σ) (b := b) hl hv.2.1 (ch := ch) ht hv.2.2.1.1 hc32 (k := k + 1) (by omega)
    have hdep' : f_M_dependency (some (fx_ad b 34)) (nI t) (nI k + (1 : Int32)) (fx_mk σ b F) = some (some (.int (oi (x_deps R ch t)[k + 1]?)), fx_mk σ b F) := by
      rw [u_l1, u_add]
      exact hdep
    have hn := hv.2.2.2.2 k (by omega)
    rw [List.getElem?_eq_getElem hkd, oi_some]
    cases hb : nw.getD k false
    · rw [hb, b2_f] at hn
      rw [← ih (k + 1) sm (by omega)]
      refine rb_it_l ?_
      show f_M_appendNewer_b15 _ _ _ _ _ _ _ = _
      unfold f_M_appendNewer_b15
      simp (disch := omega) only [↓fx_bm, ↓bx_of rfl (show k < 2147483648 by omega) hn, f_M_appendNewer_j69, ↓cI_of hdep', ↓reduceIte, n_ltT, n_ltF, n_leT, n_leF, n_eqT, n_eqF, nI_1, u_lt, u_le, u_eq, u_add, u_ix, u_ixL, u_ixR, u_cl, u_nm1, u_nm1', u_m1l, u_m1n, u_l0, Option.bind_some, Option.map_some, not_true_eq_false, not_false_eq_true, true_and, and_true, Nat.add_sub_cancel, Bool.false_eq_true, u_nar2]
    · rw [hb, b2_t] at hn
      rw [← ih (k + 1) true (by omega)]
      refine rb_it_l ?_
      show f_M_appendNewer_b15 _ _ _ _ _ _ _ = _
      unfold f_M_appendNewer_b15
      simp (disch := omega) only [↓fx_bm, ↓bx_of rfl (show k < 2147483648 by omega) hn, f_M_appendNewer_j65, f_M_appendNewer_j66, f_M_appendNewer_j69, ↓cI_of hdep', ↓reduceIte, n_ltT, n_ltF, n_leT, n_leF, n_eqT, n_eqF, nI_1, u_lt, u_le, u_eq, u_add, u_ix, u_ixL, u_ixR, u_cl, u_nm1, u_nm1', u_m1l, u_m1n, u_l0, Option.bind_some, Option.map_some, not_true_eq_false, not_false_eq_true, true_and, and_true, Nat.add_sub_cancel, Bool.false_eq_true, u_nar2, b2_t, u_l1]
theorem m_newer1 (hb : rb_b σ ≤ b) (hl : prk (rPr R)) {N : List (List Nat)} {ch : CH} {nw : List Bool} {t : Nat} (hN : nok N) (ht : t < 32) (hdl : ∀ d, d ∈ x_deps R ch t → d < N.length) (hc : chok N ch) (hnw : (x_deps R ch t).length = nw.length) : ∀ (m k : Nat) (F : fx_F) (o : List Nat) (sm : Bool), k + m = nw.length → fx_ln F → m_av F R N ch nw t → m_out F o → o.length ≤ 120 → ∃ F', rb_it (fun z : (Int32 × Int32 × Int32 × Int32 × rb_St) => f_M_appendNewer_b15 (some (fx_ad b 34)) (nI t) (z.1) (z.2.1) (z.2.2.1) (z.2.2.2.1) z.2.2.2.2) (nI 1, nI (b2 sm), oi (x_deps R ch t)[k]?, nI k, fx_mk σ b F) = some (some (.int (if o.length + (tx sm (x_newer N ((x_deps R ch t).drop k) (nw.drop k))).length ≤ 120 then nI 1 else nI 0)), fx_mk σ b F') ∧ (o.length + (tx sm (x_newer N ((x_deps R ch t).drop k) (nw.drop k))).length ≤ 120 → m_out F' (o ++ tx sm (x_newer N ((x_deps R ch t).drop k) (nw.drop k)))) ∧ fx_ln F' ∧ fr [3444] [62] [] F F' := by
  have h81 := deps_len hl ch t
  have hc32 : ∀ x, ch.2.1 = some x → x.1 < 32 := fun x hx => Nat.lt_of_lt_of_le (hc.1 x hx).1 hN.1
  intro m
  induction m with
  | zero =>
    intro k F o sm hk hF hv hmo ho
    rw [List.getElem?_eq_none (by omega), oi_none, List.drop_eq_nil_of_le (by omega)]
    have hz : tx sm (x_newer N [] (nw.drop k)) = [] := by
      unfold tx x_newer
      cases sm <;> rfl
    rw [hz, List.length_nil, Nat.add_zero, if_pos ho]
    refine ⟨F, ?_, fun _ => by rw [List.append_nil]; exact hmo, hF, fr_refl _ _ _ _⟩
    refine rb_it_r ?_
    show f_M_appendNewer_b15 _ _ _ _ _ _ _ = _
    unfold f_M_appendNewer_b15
    simp only [u_l0, u_m10, if_true, if_pos (show rb_isZ (nI 1) from Or.inr rfl)]
    rfl
  | succ m ih =>
    intro k F o sm hk hF hv hmo ho
    have hkd : k < (x_deps R ch t).length := by omega
    have hd32 : (x_deps R ch t)[k] < 32 := deps_lt hl hN hc (List.getElem_mem hkd)
    have hdN : (x_deps R ch t)[k] < N.length := hdl _ (List.getElem_mem hkd)
    have hdepF : ∀ F1 : fx_F, m_av F1 R N ch nw t → f_M_dependency (some (fx_ad b 34)) (nI t) (nI k + (1 : Int32)) (fx_mk σ b F1) = some (some (.int (oi (x_deps R ch t)[k + 1]?)), fx_mk σ b F1) := fun F1 hv1 => by
      rw [u_l1, u_add]
      exact m_dependency (σ := σ) (b := b) hl hv1.2.1 (ch := ch) ht hv1.2.2.1.1 hc32 (k := k + 1) (by omega)
    have hn := hv.2.2.2.2 k (by omega)
    rw [newer_step N hkd hnw, getD_get hkd]
    rw [show (x_deps R ch t)[k]? = some (x_deps R ch t)[k] from List.getElem?_eq_getElem hkd, oi_some]
    generalize (x_deps R ch t)[k] = d at hd32 hdN ⊢
    cases hbn : nw.getD k false
    · rw [hbn, b2_f] at hn
      rw [if_neg (show ¬ false = true by decide)]
      obtain ⟨F', e1, e2, e3, e4⟩ := ih (k + 1) F o sm (by omega) hF hv hmo ho
      refine ⟨F', ?_, e2, e3, e4⟩
      rw [← e1]
      refine rb_it_l ?_
      show f_M_appendNewer_b15 _ _ _ _ _ _ _ = _
      unfold f_M_appendNewer_b15
      simp (disch := omega) only [↓fx_bm, ↓bx_of rfl (show k < 2147483648 by omega) hn, f_M_appendNewer_j69, ↓cI_of (hdepF F hv), ↓reduceIte, n_ltT, n_ltF, n_leT, n_leF, n_eqT, n_eqF, nI_1, u_lt, u_le, u_eq, u_add, u_ix, u_ixL, u_ixR, u_cl, u_nm1, u_nm1', u_m1l, u_m1n, u_l0, Option.bind_some, Option.map_some, not_true_eq_false, not_false_eq_true, true_and, and_true, Nat.add_sub_cancel, Bool.false_eq_true, u_nar2]
    · rw [hbn, b2_t] at hn
      rw [if_pos rfl]
      have hwd := nok_pq hN hdN
      have hnm := hv.1.2 d hdN
      -- appending the name, behind o1
      have key : ∀ (F1 : fx_F) (o1 : List Nat), fx_ln F1 → m_av F1 R N ch nw t → m_out F1 o1 → o1.length ≤ 120 → fr [3444] [62] [] F F1 → ∃ F', (match f_M_appendNewer_j47 (some (fx_ad b 34)) (nI t) (nI d) (nI k) (fx_mk σ b F1) with | some (.inl s) => rb_it (fun z : (Int32 × Int32 × Int32 × Int32 × rb_St) => f_M_appendNewer_b15 (some (fx_ad b 34)) (nI t) (z.1) (z.2.1) (z.2.2.1) (z.2.2.2.1) z.2.2.2.2) s | some (.inr a) => some a | none => none) = some (some (.int (if o1.length + (N.getD d [] ++ tx true (x_newer N ((x_deps R ch t).drop (k + 1)) (nw.drop (k + 1)))).length ≤ 120 then nI 1 else nI 0)), fx_mk σ b F') ∧ (o1.length + (N.getD d [] ++ tx true (x_newer N ((x_deps R ch t).drop (k + 1)) (nw.drop (k + 1)))).length ≤ 120 → m_out F' (o1 ++ (N.getD d [] ++ tx true (x_newer N ((x_deps R ch t).drop (k + 1)) (nw.drop (k + 1)))))) ∧ fx_ln F' ∧ fr [3444] [62] [] F F' := by
        intro F1 o1 hF1 hv1 hmo1 ho1 hfr1
        obtain ⟨F2, a1, a2, a3, a4⟩ := m_appendName (σ := σ) (b := b) hb (w := N.getD d []) (by omega) hwd.2.2 F1 hF1 o1 ho1 hmo1
        have hv2 := m_av_fr hv1 a4 (by decide)
        have hnm1 := hv1.1.2 d hdN
        rw [List.length_append]
        by_cases e : o1.length + (N.getD d []).length ≤ 120
        · rw [if_pos e] at a1
          have hmo2 := a2 e
          obtain ⟨F', e1, e2, e3, e4⟩ := ih (k + 1) F2 (o1 ++ N.getD d []) true (by omega) a3 hv2 hmo2 (by rw [List.length_append]; exact e)
          rw [List.length_append, Nat.add_assoc] at e1 e2
          refine ⟨F', ?_, fun h => ?_, e3, fr_trans hfr1 (fr_trans a4 e4)⟩
          · rw [← e1]
            unfold f_M_appendNewer_j47
            simp (disch := omega) only [↓fx_bm, ↓bL_of rfl (show d < 2147483648 by omega) hnm1, ↓cI_of a1, f_M_appendNewer_j66, f_M_appendNewer_j69, ↓cI_of (hdepF F2 hv2), ↓reduceIte, n_ltT, n_ltF, n_leT, n_leF, n_eqT, n_eqF, nI_1, u_lt, u_le, u_eq, u_add, u_ix, u_ixL, u_ixR, u_cl, u_nm1, u_nm1', u_m1l, u_m1n, u_l0, Option.bind_some, Option.map_some, not_true_eq_false, not_false_eq_true, true_and, and_true, Nat.add_sub_cancel, Bool.false_eq_true, u_nar2, b2_t, u_l1]
          · rw [← List.append_assoc]
            exact e2 h
        · rw [if_neg e] at a1
          have h0 := m_newer0 (σ := σ) (b := b) (F := F2) hl hN ht hc hnw hv2 m (k + 1) true (by omega)
          refine ⟨F2, ?_, fun h => absurd h (by omega), a3, fr_trans hfr1 a4⟩
          rw [if_neg (by omega), ← h0]
          unfold f_M_appendNewer_j47
          simp (disch := omega) only [↓fx_bm, ↓bL_of rfl (show d < 2147483648 by omega) hnm1, ↓cI_of a1, f_M_appendNewer_j65, f_M_appendNewer_j66, f_M_appendNewer_j69, ↓cI_of (hdepF F2 hv2), ↓reduceIte, n_ltT, n_ltF, n_leT, n_leF, n_eqT, n_eqF, nI_1, u_lt, u_le, u_eq, u_add, u_ix, u_ixL, u_ixR, u_cl, u_nm1, u_nm1', u_m1l, u_m1n, u_l0, Option.bind_some, Option.map_some, not_true_eq_false, not_false_eq_true, true_and, and_true, Nat.add_sub_cancel, Bool.false_eq_true, u_nar2, b2_t, u_l1]
      have hit : ∀ {B : Int32 × Int32 × Int32 × Int32 × rb_St → Option ((Int32 × Int32 × Int32 × Int32 × rb_St) ⊕ rb_Rs)} {s : Int32 × Int32 × Int32 × Int32 × rb_St} {c : Option ((Int32 × Int32 × Int32 × Int32 × rb_St) ⊕ rb_Rs)}, B s = c → ∀ {r : rb_Rs}, (match c with | some (.inl s) => rb_it B s | some (.inr a) => some a | none => none) = some r → rb_it B s = some r := by
        intro B s c hc r hr
        subst hc
        cases hB : B s with
        | none =>
          rw [hB] at hr
          cases hr
        | some v =>
          rw [hB] at hr
          cases v with
          | inl s' => exact (rb_it_l hB).trans hr
          | inr a => exact (rb_it_r hB).trans hr
      cases sm
      · rw [tx_f]
        obtain ⟨F', e1, e2, e3, e4⟩ := key F o hF hv hmo ho (fr_refl _ _ _ _)
        refine ⟨F', hit ?_ e1, e2, e3, e4⟩
        show f_M_appendNewer_b15 _ _ _ _ _ _ _ = _
        unfold f_M_appendNewer_b15
        simp (disch := omega) only [↓fx_bm, ↓bx_of rfl (show k < 2147483648 by omega) hn, ↓reduceIte, n_ltT, n_ltF, n_leT, n_leF, n_eqT, n_eqF, nI_1, u_lt, u_le, u_eq, u_add, u_ix, u_ixL, u_ixR, u_cl, u_nm1, u_nm1', u_m1l, u_m1n, u_l0, Option.bind_some, Option.map_some, not_true_eq_false, not_false_eq_true, true_and, and_true, Nat.add_sub_cancel, Bool.false_eq_true, u_nar2, b2_f]
      · rw [tx_t]
        obtain ⟨F1, a1, a2, a3, a4⟩ := m_append (σ := σ) (b := b) hb hF ho hmo 32
        have a1' : ∀ x, (if o.length < 120 then nI 1 else nI 0) = x → f_M_append (some (fx_ad b 34)) (32 : Int32) (fx_mk σ b F) = some (some (.int x), fx_mk σ b F1) := fun x hx => by
          rw [← hx]
          exact a1
        have hv1 := m_av_fr hv a4 (by decide)
        by_cases e : o.length < 120
        · rw [if_pos e] at a2
          obtain ⟨F', e1, e2, e3, e4⟩ := key F1 (o ++ [32]) a3 hv1 a2 (by rw [List.length_append, List.length_cons, List.length_nil]; omega) a4
          rw [List.length_append, Nat.add_assoc, ← List.length_append (as := [32])] at e1 e2
          refine ⟨F', hit ?_ e1, fun h => ?_, e3, e4⟩
          · show f_M_appendNewer_b15 _ _ _ _ _ _ _ = _
            unfold f_M_appendNewer_b15
            simp (disch := omega) only [↓fx_bm, ↓bx_of rfl (show k < 2147483648 by omega) hn, ↓reduceIte, n_ltT, n_ltF, n_leT, n_leF, n_eqT, n_eqF, nI_1, u_lt, u_le, u_eq, u_add, u_ix, u_ixL, u_ixR, u_cl, u_nm1, u_nm1', u_m1l, u_m1n, u_l0, Option.bind_some, Option.map_some, not_true_eq_false, not_false_eq_true, true_and, and_true, Nat.add_sub_cancel, Bool.false_eq_true, u_nar2, b2_t, ↓cI_of (a1' (nI 1) (if_pos e))]
          · rw [← List.append_assoc]
            exact e2 h
        · have h0 := m_newer0 (σ := σ) (b := b) (F := F1) hl hN ht hc hnw hv1 m (k + 1) true (by omega)
          refine ⟨F1, ?_, fun h => absurd h (by rw [List.length_append, List.length_cons, List.length_nil]; omega), a3, a4⟩
          rw [if_neg (by rw [List.length_append, List.length_cons, List.length_nil]; omega), ← h0]
          refine rb_it_l ?_
          show f_M_appendNewer_b15 _ _ _ _ _ _ _ = _
          unfold f_M_appendNewer_b15
          simp (disch := omega) only [↓fx_bm, ↓bx_of rfl (show k < 2147483648 by omega) hn, ↓reduceIte, n_ltT, n_ltF, n_leT, n_leF, n_eqT, n_eqF, nI_1, u_lt, u_le, u_eq, u_add, u_ix, u_ixL, u_ixR, u_cl, u_nm1, u_nm1', u_m1l, u_m1n, u_l0, Option.bind_some, Option.map_some, not_true_eq_false, not_false_eq_true, true_and, and_true, Nat.add_sub_cancel, Bool.false_eq_true, u_nar2, b2_t, ↓cI_of (a1' (nI 0) (if_neg e)), f_M_appendNewer_j65, f_M_appendNewer_j66, f_M_appendNewer_j69, ↓cI_of (hdepF F1 hv1), u_l1]
theorem m_autoC (hb : rb_b σ ≤ b) (hl : prk (rPr R)) {N : List (List Nat)} {ch : CH} {nw : List Bool} {t : Nat} (hN : nok N) (ht : t < N.length) (hdl : ∀ d, d ∈ x_deps R ch t → d < N.length) (hc : chok N ch) (hnw : (x_deps R ch t).length = nw.length) (hv : m_av F R N ch nw t) : m_auto σ b F (x_auto N ch (x_deps R ch t) nw t) := by
  intro F1 o c hfr hF1 hmo ho hc127
  have hv1 : m_av F1 R N ch nw t := m_av_fr hv hfr (by decide)
  have ht32 : t < 32 := Nat.lt_of_lt_of_le ht hN.1
  have hcur := hv1.2.2.2.1
  have hnt := hv1.1.2 t ht
  have hwt := nok_pq hN ht
  obtain ⟨s1, s2, s3, s4⟩ := hv1.2.2.1
  have hgood : ∀ (w : List Nat), w.length ≤ 8 → pq_ok w → ∃ F', f_M_appendName (some (fx_ad b 34)) (lN (pq w)) (fx_mk σ b F1) = some (some (.int (nI (b2 (decide (o.length + w.length ≤ 120))))), fx_mk σ b F') ∧ (o.length + w.length ≤ 120 → m_out F' (o ++ w)) ∧ fx_ln F' ∧ fr [3444] [62] [] F1 F' := by
    intro w hw8 hwok
    obtain ⟨F', a1, a2, a3, a4⟩ := m_appendName (σ := σ) (b := b) hb (w := w) (by omega) hwok F1 hF1 o ho hmo
    refine ⟨F', ?_, a2, a3, a4⟩
    rw [a1]
    by_cases e : o.length + w.length ≤ 120
    · rw [if_pos e, decide_eq_true e]
      rfl
    · rw [if_neg e, decide_eq_false e]
      rfl
  have hb2 : ∀ (w : List Nat), (if o.length + w.length ≤ 120 then nI 1 else nI 0) = nI (b2 (decide (o.length + w.length ≤ 120))) := fun w => by
    by_cases e : o.length + w.length ≤ 120
    · rw [if_pos e, decide_eq_true e]
      rfl
    · rw [if_neg e, decide_eq_false e]
      rfl
  have hsame : ∃ F', (some (some (Value.int (nI 1)), fx_mk σ b F1) : Option rb_Rs) = some (some (.int (if o.length + ([] : List Nat).length ≤ 120 then nI 1 else nI 0)), fx_mk σ b F') ∧ (∀ l, some ([] : List Nat) = some l → o.length + l.length ≤ 120 → m_out F' (o ++ l)) ∧ fx_ln F' ∧ fr [3444] [62] [] F1 F' := by
    refine ⟨F1, ?_, fun l hl _ => ?_, hF1, fr_refl _ _ _ _⟩
    · rw [List.length_nil, Nat.add_zero, if_pos ho]
    · injection hl with hl
      subst hl
      rw [List.append_nil]
      exact hmo
  unfold f_M_automatic x_auto
  by_cases c1 : c = 64
  · subst c1
    obtain ⟨F', a1, a2, a3, a4⟩ := hgood (N.getD t []) hwt.1 hwt.2.2
    refine ⟨F', ?_, fun l hl => ?_, a3, a4⟩
    · rw [if_pos rfl]
      simp only
      rw [hb2]
      simp (disch := omega) only [↓fx_bm, hcur, show (42 : Int32) = nI 42 from rfl, show (60 : Int32) = nI 60 from rfl, show (63 : Int32) = nI 63 from rfl, show (64 : Int32) = nI 64 from rfl, ↓reduceIte, n_ltT, n_ltF, n_leT, n_leF, n_eqT, n_eqF, nI_1, u_lt, u_le, u_eq, u_add, u_ix, u_ixL, u_ixR, u_cl, u_nm1, u_nm1', u_m1l, u_m1n, u_l0, Option.bind_some, Option.map_some, not_true_eq_false, not_false_eq_true, true_and, and_true, Nat.add_sub_cancel, Bool.false_eq_true, u_nar2, hnt, cI_of a1, if_pos (isZ_b2 _), Nat.reduceEqDiff]
    · rw [if_pos rfl] at hl
      injection hl with hl
      subst hl
      exact a2
  · rw [if_neg c1]
    by_cases c2 : c = 60
    · subst c2
      rw [if_pos rfl]
      cases hbd : ch.2.2
      · rw [hbd, b2_f] at s4
        cases hsrc : ch.2.1 with
        | none =>
          rw [hsrc] at s1
          simp only [Option.map_none, oi_none] at s1
          obtain ⟨F', h1, h2⟩ := hsame
          refine ⟨F', ?_, h2⟩
          refine Eq.trans ?_ h1
          simp (disch := omega) only [↓fx_bm, hcur, show (42 : Int32) = nI 42 from rfl, show (60 : Int32) = nI 60 from rfl, ↓reduceIte, n_ltT, n_ltF, n_leT, n_leF, n_eqT, n_eqF, nI_1, u_lt, u_le, u_eq, u_add, u_ix, u_ixL, u_ixR, u_cl, u_nm1, u_nm1', u_m1l, u_m1n, u_l0, Option.bind_some, Option.map_some, not_true_eq_false, not_false_eq_true, true_and, and_true, Nat.add_sub_cancel, Bool.false_eq_true, u_nar2, s4, s1, u_m10, Nat.reduceEqDiff]
          rfl
        | some x =>
          rw [hsrc] at s1
          simp only [Option.map_some, oi_some] at s1
          have hxN := (hc.1 x hsrc).1
          have hx32 : x.1 < 32 := Nat.lt_of_lt_of_le hxN hN.1
          have hwx := nok_pq hN hxN
          have hnx := hv1.1.2 x.1 hxN
          obtain ⟨F', a1, a2, a3, a4⟩ := hgood (N.getD x.1 []) hwx.1 hwx.2.2
          refine ⟨F', ?_, fun l hl => ?_, a3, a4⟩
          · show _ = some (some (Value.int (if o.length + (N.getD x.1 []).length ≤ 120 then nI 1 else nI 0)), _)
            rw [hb2]
            cases hd : decide (o.length + (N.getD x.1 []).length ≤ 120)
            · rw [hd, b2_f] at a1
              simp (disch := omega) only [↓fx_bm, hcur, show (42 : Int32) = nI 42 from rfl, show (60 : Int32) = nI 60 from rfl, ↓reduceIte, n_ltT, n_ltF, n_leT, n_leF, n_eqT, n_eqF, nI_1, u_lt, u_le, u_eq, u_add, u_ix, u_ixL, u_ixR, u_cl, u_nm1, u_nm1', u_m1l, u_m1n, u_l0, Option.bind_some, Option.map_some, not_true_eq_false, not_false_eq_true, true_and, and_true, Nat.add_sub_cancel, Bool.false_eq_true, u_nar2, s4, s1, hnx, cI_of a1, b2_f, Nat.reduceEqDiff]
            · rw [hd, b2_t] at a1
              simp (disch := omega) only [↓fx_bm, hcur, show (42 : Int32) = nI 42 from rfl, show (60 : Int32) = nI 60 from rfl, ↓reduceIte, n_ltT, n_ltF, n_leT, n_leF, n_eqT, n_eqF, nI_1, u_lt, u_le, u_eq, u_add, u_ix, u_ixL, u_ixR, u_cl, u_nm1, u_nm1', u_m1l, u_m1n, u_l0, Option.bind_some, Option.map_some, not_true_eq_false, not_false_eq_true, true_and, and_true, Nat.add_sub_cancel, Bool.false_eq_true, u_nar2, s4, s1, hnx, cI_of a1, b2_t, u_l1, Nat.reduceEqDiff]
          · replace hl : some (N.getD x.1 []) = some l := hl
            injection hl with hl
            subst hl
            exact a2
      · rw [hbd, b2_t] at s4
        obtain ⟨F', a1, a2, a3, a4⟩ := hgood (N.getD t []) hwt.1 hwt.2.2
        refine ⟨F', ?_, fun l hl => ?_, a3, a4⟩
        · show _ = some (some (Value.int (if o.length + (N.getD t []).length ≤ 120 then nI 1 else nI 0)), _)
          rw [hb2]
          simp (disch := omega) only [↓fx_bm, hcur, show (42 : Int32) = nI 42 from rfl, show (60 : Int32) = nI 60 from rfl, ↓reduceIte, n_ltT, n_ltF, n_leT, n_leF, n_eqT, n_eqF, nI_1, u_lt, u_le, u_eq, u_add, u_ix, u_ixL, u_ixR, u_cl, u_nm1, u_nm1', u_m1l, u_m1n, u_l0, Option.bind_some, Option.map_some, not_true_eq_false, not_false_eq_true, true_and, and_true, Nat.add_sub_cancel, Bool.false_eq_true, u_nar2, s4, hnt, cI_of a1, if_pos (isZ_b2 _), Nat.reduceEqDiff]
        · replace hl : some (N.getD t []) = some l := hl
          injection hl with hl
          subst hl
          exact a2
    · rw [if_neg c2]
      by_cases c3 : c = 42
      · subst c3
        rw [if_pos rfl]
        cases hsrc : ch.2.1 with
        | none =>
          rw [hsrc] at s1
          simp only [Option.map_none, oi_none] at s1
          obtain ⟨F', h1, h2⟩ := hsame
          refine ⟨F', ?_, h2⟩
          refine Eq.trans ?_ h1
          simp (disch := omega) only [↓fx_bm, hcur, show (42 : Int32) = nI 42 from rfl, ↓reduceIte, n_ltT, n_ltF, n_leT, n_leF, n_eqT, n_eqF, nI_1, u_lt, u_le, u_eq, u_add, u_ix, u_ixL, u_ixR, u_cl, u_nm1, u_nm1', u_m1l, u_m1n, u_l0, Option.bind_some, Option.map_some, not_true_eq_false, not_false_eq_true, true_and, and_true, Nat.add_sub_cancel, Bool.false_eq_true, u_nar2, s1, u_m10]
          rfl
        | some x =>
          rw [hsrc] at s1
          simp only [Option.map_some, oi_some] at s1
          have hxo := hc.1 x hsrc
          have hx32 : x.1 < 32 := Nat.lt_of_lt_of_le hxo.1 hN.1
          have hst := s2 x hsrc
          obtain ⟨F', a1, a2, a3, a4⟩ := hgood x.2 hxo.2.2.2 hxo.2.1
          refine ⟨F', ?_, fun l hl => ?_, a3, a4⟩
          · simp only
            rw [hb2]
            cases hd : decide (o.length + x.2.length ≤ 120)
            · rw [hd, b2_f] at a1
              simp (disch := omega) only [↓fx_bm, hcur, show (42 : Int32) = nI 42 from rfl, ↓reduceIte, n_ltT, n_ltF, n_leT, n_leF, n_eqT, n_eqF, nI_1, u_lt, u_le, u_eq, u_add, u_ix, u_ixL, u_ixR, u_cl, u_nm1, u_nm1', u_m1l, u_m1n, u_l0, Option.bind_some, Option.map_some, not_true_eq_false, not_false_eq_true, true_and, and_true, Nat.add_sub_cancel, Bool.false_eq_true, u_nar2, s1, hst, cI_of a1, b2_f]
            · rw [hd, b2_t] at a1
              simp (disch := omega) only [↓fx_bm, hcur, show (42 : Int32) = nI 42 from rfl, ↓reduceIte, n_ltT, n_ltF, n_leT, n_leF, n_eqT, n_eqF, nI_1, u_lt, u_le, u_eq, u_add, u_ix, u_ixL, u_ixR, u_cl, u_nm1, u_nm1', u_m1l, u_m1n, u_l0, Option.bind_some, Option.map_some, not_true_eq_false, not_false_eq_true, true_and, and_true, Nat.add_sub_cancel, Bool.false_eq_true, u_nar2, s1, hst, cI_of a1, b2_t, u_l1]
          · simp only at hl
            injection hl with hl
            subst hl
            exact a2
      · rw [if_neg c3]
        by_cases c4 : c = 63
        · subst c4
          rw [if_pos rfl]
          have hdep := m_dependency (σ := σ) (b := b) hl hv1.2.1 (ch := ch) ht32 s1 (fun x hx => Nat.lt_of_lt_of_le (hc.1 x hx).1 hN.1) (k := 0) (by omega)
          obtain ⟨F', a1, a2, a3, a4⟩ := m_newer1 (σ := σ) (b := b) hb hl hN ht32 hdl hc hnw nw.length 0 F1 o false (by omega) hF1 hv1 hmo ho
          rw [List.drop_zero, List.drop_zero] at a1 a2
          have htx : tx false (x_newer N (x_deps R ch t) nw) = x_join (x_newer N (x_deps R ch t) nw) := if_neg (by decide)
          rw [htx] at a1 a2
          have a1' : f_M_appendNewer (some (fx_ad b 34)) (nI t) (fx_mk σ b F1) = some (some (.int (nI (b2 (decide (o.length + (x_join (x_newer N (x_deps R ch t) nw)).length ≤ 120))))), fx_mk σ b F') := by
            have hdep' : f_M_dependency (some (fx_ad b 34)) (nI t) (0 : Int32) (fx_mk σ b F1) = some (some (.int (oi (x_deps R ch t)[0]?)), fx_mk σ b F1) := hdep
            rw [← hb2, ← a1]
            unfold f_M_appendNewer
            simp (disch := omega) only [↓fx_bm, ↓cI_of hdep']
            rfl
          refine ⟨F', ?_, fun l hl => ?_, a3, a4⟩
          · simp only
            rw [hb2]
            simp (disch := omega) only [↓fx_bm, hcur, show (42 : Int32) = nI 42 from rfl, show (60 : Int32) = nI 60 from rfl, show (63 : Int32) = nI 63 from rfl, ↓reduceIte, n_ltT, n_ltF, n_leT, n_leF, n_eqT, n_eqF, nI_1, u_lt, u_le, u_eq, u_add, u_ix, u_ixL, u_ixR, u_cl, u_nm1, u_nm1', u_m1l, u_m1n, u_l0, Option.bind_some, Option.map_some, not_true_eq_false, not_false_eq_true, true_and, and_true, Nat.add_sub_cancel, Bool.false_eq_true, u_nar2, cI_of a1', if_pos (isZ_b2 _), Nat.reduceEqDiff]
          · injection hl with hl
            subst hl
            exact a2
        · rw [if_neg c4]
          refine ⟨F1, ?_, fun l hl => (by cases hl), hF1, fr_refl _ _ _ _⟩
          simp (disch := omega) only [↓fx_bm, show (42 : Int32) = nI 42 from rfl, show (60 : Int32) = nI 60 from rfl, show (63 : Int32) = nI 63 from rfl, show (64 : Int32) = nI 64 from rfl, ↓reduceIte, n_ltT, n_ltF, n_leT, n_leF, n_eqT, n_eqF, nI_1, u_lt, u_le, u_eq, u_add, u_ix, u_ixL, u_ixR, u_cl, u_nm1, u_nm1', u_m1l, u_m1n, u_l0, Option.bind_some, Option.map_some, not_true_eq_false, not_false_eq_true, true_and, and_true, Nat.add_sub_cancel, Bool.false_eq_true, u_nar2]
end
