/-! update, by recursion and by the reference's loop -/
theorem uok_mono {N N' : List (List Nat)} {u : List Nat} (h : uok N u) (hl : N.length ≤ N'.length) : uok N' u := ⟨h.1, fun j hj => Nat.lt_of_lt_of_le (h.2 j hj) hl⟩
/-- what an update keeps -/
def updS (R : RS) (u : List Nat) (t : Nat) (S S' : BS) : Prop := bok R S' ∧ (pN S.1).length ≤ (pN S'.1).length ∧ bG S' t ≠ 0 ∧ ∀ j, j ∈ u → bG S' j = bG S j
theorem dep_ok {R : RS} {w : Nat} {u : List Nat} {upd : Nat → BS → BS} (hupd : ∀ d S, uok (pN S.1) u → d < (pN S.1).length → ¬ d ∈ u → bG S d = 0 → bok R S → updS R u d S (upd d S)) : ∀ (ds : List Nat) (a : Bool × BS), bok R a.2 → uok (pN a.2.1) u → (∀ d, d ∈ ds → d < (pN a.2.1).length) → bok R (ds.foldl (x_dep w u upd) a).2 ∧ (pN a.2.1).length ≤ (pN (ds.foldl (x_dep w u upd) a).2.1).length ∧ ∀ j, j ∈ u → bG (ds.foldl (x_dep w u upd) a).2 j = bG a.2 j
  | [], a, h1, _, _ => ⟨h1, Nat.le_refl _, fun _ _ => rfl⟩
  | d :: ds, a, h1, h2, h3 => by
    have hd := h3 d (List.mem_cons_self ..)
    have step : bok R (x_dep w u upd a d).2 ∧ (pN a.2.1).length ≤ (pN (x_dep w u upd a d).2.1).length ∧ ∀ j, j ∈ u → bG (x_dep w u upd a d).2 j = bG a.2 j := by
      unfold x_dep
      split
      · exact ⟨h1, Nat.le_refl _, fun _ _ => rfl⟩
      · split
        · rename_i hc
          obtain ⟨q1, q2, q3, q4⟩ := hupd d a.2 h2 hd hc.2 hc.1 h1
          exact ⟨q1, q2, q4⟩
        · exact ⟨h1, Nat.le_refl _, fun _ _ => rfl⟩
    rw [List.foldl_cons]
    obtain ⟨s1, s2, s3⟩ := step
    obtain ⟨t1, t2, t3⟩ := dep_ok hupd ds (x_dep w u upd a d) s1 (uok_mono h2 s2) (fun e he => Nat.lt_of_lt_of_le (h3 e (List.mem_cons_of_mem _ he)) s2)
    exact ⟨t1, Nat.le_trans s2 t2, fun j hj => (t3 j hj).trans (s3 j hj)⟩
theorem deps_N {R : RS} (hR : rok R) {N : List (List Nat)} (hl : (rN R).length ≤ N.length) {ch : CH} (hc : chok N ch) {t d : Nat} (hd : d ∈ x_deps R ch t) : d < N.length := by
  rw [x_deps_eq] at hd
  rcases List.mem_append.mp hd with hd | hd
  · cases hs : ch.2.1 with
    | none =>
      rw [hs] at hd
      cases hd
    | some x =>
      rw [hs] at hd
      rw [List.mem_singleton] at hd
      rw [hd]
      exact (hc.1 x hs).1
  · unfold prt at hd
    obtain ⟨x, hx, he⟩ := List.mem_filterMap.mp hd
    obtain ⟨i, hi, e⟩ := List.mem_iff_getElem.mp hx
    have := (hR.2.2.2.2.1.2 i hi).2
    rw [getD_get hi, e] at this
    split at he
    · injection he with he
      omega
    · cases he
theorem u_len {N : List (List Nat)} (hN : nok N) {u : List Nat} {t : Nat} (hu : uok N u) (ht : t < N.length) (htu : ¬ t ∈ u) : u.length ≤ 31 ∧ uok N (t :: u) := by
  have h2 : uok N (t :: u) := ⟨List.nodup_cons.mpr ⟨htu, hu.1⟩, fun j hj => (List.mem_cons.mp hj).elim (fun e => e ▸ ht) (hu.2 j)⟩
  have := nodup_le 32 (t :: u) h2.1 (fun x hx => Nat.lt_of_lt_of_le (h2.2 x hx) hN.1)
  rw [List.length_cons] at this
  exact ⟨by omega, h2⟩
theorem upd_ok {R : RS} (hR : rok R) (gv : Nat → Option (List Nat)) (w : Nat) : ∀ (n : Nat) (u : List Nat) (t : Nat) (S : BS), 33 ≤ n + u.length → uok (pN S.1) u → t < (pN S.1).length → ¬ t ∈ u → bG S t = 0 → bok R S → updS R u t S (x_upd R gv w n u t S) := by
  intro n
  induction n with
  | zero =>
    intro u t S h33 hu ht htu _ hS
    have := (u_len hS.1.1 hu ht htu).1
    omega
  | succ n ih =>
    intro u t S h33 hu ht htu h0 hS
    have ht32 : t < 32 := Nat.lt_of_lt_of_le ht hS.1.1.1
    have hu2 := (u_len hS.1.1 hu ht htu).2
    unfold x_upd
    cases hx : x_choose R (pN S.1) (pF S.1) t with
    | none =>
      refine ⟨bok_G hS ht32 h0 (by decide) (by decide), Nat.le_refl _, ?_, fun j hj => ?_⟩
      · show up1 (bG S) t 3 t ≠ 0
        rw [up1_eq]
        decide
      · show up1 (bG S) t 3 j = _
        rw [up1_ne (show j ≠ t from fun e => htu (e ▸ hj))]
    | some ch =>
      have hc := choose_ok hR hS.1.1 ht hx
      have hf := dep_ok (R := R) (w := w) (u := t :: u) (upd := x_upd R gv w n (t :: u)) (fun d S' a1 a2 a3 a4 a5 => ih (t :: u) d S' (by rw [List.length_cons]; omega) a1 a2 a3 a4 a5) (x_deps R ch t) (false, S) hS hu2 (fun d hd => deps_N hR hS.2.2.2.2 hc hd)
      simp only
      generalize (x_deps R ch t).foldl (x_dep w (t :: u) (x_upd R gv w n (t :: u))) (false, S) = X at hf ⊢
      obtain ⟨f1, f2, f3⟩ := hf
      have hXt : bG X.2 t = 0 := (f3 t (List.mem_cons_self ..)).trans h0
      have hXu : ∀ j, j ∈ u → bG X.2 j = bG S j := fun j hj => f3 j (List.mem_cons_of_mem _ hj)
      split
      · refine ⟨bok_G f1 ht32 hXt (by decide) (by decide), f2, ?_, fun j hj => ?_⟩
        · show up1 (bG X.2) t 3 t ≠ 0
          rw [up1_eq]
          decide
        · show up1 (bG X.2) t 3 j = _
          rw [up1_ne (show j ≠ t from fun e => htu (e ▸ hj))]
          exact hXu j hj
      · obtain ⟨g1, g2, g3, g4, v, g5, g6, g7⟩ := fin_ok hR gv w t ch f1.1 f1.2.1
        refine ⟨bok_fin hR gv w ch f1 ht32 hXt, Nat.le_trans f2 g2, ?_, fun j hj => ?_⟩
        · rw [g7, up1_eq]
          omega
        · rw [g7, up1_ne (show j ≠ t from fun e => htu (e ▸ hj))]
          exact hXu j hj
section
variable {σ : rb_St} {b : Nat} {F : fx_F} {T : List Nat} {gv : Nat → Option (List Nat)} {R : RS}
/-- a step of t is done: its failing is noted -/
theorem m_note (hb : rb_b σ ≤ b) {w : Nat} {S : BS} (hS : bok R S) {t : Nat} {u : List Nat} (hu : uok (pN S.1) (t :: u)) {ch : CH} (hM : m_st T gv R w F S (t :: u)) (hch : m_ch F t ch) {fl : Bool} (h74 : (F.2.1 74)[t]? = some (nI (b2 fl))) {k d : Nat} (hk : k < 900) (h75 : (F.2.1 75)[t]? = some (nI k)) (hd : d < 32) : ∃ F', f_M_update_j136 (some (fx_ad b 34)) (nI t) (nI d) (fx_mk σ b F) = some (.inl (fx_mk σ b F')) ∧ m_st T gv R w F' S (t :: u) ∧ m_ch F' t ch ∧ (F'.2.1 74)[t]? = some (nI (b2 (fl || decide (d ∈ t :: u) || decide (bG S d = 3)))) ∧ (F'.2.1 75)[t]? = some (nI (k + 1)) ∧ pu u F F' := by
  obtain ⟨hB, hF, m1, m2, m3, m4⟩ := hM
  have ht : t < (pN S.1).length := hu.2 t (List.mem_cons_self ..)
  have ht32 : t < 32 := Nat.lt_of_lt_of_le ht hS.1.1.1
  have htu : ¬ t ∈ u := (List.nodup_cons.mp hu.1).1
  have hl74 := hF.1 74
  have hl75 := hF.1 75
  simp only [fx_cI] at hl74 hl75
  have hun := m1 d hd
  have hft := hB.2.2 d hd
  have hg3 := hS.2.2.2.1 d
  generalize hv : (fl || decide (d ∈ t :: u) || decide (bG S d = 3)) = v
  have hb2' := b2_lt v
  generalize hF1 : fx_A (fx_A F 74 ((F.2.1 74).set t (nI (b2 v)))) 75 ((F.2.1 75).set t (nI (k + 1))) = F1
  have hfr1 : fr [] [74, 75] [] F F1 := by
    subst hF1
    exact fr_A (fr_A (fr_refl _ _ _ _) (by decide)) (by decide)
  have h174 : ∀ v' : Bool, v' = v → f_M_update_j174 (some (fx_ad b 34)) (nI t) (nI (b2 v')) (nI t) (some (fx_ad b 74)) (fx_mk σ b F) = some (.inl (fx_mk σ b F1)) := by
    intro v' hv'
    subst hv'
    subst hF1
    unfold f_M_update_j174
    simp (disch := omega) only [↓fx_bm, ↓fx_vm hb, ↓reduceIte, n_ltT, n_ltF, n_leT, n_leF, n_eqT, n_eqF, nI_1, u_lt, u_le, u_eq, u_add, u_ix, u_ixL, u_ixR, u_cl, u_nm1, u_nm1', u_m1l, u_m1n, u_l0, Option.bind_some, Option.map_some, not_true_eq_false, not_false_eq_true, true_and, and_true, Nat.add_sub_cancel, Bool.false_eq_true, u_nar2, fx_II, fx_AA, fx_LL, fx_I_1, fx_I_A, fx_I_L, fx_I_R, fx_I_Q, fx_A_1, fx_A_A, fx_A_L, fx_A_R, fx_A_Q, fx_L_1, fx_L_A, fx_L_L, fx_L_R, fx_L_Q, fx_R_1, fx_R_A, fx_R_L, fx_R_R, fx_R_Q, fx_Q_1, fx_Q_A, fx_Q_L, fx_Q_R, fx_Q_Q, u_nar4, Nat.reduceEqDiff, h75]
  refine ⟨F1, ?_, ⟨⟨m_bx_fr hB.1 hfr1 (by decide) (by decide) (by decide), (hfr1.1 3469 (by decide)).trans hB.2.1, m_fates_fr hB.2.2 hfr1 (by decide)⟩, ?_, ?_, ?_, ?_, ?_⟩, m_ch_fr hch hfr1 (by decide), ?_, ?_, ?_⟩
  · unfold f_M_update_j136 f_M_update_j169
    cases fl
    · rw [b2_f] at h74
      rw [Bool.false_or] at hv
      by_cases e1 : d ∈ t :: u
      · rw [decide_eq_true e1, b2_t] at hun
        rw [decide_eq_true e1, Bool.true_or] at hv
        have hx := h174 true hv
        rw [b2_t] at hx
        rw [← hx]
        simp (disch := omega) only [↓fx_bm, ↓bx_of rfl (show t < 2147483648 by omega) h74, ↓bx_of rfl (show d < 2147483648 by omega) hun, ↓reduceIte, n_ltT, n_ltF, n_leT, n_leF, n_eqT, n_eqF, nI_1, u_lt, u_le, u_eq, u_add, u_ix, u_ixL, u_ixR, u_cl, u_nm1, u_nm1', u_m1l, u_m1n, u_l0, Option.bind_some, Option.map_some, not_true_eq_false, not_false_eq_true, true_and, and_true, Nat.add_sub_cancel, Bool.false_eq_true, u_nar2, u_l1]
      · rw [decide_eq_false e1, b2_f] at hun
        rw [decide_eq_false e1, Bool.false_or] at hv
        by_cases e2 : bG S d = 3
        · rw [decide_eq_true e2] at hv
          have hx := h174 true hv
          rw [b2_t] at hx
          rw [← hx]
          simp (disch := omega) only [↓fx_bm, ↓bx_of rfl (show t < 2147483648 by omega) h74, ↓bx_of rfl (show d < 2147483648 by omega) hun, ↓bx_of rfl (show d < 2147483648 by omega) hft, e2, u_l3, ↓reduceIte, n_ltT, n_ltF, n_leT, n_leF, n_eqT, n_eqF, nI_1, u_lt, u_le, u_eq, u_add, u_ix, u_ixL, u_ixR, u_cl, u_nm1, u_nm1', u_m1l, u_m1n, u_l0, Option.bind_some, Option.map_some, not_true_eq_false, not_false_eq_true, true_and, and_true, Nat.add_sub_cancel, Bool.false_eq_true, u_nar2, u_l1]
        · rw [decide_eq_false e2] at hv
          have hx := h174 false hv
          rw [b2_f] at hx
          rw [← hx]
          simp (disch := omega) only [↓fx_bm, ↓bx_of rfl (show t < 2147483648 by omega) h74, ↓bx_of rfl (show d < 2147483648 by omega) hun, ↓bx_of rfl (show d < 2147483648 by omega) hft, e2, u_l3, ↓reduceIte, n_ltT, n_ltF, n_leT, n_leF, n_eqT, n_eqF, nI_1, u_lt, u_le, u_eq, u_add, u_ix, u_ixL, u_ixR, u_cl, u_nm1, u_nm1', u_m1l, u_m1n, u_l0, Option.bind_some, Option.map_some, not_true_eq_false, not_false_eq_true, true_and, and_true, Nat.add_sub_cancel, Bool.false_eq_true, u_nar2]
    · rw [b2_t] at h74
      rw [Bool.true_or, Bool.true_or] at hv
      have hx := h174 true hv
      rw [b2_t] at hx
      rw [← hx]
      simp (disch := omega) only [↓fx_bm, ↓bx_of rfl (show t < 2147483648 by omega) h74, ↓reduceIte, n_ltT, n_ltF, n_leT, n_leF, n_eqT, n_eqF, nI_1, u_lt, u_le, u_eq, u_add, u_ix, u_ixL, u_ixR, u_cl, u_nm1, u_nm1', u_m1l, u_m1n, u_l0, Option.bind_some, Option.map_some, not_true_eq_false, not_false_eq_true, true_and, and_true, Nat.add_sub_cancel, Bool.false_eq_true, u_nar2, u_l1]
  · subst hF1
    exact fx_lnA (fx_lnA hF (by rw [List.length_set]; exact hF.1 _)) (by rw [List.length_set]; exact hF.1 _)
  · intro j hj
    rw [hfr1.2.1 73 (by decide)]
    exact m1 j hj
  · exact (hfr1.1 3466 (by decide)).trans m2
  · intro i hi
    rw [hfr1.2.1 80 (by decide)]
    exact m3 i hi
  · exact (hfr1.1 3401 (by decide)).trans m4
  · subst hF1
    simp only [fx_II, fx_AA, fx_LL, fx_I_1, fx_I_A, fx_I_L, fx_I_R, fx_I_Q, fx_A_1, fx_A_A, fx_A_L, fx_A_R, fx_A_Q, fx_L_1, fx_L_A, fx_L_L, fx_L_R, fx_L_Q, fx_R_1, fx_R_A, fx_R_L, fx_R_R, fx_R_Q, fx_Q_1, fx_Q_A, fx_Q_L, fx_Q_R, fx_Q_Q, Bool.false_eq_true, Option.bind_some, Option.map_some, rb_cI, rb_cL, rb_cR, rb_cV, reduceIte, ite_true, ite_false, not_true_eq_false, not_false_eq_true, true_and, and_true, Nat.reduceEqDiff, Nat.reduceAdd, Nat.reduceMul, Nat.add_sub_cancel]
    rw [set_get (by omega), if_pos rfl]
  · subst hF1
    simp only [fx_II, fx_AA, fx_LL, fx_I_1, fx_I_A, fx_I_L, fx_I_R, fx_I_Q, fx_A_1, fx_A_A, fx_A_L, fx_A_R, fx_A_Q, fx_L_1, fx_L_A, fx_L_L, fx_L_R, fx_L_Q, fx_R_1, fx_R_A, fx_R_L, fx_R_R, fx_R_Q, fx_Q_1, fx_Q_A, fx_Q_L, fx_Q_R, fx_Q_Q, Bool.false_eq_true, Option.bind_some, Option.map_some, rb_cI, rb_cL, rb_cR, rb_cV, reduceIte, ite_true, ite_false, not_true_eq_false, not_false_eq_true, true_and, and_true, Nat.reduceEqDiff, Nat.reduceAdd, Nat.reduceMul, Nat.add_sub_cancel]
    rw [set_get (by omega), if_pos rfl]
  · refine ⟨mF_fr hfr1 (by decide) (by decide), fun j hj => ?_⟩
    have hjt : j ≠ t := fun e => htu (e ▸ hj)
    subst hF1
    refine ⟨fun o a c => ?_, rfl⟩
    simp only [fx_A_A]
    by_cases e5 : o = 75
    · rw [if_pos e5, set_ne hjt, e5]
    · rw [if_neg e5]
      by_cases e4 : o = 74
      · rw [if_pos e4, set_ne hjt, e4]
      · rw [if_neg e4]
/-- the loop, as it stands before the dependency k of the top t -/
theorem m_top {w : Nat} (hw : w < 64) {S : BS} (hS : bok R S) (hR : rok R) {t : Nat} {u : List Nat} (hu : uok (pN S.1) (t :: u)) {ch : CH} (hc : chok (pN S.1) ch) (hM : m_st T gv R w F S (t :: u)) (hch : m_ch F t ch) {fl : Bool} (h74 : (F.2.1 74)[t]? = some (nI (b2 fl))) {k : Nat} (hk : k < 900) (h75 : (F.2.1 75)[t]? = some (nI k)) : f_M_update_b10 (some (fx_ad b 34)) (fx_mk σ b F) = f_M_update_j61 (some (fx_ad b 34)) (nI t) (if fl = true ∧ op w 1 = false then -1 else oi (x_deps R ch t)[k]?) (fx_mk σ b F) := by
  obtain ⟨hB, hF, m1, m2, m3, m4⟩ := hM
  have hul := nodup_le 32 (t :: u) hu.1 (fun x hx => Nat.lt_of_lt_of_le (hu.2 x hx) hS.1.1.1)
  rw [List.length_cons] at hul m2
  have ht : t < (pN S.1).length := hu.2 t (List.mem_cons_self ..)
  have ht32 : t < 32 := Nat.lt_of_lt_of_le ht hS.1.1.1
  have h80 := m3 0 (by rw [List.length_cons]; omega)
  rw [List.length_cons, show u.length + 1 - 1 - 0 = u.length by omega] at h80
  replace h80 : (F.2.1 80)[u.length]? = some (nI t) := h80
  have hdec : nI (u.length + 1) - (1 : Int32) = nI u.length := u_sb1 _
  have hdep := m_dependency (σ := σ) (b := b) (rok_prk hR) hB.1.1.2.2.2.2.1 (ch := ch) ht32 hch.1 (fun x hx => Nat.lt_of_lt_of_le (hc.1 x hx).1 hS.1.1.1) hk
  have hop : f_M_option (some (fx_ad b 34)) (1 : Int32) (fx_mk σ b F) = some (some (.int (nI (b2 (op w 1)))), fx_mk σ b F) := m_option hw hB.1.2.2.2.2.2.1 (op_a w hw).1
  have h50 : f_M_update_j50 (some (fx_ad b 34)) (nI t) (fx_mk σ b F) = f_M_update_j61 (some (fx_ad b 34)) (nI t) (oi (x_deps R ch t)[k]?) (fx_mk σ b F) := by
    unfold f_M_update_j50
    simp only [↓fx_bm, ↓bx_of rfl (show t < 2147483648 by omega) h75, ↓cI_of hdep]
  have hi80 : (F.1 3466 - (1 : Int32)) = nI u.length := by rw [m2]; exact hdec
  unfold f_M_update_b10
  rw [show ∀ K : Int32 → Option (rb_St ⊕ rb_Rs), (rb_gI (fx_mk σ b F) (some (fx_ad b 34)) 13 66).bind K = K (nI (u.length + 1)) from fun K => by simp only [↓fx_bm, m2], if_neg (show ¬ nI (u.length + 1) ≤ 0 by rw [u_l0, u_le (by omega) (by omega)]; omega)]
  cases fl
  · rw [b2_f] at h74
    rw [if_neg (show ¬ (false = true ∧ op w 1 = false) from fun h => by cases h.1), ← h50]
    simp (disch := omega) only [↓fx_bm, ↓bx_of hi80 (show u.length < 2147483648 by omega) h80, ↓bx_of hdec (show u.length < 2147483648 by omega) h80, ↓bx_of rfl (show t < 2147483648 by omega) h74, m2, ↓reduceIte, show (nI 0 = 0) = True from eq_true rfl]
  · rw [b2_t] at h74
    cases h1 : op w 1
    · rw [h1, b2_f] at hop
      rw [if_pos (show (true = true ∧ false = false) from ⟨rfl, rfl⟩)]
      simp (disch := omega) only [↓fx_bm, ↓bx_of hi80 (show u.length < 2147483648 by omega) h80, ↓bx_of hdec (show u.length < 2147483648 by omega) h80, ↓bx_of rfl (show t < 2147483648 by omega) h74, m2, ↓cI_of hop, ↓reduceIte, show (nI 0 = 0) = True from eq_true rfl, show (nI 1 = 0) = False from eq_false (by decide)]
    · rw [h1, b2_t] at hop
      rw [if_neg (show ¬ (true = true ∧ true = false) from fun h => by cases h.2), ← h50]
      simp (disch := omega) only [↓fx_bm, ↓bx_of hi80 (show u.length < 2147483648 by omega) h80, ↓bx_of hdec (show u.length < 2147483648 by omega) h80, ↓bx_of rfl (show t < 2147483648 by omega) h74, m2, ↓cI_of hop, ↓reduceIte, show (nI 0 = 0) = True from eq_true rfl, show (nI 1 = 0) = False from eq_false (by decide)]
end
