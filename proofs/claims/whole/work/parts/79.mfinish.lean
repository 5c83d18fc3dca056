/-! clocks, and the reference: finish -/
theorem touch_fk : ∀ (ks : List Nat) (f : Nat → Nat × Int32) (c : Nat), fok f c → fok (x_touch ks f c).1 (x_touch ks f c).2 ∧ (x_touch ks f c).2 = c + ks.length
  | [], f, c, h => ⟨h, rfl⟩
  | k :: ks, f, c, h => by
    have h1 : fok (up1 f k (c + 1, (f k).2)) (c + 1) := fun j => by
      unfold up1
      split
      · exact Nat.le_refl _
      · exact Nat.le_succ_of_le (h j)
    have := touch_fk ks (up1 f k (c + 1, (f k).2)) (c + 1) h1
    unfold x_touch
    refine ⟨this.1, ?_⟩
    rw [this.2, List.length_cons]
    omega
theorem rm_fk : ∀ (ks : List Nat) (f : Nat → Nat × Int32) (c : Nat), fok f c → fok (x_rm ks f) c
  | [], f, c, h => h
  | k :: ks, f, c, h => by
    unfold x_rm
    refine rm_fk ks _ c (fun j => ?_)
    unfold up1
    split
    · exact Nat.zero_le _
    · exact h j
theorem write_fk {f : Nat → Nat × Int32} {c : Nat} (h : fok f c) (k : Nat) (v : Int32) : fok (up1 f k (c + 1, v)) (c + 1) := fun j => by
  unfold up1
  split
  · exact Nat.le_refl _
  · exact Nat.le_succ_of_le (h j)
def pfk (S : PS) : Prop := fok (pF S) (pC S)
theorem perf_fk {ws : List (List Nat)} (hl : ws.length ≤ 60) {S : PS} (h : pfk S) : pfk (x_perf ws S).2 ∧ pC (x_perf ws S).2 ≤ pC S + 60 := by
  have hs : pfk S ∧ pC S ≤ pC S + 60 := ⟨h, Nat.le_add_right _ _⟩
  unfold x_perf
  split
  · exact hs
  · split
    · exact hs
    · split
      · exact hs
      · split
        · split
          · exact hs
          · have hk := meets_nf (ws.drop 1) (pN S)
            split
            · exact hs
            · rename_i ks N hx
              rw [hx] at hk
              have hk1 := (hk ks rfl).1
              rw [List.length_drop] at hk1
              split
              · have := touch_fk ks (pF S) (pC S) h
                exact ⟨this.1, by show (x_touch ks (pF S) (pC S)).2 ≤ pC S + 60; rw [this.2]; omega⟩
              · exact ⟨rm_fk ks (pF S) (pC S) h, Nat.le_add_right _ _⟩
        · split
          · split
            · exact hs
            · split
              · exact hs
              · split
                · exact hs
                · exact ⟨write_fk h _ _, by show pC S + 1 ≤ pC S + 60; omega⟩
          · split
            · split
              · exact hs
              · split
                · exact hs
                · split
                  · exact hs
                  · split
                    · exact hs
                    · exact ⟨write_fk h _ _, by show pC S + 1 ≤ pC S + 60; omega⟩
            · exact hs
theorem wds60 {o : List Nat} (ho : o.length ≤ 120) : (wl o (wds o o.length 0 o.length)).length ≤ 60 := by
  rw [wl_len]
  have := wds_len o o.length 0 o.length
  omega
theorem carry_fk (R : RS) (gv : Nat → Option (List Nat)) (w t : Nat) (ch : CH) (ds : List Nat) (nw : List Bool) (c : List Nat) {S : PS} (n : Nat) (h : pfk S) : pfk (x_carry R gv w t ch ds nw c S n).2.1 ∧ pC (x_carry R gv w t ch ds nw c S n).2.1 ≤ pC S + 60 := by
  have hs : pfk S ∧ pC S ≤ pC S + 60 := ⟨h, Nat.le_add_right _ _⟩
  unfold x_carry
  split
  · exact hs
  · split
    · exact hs
    · rename_i o ho
      have hol := xr_len ho
      have hS2 : ∀ S1 : PS, (S1 = S ∨ S1 = (pN S, pF S, pC S, x_puts (pP S) (o ++ [10]))) → pfk S1 ∧ pC S1 = pC S := by
        rintro S1 (e | e)
        · subst e
          exact ⟨h, rfl⟩
        · subst e
          exact ⟨h, rfl⟩
      have hS3 := hS2 (if op w 8 = true ∨ (x_has c 64 = true ∨ x_silent R w t = true) ∧ op w 2 = false then S else (pN S, pF S, pC S, x_puts (pP S) (o ++ [10]))) (by split <;> simp)
      simp only
      generalize (if op w 8 = true ∨ (x_has c 64 = true ∨ x_silent R w t = true) ∧ op w 2 = false then S else (pN S, pF S, pC S, x_puts (pP S) (o ++ [10]))) = S1 at hS3 ⊢
      split
      · exact ⟨hS3.1, by show pC S1 ≤ _; rw [hS3.2]; omega⟩
      · have := perf_fk (wds60 hol) hS3.1
        exact ⟨this.1, by rw [← hS3.2]; exact this.2⟩
theorem carries_fk (R : RS) (gv : Nat → Option (List Nat)) (w t : Nat) (ch : CH) (ds : List Nat) (nw : List Bool) : ∀ (cs : List (List Nat)) (S : PS) (n : Nat), pfk S → pfk (x_carries R gv w t ch ds nw cs S n).2.1 ∧ pC (x_carries R gv w t ch ds nw cs S n).2.1 ≤ pC S + 60 * cs.length
  | [], S, n, h => ⟨h, Nat.le_add_right _ _⟩
  | c :: cs, S, n, h => by
    have h1 := carry_fk R gv w t ch ds nw c n h
    unfold x_carries
    split
    · have h2 := carries_fk R gv w t ch ds nw cs (x_carry R gv w t ch ds nw c S n).2.1 (x_carry R gv w t ch ds nw c S n).2.2 h1.1
      refine ⟨h2.1, ?_⟩
      have := h2.2
      rw [List.length_cons]
      omega
    · refine ⟨h1.1, ?_⟩
      have := h1.2
      rw [List.length_cons]
      show pC (x_carry R gv w t ch ds nw c S n).2.1 ≤ _
      omega
theorem carries_ok (R : RS) (gv : Nat → Option (List Nat)) (w t : Nat) (ch : CH) (ds : List Nat) (nw : List Bool) : ∀ (cs : List (List Nat)) (S : PS) (n : Nat), pok S → pok (x_carries R gv w t ch ds nw cs S n).2.1 ∧ (pN S).length ≤ (pN (x_carries R gv w t ch ds nw cs S n).2.1).length
  | [], S, n, h => ⟨h, Nat.le_refl _⟩
  | c :: cs, S, n, h => by
    have h1 := carry_ok R gv w t ch ds nw c n h
    unfold x_carries
    split
    · have h2 := carries_ok R gv w t ch ds nw cs (x_carry R gv w t ch ds nw c S n).2.1 (x_carry R gv w t ch ds nw c S n).2.2 h1.1
      exact ⟨h2.1, Nat.le_trans h1.2 h2.2⟩
    · exact h1
theorem touched_ok (R : RS) (w t : Nat) (ch : CH) {S : PS} (h : pok S) (hf : pfk S) : pok (x_touched R w t ch S) ∧ pN (x_touched R w t ch S) = pN S ∧ pfk (x_touched R w t ch S) ∧ pC (x_touched R w t ch S) ≤ pC S + 1 := by
  unfold x_touched
  split
  · refine ⟨⟨h.1, ?_⟩, rfl, write_fk hf _ _, Nat.le_refl _⟩
    show (if x_silent R w t = true then pP S else _).length ≤ 400
    split
    · exact h.2
    · exact puts_len _ _
  · exact ⟨h, rfl, hf, Nat.le_succ _⟩
theorem cmds_len {R : RS} (hR : rok R) (ch : CH) : (x_cmds R ch).length ≤ 30 := Nat.le_trans (List.length_filterMap_le _ _) hR.2.2.2.1
/-- after a name is finished -/
theorem fin_ok {R : RS} (hR : rok R) (gv : Nat → Option (List Nat)) (w t : Nat) (ch : CH) {S : BS} (h : pok S.1) (hf : pfk S.1) : pok (x_fin R gv w t ch S).1 ∧ (pN S.1).length ≤ (pN (x_fin R gv w t ch S).1).length ∧ pfk (x_fin R gv w t ch S).1 ∧ pC (x_fin R gv w t ch S).1 ≤ pC S.1 + 1801 ∧ ∃ v, 1 ≤ v ∧ v ≤ 3 ∧ bG (x_fin R gv w t ch S) = up1 (bG S) t v := by
  unfold x_fin
  split
  · have h1 := touched_ok R w t ch h hf
    have h2 := carries_ok R gv w t ch (x_deps R ch t) (x_nw S t (x_deps R ch t)) (x_cmds R ch) (x_touched R w t ch S.1) S.2.1 h1.1
    have h3 := carries_fk R gv w t ch (x_deps R ch t) (x_nw S t (x_deps R ch t)) (x_cmds R ch) (x_touched R w t ch S.1) S.2.1 h1.2.2.1
    have h4 := cmds_len hR ch
    refine ⟨h2.1, by rw [← h1.2.1]; exact h2.2, h3.1, ?_, ?_⟩
    · have := h3.2
      have := h1.2.2.2
      show pC (x_carries R gv w t ch (x_deps R ch t) (x_nw S t (x_deps R ch t)) (x_cmds R ch) (x_touched R w t ch S.1) S.2.1).2.1 ≤ _
      omega
    · refine ⟨_, ?_, ?_, rfl⟩
      · split <;> decide
      · split <;> decide
  · exact ⟨h, Nat.le_refl _, hf, Nat.le_add_right _ _, 1, by decide, by decide, rfl⟩
abbrev zFi : List Nat := [3402, 3407, 3444, 3447, 3448, 3468, 3469, 3470, 3472]
abbrev zFa : List Nat := [37, 38, 39, 62, 63, 64, 65, 66, 67, 68, 69, 70, 71, 81, 82]
section
variable {σ : rb_St} {b : Nat} {F : fx_F} {T : List Nat} {gv : Nat → Option (List Nat)} {R : RS}
/-- the state of a build, with its fates -/
def m_bg (T : List Nat) (gv : Nat → Option (List Nat)) (R : RS) (w : Nat) (F : fx_F) (S : BS) : Prop := m_bx T gv R w F S.1 S.2.1 ∧ F.1 3469 = nI (b2 S.2.2.1) ∧ m_fates F (bG S)
theorem m_finLoop (hb : rb_b σ ≤ b) (hR : rok R) {w : Nat} {S : BS} (hN : nok (pN S.1)) (hfk : pfk S.1) (hck : pC S.1 < 2147483648) (hg3 : ∀ j, bG S j ≤ 3) {t : Nat} (ht : t < (pN S.1).length) {ch : CH} (hc : chok (pN S.1) ch) : ∀ (m k : Nat) (F : fx_F) (o : Bool), k + m = (x_deps R ch t).length → fx_ln F → m_bg T gv R w F S → m_ch F t ch → ∃ F', rb_it (fun z : (Int32 × Int32 × Int32 × rb_St) => f_M_finish_b34 (some (fx_ad b 34)) (nI t) (z.1) (z.2.1) (z.2.2.1) z.2.2.2) (nI (b2 o), oi (x_deps R ch t)[k]?, nI k, fx_mk σ b F) = rb_it (fun z : (Int32 × Int32 × Int32 × rb_St) => f_M_finish_b34 (some (fx_ad b 34)) (nI t) (z.1) (z.2.1) (z.2.2.1) z.2.2.2) (nI (b2 (o || decide (true ∈ (x_nw S t (x_deps R ch t)).drop k))), (-1 : Int32), nI (x_deps R ch t).length, fx_mk σ b F') ∧ (∀ i, i < (x_deps R ch t).length → (F'.2.1 81)[i]? = if k ≤ i then some (nI (b2 ((x_nw S t (x_deps R ch t)).getD i false))) else (F.2.1 81)[i]?) ∧ fx_ln F' ∧ fr [] [81] [] F F' := by
  have hl := rok_prk hR
  have h81 := deps_len hl ch t
  have ht32 : t < 32 := Nat.lt_of_lt_of_le ht hN.1
  have hc32 : ∀ x, ch.2.1 = some x → x.1 < 32 := fun x hx => Nat.lt_of_lt_of_le (hc.1 x hx).1 hN.1
  have hnl : (x_nw S t (x_deps R ch t)).length = (x_deps R ch t).length := by
    unfold x_nw
    rw [List.length_map]
  intro m
  induction m with
  | zero =>
    intro k F o hk hF hB hch
    refine ⟨F, ?_, fun i hi => by rw [if_neg (by omega)], hF, fr_refl _ _ _ _⟩
    rw [List.getElem?_eq_none (by omega), oi_none, show k = (x_deps R ch t).length by omega, ← hnl, List.drop_length]
    congr 2
    simp
  | succ m ih =>
    intro k F o hk hF hB hch
    have hkd : k < (x_deps R ch t).length := by omega
    have hd32 : (x_deps R ch t)[k] < 32 := deps_lt hl hN hc (List.getElem_mem hkd)
    have hrow := hF.1 81
    simp only [fx_cI] at hrow
    have hnk : (x_nw S t (x_deps R ch t)).getD k false = (decide (bG S (x_deps R ch t)[k] = 2) || decide ((pF S.1 t).1 < (pF S.1 (x_deps R ch t)[k]).1)) := by
      unfold x_nw
      rw [List.getD_eq_getElem?_getD, List.getElem?_map, List.getElem?_eq_getElem hkd]
      rfl
    have hdrop : (x_nw S t (x_deps R ch t)).drop k = (x_nw S t (x_deps R ch t)).getD k false :: (x_nw S t (x_deps R ch t)).drop (k + 1) := by
      rw [List.drop_eq_getElem_cons (by omega), getD_get (by omega)]
    generalize hv : (x_nw S t (x_deps R ch t)).getD k false = v at hnk hdrop
    generalize hF1 : fx_A F 81 ((F.2.1 81).set k (nI (b2 v))) = F1
    have hfr1 : fr [] [81] [] F F1 := by
      subst hF1
      exact fr_A (fr_refl _ _ _ _) (by decide)
    have hln1 : fx_ln F1 := by
      subst hF1
      exact fx_lnA hF (by rw [List.length_set]; exact hF.1 _)
    have hB1 : m_bg T gv R w F1 S := ⟨m_bx_fr hB.1 hfr1 (by decide) (by decide) (by decide), (hfr1.1 3469 (by decide)).trans hB.2.1, m_fates_fr hB.2.2 hfr1 (by decide)⟩
    have hch1 : m_ch F1 t ch := m_ch_fr hch hfr1 (by decide)
    have hpr1 : m_pr F1 (rPr R) := m_pr_fr hB.1.1.2.2.2.2.1 hfr1 (by decide)
    have hdep : f_M_dependency (some (fx_ad b 34)) (nI t) (nI k + (1 : Int32)) (fx_mk σ b F1) = some (some (.int (oi (x_deps R ch t)[k + 1]?)), fx_mk σ b F1) := by
      rw [u_l1, u_add]
      exact m_dependency (σ := σ) (b := b) hl hpr1 (ch := ch) ht32 hch1.1 hc32 (k := k + 1) (by omega)
    obtain ⟨F', e1, e2, e3, e4⟩ := ih (k + 1) F1 (o || v) (by omega) hln1 hB1 hch1
    have hstep : f_M_finish_b34 (some (fx_ad b 34)) (nI t) (nI (b2 o)) (oi (x_deps R ch t)[k]?) (nI k) (fx_mk σ b F) = some (.inl (nI (b2 (o || v)), oi (x_deps R ch t)[k + 1]?, nI (k + 1), fx_mk σ b F1)) := by
      rw [List.getElem?_eq_getElem hkd, oi_some]
      generalize (x_deps R ch t)[k] = d at hd32 hnk
      have hft := hB.2.2 d hd32
      have hgd := hg3 d
      obtain ⟨i1, i2, i3⟩ := hB.1.2.2.2.1.2 d hd32
      obtain ⟨t1, t2, t3⟩ := hB.1.2.2.2.1.2 t ht32
      have hkd1 := hfk d
      have hkt1 := hfk t
      -- the writing, and what follows
      have h83 : ∀ v' : Bool, v' = v → f_M_finish_j83 (some (fx_ad b 34)) (nI t) (nI (b2 o)) (nI k) (nI (b2 v')) (nI k) (some (fx_ad b 81)) (fx_mk σ b F) = some (.inl (nI (b2 (o || v)), oi (x_deps R ch t)[k + 1]?, nI (k + 1), fx_mk σ b F1)) := by
        intro v' hv'
        subst hv'
        subst hF1
        have hb2' := b2_lt v'
        unfold f_M_finish_j83 f_M_finish_j98 f_M_finish_j103
        cases o
        · cases v'
          · rw [b2_f] at hdep ⊢
            simp (disch := omega) only [↓fx_bm, ↓fx_vm hb, ↓reduceIte, n_ltT, n_ltF, n_leT, n_leF, n_eqT, n_eqF, nI_1, u_lt, u_le, u_eq, u_add, u_ix, u_ixL, u_ixR, u_cl, u_nm1, u_nm1', u_m1l, u_m1n, u_l0, Option.bind_some, Option.map_some, not_true_eq_false, not_false_eq_true, true_and, and_true, Nat.add_sub_cancel, Bool.false_eq_true, u_nar2, fx_II, fx_AA, fx_LL, fx_I_1, fx_I_A, fx_I_L, fx_I_R, fx_I_Q, fx_A_1, fx_A_A, fx_A_L, fx_A_R, fx_A_Q, fx_L_1, fx_L_A, fx_L_L, fx_L_R, fx_L_Q, fx_R_1, fx_R_A, fx_R_L, fx_R_R, fx_R_Q, fx_Q_1, fx_Q_A, fx_Q_L, fx_Q_R, fx_Q_Q, u_nar4, cI_of hdep, set_get, Bool.or_false, b2_f]
            simp (disch := omega) only [nI_1, u_l1, u_add] at hdep ⊢
            simp only [cI_of hdep]
          · rw [b2_t] at hdep ⊢
            simp (disch := omega) only [↓fx_bm, ↓fx_vm hb, ↓reduceIte, n_ltT, n_ltF, n_leT, n_leF, n_eqT, n_eqF, nI_1, u_lt, u_le, u_eq, u_add, u_ix, u_ixL, u_ixR, u_cl, u_nm1, u_nm1', u_m1l, u_m1n, u_l0, Option.bind_some, Option.map_some, not_true_eq_false, not_false_eq_true, true_and, and_true, Nat.add_sub_cancel, Bool.false_eq_true, u_nar2, fx_II, fx_AA, fx_LL, fx_I_1, fx_I_A, fx_I_L, fx_I_R, fx_I_Q, fx_A_1, fx_A_A, fx_A_L, fx_A_R, fx_A_Q, fx_L_1, fx_L_A, fx_L_L, fx_L_R, fx_L_Q, fx_R_1, fx_R_A, fx_R_L, fx_R_R, fx_R_Q, fx_Q_1, fx_Q_A, fx_Q_L, fx_Q_R, fx_Q_Q, u_nar4, set_get, Bool.or_true, b2_f, b2_t, u_l1]
            simp (disch := omega) only [nI_1, u_l1, u_add] at hdep
            simp only [cI_of hdep]
        · simp (disch := omega) only [↓fx_bm, ↓fx_vm hb, ↓reduceIte, n_ltT, n_ltF, n_leT, n_leF, n_eqT, n_eqF, nI_1, u_lt, u_le, u_eq, u_add, u_ix, u_ixL, u_ixR, u_cl, u_nm1, u_nm1', u_m1l, u_m1n, u_l0, Option.bind_some, Option.map_some, not_true_eq_false, not_false_eq_true, true_and, and_true, Nat.add_sub_cancel, Bool.false_eq_true, u_nar2, fx_II, fx_AA, fx_LL, fx_I_1, fx_I_A, fx_I_L, fx_I_R, fx_I_Q, fx_A_1, fx_A_A, fx_A_L, fx_A_R, fx_A_Q, fx_L_1, fx_L_A, fx_L_L, fx_L_R, fx_L_Q, fx_R_1, fx_R_A, fx_R_L, fx_R_R, fx_R_Q, fx_Q_1, fx_Q_A, fx_Q_L, fx_Q_R, fx_Q_Q, u_nar4, Bool.true_or, b2_t, u_l1]
          simp (disch := omega) only [nI_1, u_l1, u_add] at hdep
          simp only [cI_of hdep]
      unfold f_M_finish_b34 f_M_finish_j78 f_M_finish_j82
      by_cases e2 : bG S d = 2
      · have hv1 : v = true := by rw [hnk, decide_eq_true e2, Bool.true_or]
        have hx := h83 true hv1.symm
        rw [b2_t] at hx
        rw [← hx]
        simp (disch := omega) only [↓fx_bm, ↓bx_of rfl (show d < 2147483648 by omega) hft, e2, u_l2, u_l1, ↓reduceIte, n_ltT, n_ltF, n_leT, n_leF, n_eqT, n_eqF, nI_1, u_lt, u_le, u_eq, u_add, u_ix, u_ixL, u_ixR, u_cl, u_nm1, u_nm1', u_m1l, u_m1n, u_l0, Option.bind_some, Option.map_some, not_true_eq_false, not_false_eq_true, true_and, and_true, Nat.add_sub_cancel, Bool.false_eq_true, u_nar2]
      · by_cases e3 : (pF S.1 d).1 = 0
        · have hv1 : v = false := by rw [hnk, decide_eq_false e2, decide_eq_false (by omega)]; rfl
          rw [if_pos e3] at i1
          have hx := h83 false hv1.symm
          rw [b2_f] at hx
          rw [← hx]
          simp (disch := omega) only [↓fx_bm, ↓bx_of rfl (show d < 2147483648 by omega) hft, ↓bx_of rfl (show d < 2147483648 by omega) i1, e2, u_l2, ↓reduceIte, n_ltT, n_ltF, n_leT, n_leF, n_eqT, n_eqF, nI_1, u_lt, u_le, u_eq, u_add, u_ix, u_ixL, u_ixR, u_cl, u_nm1, u_nm1', u_m1l, u_m1n, u_l0, Option.bind_some, Option.map_some, not_true_eq_false, not_false_eq_true, true_and, and_true, Nat.add_sub_cancel, Bool.false_eq_true, u_nar2]
        · rw [if_neg e3] at i1
          by_cases e4 : (pF S.1 t).1 < (pF S.1 d).1
          · have hv1 : v = true := by rw [hnk, decide_eq_true e4, Bool.or_true]
            have hx := h83 true hv1.symm
            rw [b2_t] at hx
            rw [← hx]
            simp (disch := omega) only [↓fx_bm, ↓bx_of rfl (show d < 2147483648 by omega) hft, ↓bx_of rfl (show d < 2147483648 by omega) i1, ↓bx_of rfl (show d < 2147483648 by omega) i2, ↓bx_of rfl (show t < 2147483648 by omega) t2, e2, u_l2, u_l1, ↓reduceIte, n_ltT, n_ltF, n_leT, n_leF, n_eqT, n_eqF, nI_1, u_lt, u_le, u_eq, u_add, u_ix, u_ixL, u_ixR, u_cl, u_nm1, u_nm1', u_m1l, u_m1n, u_l0, Option.bind_some, Option.map_some, not_true_eq_false, not_false_eq_true, true_and, and_true, Nat.add_sub_cancel, Bool.false_eq_true, u_nar2]
          · have hv1 : v = false := by rw [hnk, decide_eq_false e2, decide_eq_false e4]; rfl
            have hx := h83 false hv1.symm
            rw [b2_f] at hx
            rw [← hx]
            simp (disch := omega) only [↓fx_bm, ↓bx_of rfl (show d < 2147483648 by omega) hft, ↓bx_of rfl (show d < 2147483648 by omega) i1, ↓bx_of rfl (show d < 2147483648 by omega) i2, ↓bx_of rfl (show t < 2147483648 by omega) t2, e2, u_l2, ↓reduceIte, n_ltT, n_ltF, n_leT, n_leF, n_eqT, n_eqF, nI_1, u_lt, u_le, u_eq, u_add, u_ix, u_ixL, u_ixR, u_cl, u_nm1, u_nm1', u_m1l, u_m1n, u_l0, Option.bind_some, Option.map_some, not_true_eq_false, not_false_eq_true, true_and, and_true, Nat.add_sub_cancel, Bool.false_eq_true, u_nar2]
    refine ⟨F', ?_, fun i hi => ?_, e3, fr_trans hfr1 e4⟩
    · rw [rb_it_l hstep, e1, hdrop]
      congr 3
      simp only [List.mem_cons, Bool.decide_or, Bool.or_assoc]
      congr 1
      cases v <;> simp
    · rw [e2 i hi]
      by_cases ei : k + 1 ≤ i
      · rw [if_pos ei, if_pos (by omega)]
      · rw [if_neg ei]
        subst hF1
        rw [fx_A_A, if_pos rfl, set_get (by omega)]
        by_cases ek : i = k
        · rw [if_pos ek, if_pos (by omega), ek, hv]
        · rw [if_neg ek, if_neg (by omega)]
end
