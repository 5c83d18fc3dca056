/-! the reference: carryOut -/
def cmf (l : List (Nat × List Nat)) (g : Option Nat) : List (List Nat) := l.filterMap (fun x => if some x.1 = g then some x.2 else none)
theorem cmf_cons (x : Nat × List Nat) (l : List (Nat × List Nat)) (g : Option Nat) : cmf (x :: l) g = if some x.1 = g then x.2 :: cmf l g else cmf l g := by
  unfold cmf
  rw [List.filterMap_cons]
  by_cases e : some x.1 = g
  · rw [if_pos e, if_pos e]
  · rw [if_neg e, if_neg e]
theorem cmf_any {g : Option Nat} : ∀ (l : List (Nat × List Nat)) (k : Nat), (sr (fun k => decide (some (l.getD k (0, [])).1 = g)) (l.length - k) k).isSome = decide (¬ cmf (l.drop k) g = []) := by
  intro l k
  generalize hm : l.length - k = m
  induction m generalizing k with
  | zero =>
    rw [List.drop_eq_nil_of_le (by omega)]
    rfl
  | succ m ih =>
    have hk : k < l.length := by omega
    rw [sr_m, List.drop_eq_getElem_cons hk, cmf_cons, ← getD_get (d := (0, [])) hk]
    by_cases e : some (l.getD k (0, [])).1 = g
    · rw [if_pos (decide_eq_true e), if_pos e]
      rfl
    · rw [if_neg (by simpa using e), if_neg e]
      exact ih (k + 1) (by omega)
section
variable {σ : rb_St} {b : Nat} {F : fx_F} {T : List Nat} {gv : Nat → Option (List Nat)} {R : RS}
theorem grp_eq {g : Nat} {o : Option Nat} (hg : g ≤ 1000) (ho : ∀ x, o = some x → x ≤ 1000) : (nI g = oi o) = (some g = o) := by
  cases o with
  | none =>
    rw [oi_none, u_nm1 (by omega)]
    simp
  | some x =>
    have := ho x rfl
    rw [oi_some, u_eq (by omega) (by omega)]
    simp
theorem m_carries (hb : rb_b σ ≤ b) {w : Nat} (hw : w < 64) (hT3 : T.length ≤ 320) (hTk : tk T) (hgo : gok gv) (hR : rok R) {t : Nat} {ch : CH} {nw : List Bool} : ∀ (m k : Nat) (F : fx_F) (S : PS) (n : Nat), k + m = (rCm R).length → fx_ln F → m_on T gv R w t ch nw F S n → ∃ F', rb_it (fun z : (Int32 × Int32 × rb_St) => f_M_carryOut_b143 (some (fx_ad b 34)) (nI t) (z.1) (z.2.1) z.2.2) (nI 1, nI k, fx_mk σ b F) = some (some (.int (nI (b2 (x_carries R gv w t ch (x_deps R ch t) nw (cmf ((rCm R).drop k) ch.1) S n).1))), fx_mk σ b F') ∧ m_on T gv R w t ch nw F' (x_carries R gv w t ch (x_deps R ch t) nw (cmf ((rCm R).drop k) ch.1) S n).2.1 (x_carries R gv w t ch (x_deps R ch t) nw (cmf ((rCm R).drop k) ch.1) S n).2.2 ∧ fx_ln F' ∧ fr zBi zBa [36] F F' := by
  have h30 := hR.2.2.2.1
  have hln := hR.2.2.2.2.2.2.2.1
  intro m
  induction m with
  | zero =>
    intro k F S n hk hF hO
    rw [List.drop_eq_nil_of_le (by omega)]
    refine ⟨F, ?_, hO, hF, fr_refl _ _ _ _⟩
    have hcm : F.1 3433 = nI (rCm R).length := hO.1.1.2.2.2.1.1
    refine rb_it_r ?_
    show f_M_carryOut_b143 _ _ _ _ _ = _
    unfold f_M_carryOut_b143 f_M_carryOut_j186 cmf
    simp (disch := omega) only [↓fx_bm, hcm, ↓reduceIte, n_ltT, n_ltF, n_leT, n_leF, n_eqT, n_eqF, nI_1, u_lt, u_le, u_eq, u_add, u_ix, u_ixL, u_ixR, u_cl, u_nm1, u_nm1', u_m1l, u_m1n, u_l0, Option.bind_some, Option.map_some, not_true_eq_false, not_false_eq_true, true_and, and_true, Nat.add_sub_cancel, Bool.false_eq_true, u_nar2, if_pos (show rb_isZ (nI 1) from Or.inr rfl), List.filterMap_nil, x_carries, b2_t]
  | succ m ih =>
    intro k F S n hk hF hO
    have hkl : k < (rCm R).length := by omega
    have hcm : F.1 3433 = nI (rCm R).length := hO.1.1.2.2.2.1.1
    obtain ⟨fm, to, p1, p2, p3, p4, p5, p6⟩ := hO.1.1.2.2.2.1.2 k hkl
    replace p5 : (F.2.1 58)[k]? = some (nI ((rCm R).getD k (0, [])).1) := p5
    have hgl := (hR.2.2.2.2.2.2.2.2.2.1 k hkl).1
    have hli := hO.2.2.1.2.2.1.2.2.1
    have ht32 : t < 32 := Nat.lt_of_lt_of_le hO.2.2.2.1 hO.2.1.1.1
    have heq := grp_eq (g := ((rCm R).getD k (0, [])).1) (o := ch.1) (by omega) (fun x hx => (hO.2.2.2.2.1.2 x hx).2)
    obtain ⟨F1, a1, a2, a3, a4⟩ := m_carry (σ := σ) (b := b) hb hF hw hT3 hTk hgo hR hO hkl
    rw [List.drop_eq_getElem_cons hkl, cmf_cons, ← getD_get (d := (0, [])) hkl]
    generalize (rCm R).getD k (0, []) = x at p5 hgl heq a1 a2 ⊢
    by_cases e : some x.1 = ch.1
    · rw [if_pos e]
      have he : nI x.1 = oi ch.1 := heq.symm ▸ e
      unfold x_carries
      generalize x_carry R gv w t ch (x_deps R ch t) nw x.2 S n = X at a1 a2 ⊢
      obtain ⟨ok, S1, n1⟩ := X
      have hstep : f_M_carryOut_b143 (some (fx_ad b 34)) (nI t) (nI 1) (nI k) (fx_mk σ b F) = some (.inl (nI (b2 ok), nI (k + 1), fx_mk σ b F1)) := by
        unfold f_M_carryOut_b143
        simp (disch := omega) only [↓fx_bm, hcm, ↓bx_of rfl (show k < 2147483648 by omega) p5, ↓bx_of rfl (show t < 2147483648 by omega) hli, he, ↓cI_of a1, ↓reduceIte, n_ltT, n_ltF, n_leT, n_leF, n_eqT, n_eqF, nI_1, u_lt, u_le, u_eq, u_add, u_ix, u_ixL, u_ixR, u_cl, u_nm1, u_nm1', u_m1l, u_m1n, u_l0, Option.bind_some, Option.map_some, not_true_eq_false, not_false_eq_true, true_and, and_true, Nat.add_sub_cancel, Bool.false_eq_true, u_nar2]
      cases ok
      · simp only
        rw [if_neg (show ¬ false = true by decide)]
        refine ⟨F1, ?_, a2, a3, a4⟩
        refine (rb_it_l hstep).trans ?_
        have hcm1 : F1.1 3433 = nI (rCm R).length := (a4.1 3433 (by decide)).trans hcm
        refine rb_it_r ?_
        show f_M_carryOut_b143 _ _ _ _ _ = _
        unfold f_M_carryOut_b143 f_M_carryOut_j186
        by_cases ek : (rCm R).length ≤ k + 1
        · simp (disch := omega) only [↓fx_bm, hcm1, b2_f, ↓reduceIte, n_ltT, n_ltF, n_leT, n_leF, n_eqT, n_eqF, nI_1, u_lt, u_le, u_eq, u_add, u_ix, u_ixL, u_ixR, u_cl, u_nm1, u_nm1', u_m1l, u_m1n, u_l0, Option.bind_some, Option.map_some, not_true_eq_false, not_false_eq_true, true_and, and_true, Nat.add_sub_cancel, Bool.false_eq_true, u_nar2, if_pos (show rb_isZ (nI 0) from Or.inl rfl)]
        · simp (disch := omega) only [↓fx_bm, hcm1, b2_f, ↓reduceIte, n_ltT, n_ltF, n_leT, n_leF, n_eqT, n_eqF, nI_1, u_lt, u_le, u_eq, u_add, u_ix, u_ixL, u_ixR, u_cl, u_nm1, u_nm1', u_m1l, u_m1n, u_l0, Option.bind_some, Option.map_some, not_true_eq_false, not_false_eq_true, true_and, and_true, Nat.add_sub_cancel, Bool.false_eq_true, u_nar2, if_pos (show rb_isZ (nI 0) from Or.inl rfl)]
      · simp only [if_true]
        obtain ⟨F', e1, e2, e3, e4⟩ := ih (k + 1) F1 S1 n1 (by omega) a3 a2
        refine ⟨F', ?_, e2, e3, fr_trans a4 e4⟩
        rw [← e1]
        exact rb_it_l hstep
    · rw [if_neg e]
      have he : ¬ nI x.1 = oi ch.1 := fun h => e (heq ▸ h)
      obtain ⟨F', e1, e2, e3, e4⟩ := ih (k + 1) F S n (by omega) hF hO
      refine ⟨F', ?_, e2, e3, e4⟩
      rw [← e1]
      refine rb_it_l ?_
      show f_M_carryOut_b143 _ _ _ _ _ = _
      unfold f_M_carryOut_b143
      simp (disch := omega) only [↓fx_bm, hcm, ↓bx_of rfl (show k < 2147483648 by omega) p5, ↓bx_of rfl (show t < 2147483648 by omega) hli, he, ↓reduceIte, n_ltT, n_ltF, n_leT, n_leF, n_eqT, n_eqF, nI_1, u_lt, u_le, u_eq, u_add, u_ix, u_ixL, u_ixR, u_cl, u_nm1, u_nm1', u_m1l, u_m1n, u_l0, Option.bind_some, Option.map_some, not_true_eq_false, not_false_eq_true, true_and, and_true, Nat.add_sub_cancel, Bool.false_eq_true, u_nar2]
theorem m_carryOut (hb : rb_b σ ≤ b) (hF : fx_ln F) {w : Nat} (hw : w < 64) (hT3 : T.length ≤ 320) (hTk : tk T) (hgo : gok gv) (hR : rok R) {t : Nat} {ch : CH} {nw : List Bool} {S : PS} {n : Nat} (hO : m_on T gv R w t ch nw F S n) : ∃ F', f_M_carryOut (some (fx_ad b 34)) (nI t) (fx_mk σ b F) = some (some (.int (nI (b2 (x_carries R gv w t ch (x_deps R ch t) nw (x_cmds R ch) (x_touched R w t ch S) n).1))), fx_mk σ b F') ∧ m_on T gv R w t ch nw F' (x_carries R gv w t ch (x_deps R ch t) nw (x_cmds R ch) (x_touched R w t ch S) n).2.1 (x_carries R gv w t ch (x_deps R ch t) nw (x_cmds R ch) (x_touched R w t ch S) n).2.2 ∧ fx_ln F' ∧ fr zBi zBa [36] F F' := by
  have h30 := hR.2.2.2.1
  have hln := hR.2.2.2.2.2.2.2.1
  have hcm : F.1 3433 = nI (rCm R).length := hO.1.1.2.2.2.1.1
  have hli := hO.2.2.1.2.2.1.2.2.1
  have ht := hO.2.2.2.1
  have ht32 : t < 32 := Nat.lt_of_lt_of_le ht hO.2.1.1.1
  have hB := hO.1
  have hS := hO.2.1
  -- after the touching
  have hrest : ∀ (F1 : fx_F), fx_ln F1 → m_on T gv R w t ch nw F1 (x_touched R w t ch S) n → fr zBi zBa [36] F F1 → ∃ F', rb_it (fun z : (Int32 × Int32 × rb_St) => f_M_carryOut_b143 (some (fx_ad b 34)) (nI t) (z.1) (z.2.1) z.2.2) ((1 : Int32), (0 : Int32), fx_mk σ b F1) = some (some (.int (nI (b2 (x_carries R gv w t ch (x_deps R ch t) nw (x_cmds R ch) (x_touched R w t ch S) n).1))), fx_mk σ b F') ∧ m_on T gv R w t ch nw F' (x_carries R gv w t ch (x_deps R ch t) nw (x_cmds R ch) (x_touched R w t ch S) n).2.1 (x_carries R gv w t ch (x_deps R ch t) nw (x_cmds R ch) (x_touched R w t ch S) n).2.2 ∧ fx_ln F' ∧ fr zBi zBa [36] F F' := by
    intro F1 hF1 hO1 hfr1
    obtain ⟨F', e1, e2, e3, e4⟩ := m_carries (σ := σ) (b := b) hb hw hT3 hTk hgo hR (rCm R).length 0 F1 (x_touched R w t ch S) n (by omega) hF1 hO1
    rw [List.drop_zero] at e1 e2
    exact ⟨F', e1, e2, e3, fr_trans hfr1 e4⟩
  have hoo := op_a w hw
  have hopt : ∀ (F1 : fx_F), F1.1 3456 = nI w → f_M_option (some (fx_ad b 34)) (4 : Int32) (fx_mk σ b F1) = some (some (.int (nI (b2 (op w 4)))), fx_mk σ b F1) ∧ f_M_option (some (fx_ad b 34)) (2 : Int32) (fx_mk σ b F1) = some (some (.int (nI (b2 (op w 2)))), fx_mk σ b F1) ∧ f_M_option (some (fx_ad b 34)) (8 : Int32) (fx_mk σ b F1) = some (some (.int (nI (b2 (op w 8)))), fx_mk σ b F1) ∧ f_M_option (some (fx_ad b 34)) (32 : Int32) (fx_mk σ b F1) = some (some (.int (nI (b2 (op w 32)))), fx_mk σ b F1) := fun F1 h => ⟨m_option hw h hoo.2.2.1, m_option hw h hoo.2.1, m_option hw h hoo.2.2.2.1, m_option hw h hoo.2.2.2.2.2.1⟩
  obtain ⟨o4, o2, o8, o32⟩ := hopt F hB.2.2.2.2.2.1
  -- the writing
  have hwrite : ∀ (F1 : fx_F) (p : List Nat), fx_ln F1 → p.length ≤ 400 → m_on T gv R w t ch nw F1 (pN S, pF S, pC S, p) n → fr zBi zBa [36] F F1 → x_touched R w t ch S = (pN S, up1 (pF S) t (pC S + 1, (pF S t).2), pC S + 1, p) → ∃ F', f_M_carryOut_j127 (some (fx_ad b 34)) (nI t) (fx_mk σ b F1) = some (some (.int (nI (b2 (x_carries R gv w t ch (x_deps R ch t) nw (x_cmds R ch) (x_touched R w t ch S) n).1))), fx_mk σ b F') ∧ m_on T gv R w t ch nw F' (x_carries R gv w t ch (x_deps R ch t) nw (x_cmds R ch) (x_touched R w t ch S) n).2.1 (x_carries R gv w t ch (x_deps R ch t) nw (x_cmds R ch) (x_touched R w t ch S) n).2.2 ∧ fx_ln F' ∧ fr zBi zBa [36] F F' := by
    intro F1 p hF1 hp hO1 hfr1 hxt
    obtain ⟨F2, a1, a2, a3, a4⟩ := m_write (σ := σ) (b := b) hb hF1 hO1.1.2.2.2.1 ht32 (pF S t).2
    have hfr2 : fr zBi zBa [36] F1 F2 := fr_mono a4 (by decide) (by decide) (by decide)
    have hB2 : m_bx T gv R w F2 (x_touched R w t ch S) n := by
      rw [hxt]
      exact m_bx_up hO1.1 hfr2 ⟨m_names_fr hO1.1.1.1 a4 (by decide), a2, m_print_fr hO1.1.2.2.2.2.1 a4 (by decide)⟩ ((a4.1 3470 (by decide)).trans hO1.1.2.2.2.2.2.2)
    have hO2 : m_on T gv R w t ch nw F2 (x_touched R w t ch S) n := m_on_up hO1 hfr2 hB2 (by rw [hxt]; exact ⟨hS.1, hp⟩) (by rw [hxt]; exact Nat.le_refl _)
    obtain ⟨F', e1, e2, e3, e4⟩ := hrest F2 a3 hO2 (fr_trans hfr1 hfr2)
    refine ⟨F', ?_, e2, e3, e4⟩
    rw [← e1]
    have hct : (F1.2.1 39)[t]? = some (pF S t).2 := (hO1.1.2.2.2.1.2 t ht32).2.2
    unfold f_M_carryOut_j127
    simp (disch := omega) only [↓fx_bm, ↓bx_of rfl (show t < 2147483648 by omega) hct, ↓cV_of a1]
  have hany := cmf_any (g := ch.1) (rCm R) 0
  rw [Nat.sub_zero, List.drop_zero] at hany
  unfold f_M_carryOut
  have hit := it_any (body := fun z : Int32 × Int32 => f_M_carryOut_b4 (some (fx_ad b 34)) (nI t) z.1 z.2 (fx_mk σ b F)) (n := (rCm R).length) (fun k => decide (some ((rCm R).getD k (0, [])).1 = ch.1)) (fun x => if nI (b2 x) = 0 then (rb_it (fun z : (Int32 × Int32 × rb_St) => f_M_carryOut_b143 (some (fx_ad b 34)) (nI t) (z.1) (z.2.1) z.2.2) ((1 : Int32), (0 : Int32), fx_mk σ b F)) else ((rb_fc (fx_mk σ b F) (some (fx_ad b 34)) 13).bind fun _ => rb_cI (f_M_option (some (fx_ad b 34)) ((4 : Int32)) (fx_mk σ b F)) fun x_9 σ_10 => if x_9 = 0 then (rb_it (fun z : (Int32 × Int32 × rb_St) => f_M_carryOut_b143 (some (fx_ad b 34)) (nI t) (z.1) (z.2.1) z.2.2) ((1 : Int32), (0 : Int32), σ_10)) else ((rb_fc σ_10 (some (fx_ad b 34)) 13).bind fun _ => rb_cI (f_M_option (some (fx_ad b 34)) ((2 : Int32)) σ_10) fun x_11 σ_12 => if x_11 = 0 then ((rb_fc σ_12 (some (fx_ad b 34)) 13).bind fun _ => rb_cI (f_M_option (some (fx_ad b 34)) ((8 : Int32)) σ_12) fun x_13 σ_14 => if x_13 = 0 then ((rb_gR σ_14 (some (fx_ad b 34)) 13 19).bind fun r_15 => (rb_aI σ_14 r_15 104 (nI t)).bind fun x_16 => if x_16 = 0 then ((rb_fc σ_14 (some (fx_ad b 34)) 13).bind fun _ => rb_cI (f_M_isSilent (some (fx_ad b 34)) (nI t) σ_14) fun x_17 σ_18 => if x_17 = 0 then ((rb_fc σ_18 (some (fx_ad b 34)) 13).bind fun _ => rb_cI (f_M_option (some (fx_ad b 34)) ((32 : Int32)) σ_18) fun x_19 σ_20 => if x_19 = 0 then ((rb_fc σ_20 (some (fx_ad b 34)) 13).bind fun _ => rb_cV (f_M_printWord (some (fx_ad b 34)) ((31373226472 : Int64)) σ_20) fun σ_21 => (rb_fc σ_21 (some (fx_ad b 34)) 13).bind fun _ => rb_cV (f_M_put (some (fx_ad b 34)) ((32 : Int32)) σ_21) fun σ_22 => (rb_gR σ_22 (some (fx_ad b 34)) 13 3).bind fun r_23 => (rb_aL σ_22 r_23 103 (nI t)).bind fun y_24 => (rb_fc σ_22 (some (fx_ad b 34)) 13).bind fun _ => rb_cV (f_M_printWord (some (fx_ad b 34)) (y_24) σ_22) fun σ_25 => (rb_fc σ_25 (some (fx_ad b 34)) 13).bind fun _ => rb_cV (f_M_put (some (fx_ad b 34)) ((10 : Int32)) σ_25) fun σ_26 => f_M_carryOut_j127 (some (fx_ad b 34)) (nI t) σ_26) else (f_M_carryOut_j127 (some (fx_ad b 34)) (nI t) σ_20)) else (f_M_carryOut_j127 (some (fx_ad b 34)) (nI t) σ_18)) else (rb_it (fun z : (Int32 × Int32 × rb_St) => f_M_carryOut_b143 (some (fx_ad b 34)) (nI t) (z.1) (z.2.1) z.2.2) ((1 : Int32), (0 : Int32), σ_14))) else (rb_it (fun z : (Int32 × Int32 × rb_St) => f_M_carryOut_b143 (some (fx_ad b 34)) (nI t) (z.1) (z.2.1) z.2.2) ((1 : Int32), (0 : Int32), σ_14))) else (rb_it (fun z : (Int32 × Int32 × rb_St) => f_M_carryOut_b143 (some (fx_ad b 34)) (nI t) (z.1) (z.2.1) z.2.2) ((1 : Int32), (0 : Int32), σ_12))))) ?_ ?_ (rCm R).length 0 false (by omega)
  · rw [Bool.false_or, hany] at hit
    have hit2 : rb_it (fun z : (Int32 × Int32) => f_M_carryOut_b4 (some (fx_ad b 34)) (nI t) (z.1) (z.2) (fx_mk σ b F)) ((0 : Int32), (0 : Int32)) = _ := hit
    rw [hit2]
    have hstay : ¬ (¬ x_cmds R ch = [] ∧ op w 4 = true ∧ op w 2 = false ∧ op w 8 = false ∧ rFl R 1 t = false) → x_touched R w t ch S = S := fun h => if_neg h
    have hsame : x_touched R w t ch S = S → ∃ F', rb_it (fun z : (Int32 × Int32 × rb_St) => f_M_carryOut_b143 (some (fx_ad b 34)) (nI t) (z.1) (z.2.1) z.2.2) ((1 : Int32), (0 : Int32), fx_mk σ b F) = some (some (.int (nI (b2 (x_carries R gv w t ch (x_deps R ch t) nw (x_cmds R ch) (x_touched R w t ch S) n).1))), fx_mk σ b F') ∧ m_on T gv R w t ch nw F' (x_carries R gv w t ch (x_deps R ch t) nw (x_cmds R ch) (x_touched R w t ch S) n).2.1 (x_carries R gv w t ch (x_deps R ch t) nw (x_cmds R ch) (x_touched R w t ch S) n).2.2 ∧ fx_ln F' ∧ fr zBi zBa [36] F F' := fun h => hrest F hF (by rw [h]; exact hO) (fr_refl _ _ _ _)
    by_cases hc : cmf (rCm R) ch.1 = []
    · rw [decide_eq_false (fun h => h hc), b2_f, if_pos (show nI 0 = 0 from rfl)]
      exact hsame (hstay (fun h => h.1 hc))
    · rw [decide_eq_true hc, b2_t, if_neg (show ¬ nI 1 = 0 by decide)]
      have hph : (F.2.1 49)[t]? = some (nI (b2 (rFl R 1 t))) := (hB.1.2.2.2.2.2.2.2.1 t ht32).2.1
      have hsi : (F.2.1 51)[t]? = some (nI (b2 (rFl R 3 t))) := (hB.1.2.2.2.2.2.2.2.1 t ht32).2.2.2
      have has : F.1 3423 = nI (b2 (rBo R 1)) := hB.1.2.2.2.2.2.2.2.2.2.1.2
      have hsl := m_isSilent (σ := σ) (b := b) ht32 hsi has
      cases h4 : op w 4
      · obtain ⟨F', e1, e2⟩ := hsame (hstay (fun h => by rw [h4] at h; exact absurd h.2.1 (by decide)))
        rw [h4, b2_f] at o4
        refine ⟨F', ?_, e2⟩
        rw [← e1]
        simp (disch := omega) only [↓fx_bm, ↓cI_of o4, ↓reduceIte, show (nI 0 = 0) = True from eq_true rfl]
      · rw [h4, b2_t] at o4
        cases h2 : op w 2
        · rw [h2, b2_f] at o2
          cases h8 : op w 8
          · rw [h8, b2_f] at o8
            cases h1 : rFl R 1 t
            · rw [h1, b2_f] at hph
              have hxt : x_touched R w t ch S = (pN S, up1 (pF S) t (pC S + 1, (pF S t).2), pC S + 1, if x_silent R w t = true then pP S else x_puts (pP S) (q_touch ++ [32] ++ (pN S).getD t [] ++ [10])) := if_pos ⟨hc, h4, h2, h8, h1⟩
              have hxs : x_silent R w t = ((rFl R 3 t || rBo R 1) || op w 32) := rfl
              generalize (rFl R 3 t || rBo R 1) = sl at hsl hxs
              cases sl
              · rw [b2_f] at hsl
                rw [Bool.false_or] at hxs
                cases h32 : op w 32
                · rw [h32, b2_f] at o32
                  rw [h32] at hxs
                  rw [if_neg (show ¬ x_silent R w t = true by rw [hxs]; decide)] at hxt
                  -- printing
                  have hnm := nok_pq hS.1 ht
                  obtain ⟨F1, a1, a2, a3, a4⟩ := m_printWord (σ := σ) (b := b) hb (w := q_touch) (by decide) o_touch hF hS.2 hB.2.2.2.2.1
                  obtain ⟨F2, c1, c2, c3, c4⟩ := m_put (σ := σ) (b := b) hb a3 (puts_len _ _) a2 32
                  obtain ⟨F3, d1, d2, d3, d4⟩ := m_printWord (σ := σ) (b := b) hb (w := (pN S).getD t []) (by omega) hnm.2.2 c3 (puts_len _ _) c2
                  obtain ⟨F4, j1, j2, j3, j4⟩ := m_put (σ := σ) (b := b) hb d3 (puts_len _ _) d2 10
                  have a1' : f_M_printWord (some (fx_ad b 34)) (31373226472 : Int64) (fx_mk σ b F) = some (none, fx_mk σ b F1) := a1
                  have c1' : f_M_put (some (fx_ad b 34)) (32 : Int32) (fx_mk σ b F1) = some (none, fx_mk σ b F2) := c1
                  have j1' : f_M_put (some (fx_ad b 34)) (10 : Int32) (fx_mk σ b F3) = some (none, fx_mk σ b F4) := j1
                  have hfr4 : fr [3472] [82] [] F F4 := fr_trans a4 (fr_trans c4 (fr_trans d4 j4))
                  have hfr4' : fr zBi zBa [36] F F4 := fr_mono hfr4 (by decide) (by decide) (by decide)
                  have hfr2 : fr [3472] [82] [] F F2 := fr_trans a4 c4
                  have hnm2 := (m_names_fr hB.1.1 hfr2 (by decide)).2 t ht
                  rw [puts_app, puts_app, puts_app] at j2
                  have hB4 : m_bx T gv R w F4 (pN S, pF S, pC S, x_puts (pP S) (q_touch ++ [32] ++ (pN S).getD t [] ++ [10])) n := m_bx_up hB hfr4' ⟨m_names_fr hB.1.1 hfr4 (by decide), m_files_fr hB.2.2.2.1 hfr4 (by decide), j2⟩ ((hfr4.1 3470 (by decide)).trans hB.2.2.2.2.2.2)
                  have hO4 := m_on_up hO hfr4' hB4 ⟨hS.1, puts_len _ _⟩ (Nat.le_refl _)
                  obtain ⟨F', e1, e2⟩ := hwrite F4 _ j3 (puts_len _ _) hO4 hfr4' hxt
                  refine ⟨F', ?_, e2⟩
                  rw [← e1]
                  simp (disch := omega) only [↓fx_bm, ↓cI_of o4, ↓cI_of o2, ↓cI_of o8, ↓bx_of rfl (show t < 2147483648 by omega) hph, ↓cI_of hsl, ↓cI_of o32, ↓cV_of a1', ↓cV_of c1', ↓bL_of rfl (show t < 2147483648 by omega) hnm2, ↓cV_of d1, ↓cV_of j1', ↓reduceIte, show (nI 0 = 0) = True from eq_true rfl, show (nI 1 = 0) = False from eq_false (by decide)]
                · rw [h32, b2_t] at o32
                  rw [h32] at hxs
                  rw [if_pos hxs] at hxt
                  obtain ⟨F', e1, e2⟩ := hwrite F (pP S) hF hS.2 hO (fr_refl _ _ _ _) hxt
                  refine ⟨F', ?_, e2⟩
                  rw [← e1]
                  simp (disch := omega) only [↓fx_bm, ↓cI_of o4, ↓cI_of o2, ↓cI_of o8, ↓bx_of rfl (show t < 2147483648 by omega) hph, ↓cI_of hsl, ↓cI_of o32, ↓reduceIte, show (nI 0 = 0) = True from eq_true rfl, show (nI 1 = 0) = False from eq_false (by decide)]
              · rw [b2_t] at hsl
                rw [Bool.true_or] at hxs
                rw [if_pos hxs] at hxt
                obtain ⟨F', e1, e2⟩ := hwrite F (pP S) hF hS.2 hO (fr_refl _ _ _ _) hxt
                refine ⟨F', ?_, e2⟩
                rw [← e1]
                simp (disch := omega) only [↓fx_bm, ↓cI_of o4, ↓cI_of o2, ↓cI_of o8, ↓bx_of rfl (show t < 2147483648 by omega) hph, ↓cI_of hsl, ↓reduceIte, show (nI 0 = 0) = True from eq_true rfl, show (nI 1 = 0) = False from eq_false (by decide)]
            · rw [h1, b2_t] at hph
              obtain ⟨F', e1, e2⟩ := hsame (hstay (fun h => by rw [h1] at h; exact absurd h.2.2.2.2 (by decide)))
              refine ⟨F', ?_, e2⟩
              rw [← e1]
              simp (disch := omega) only [↓fx_bm, ↓cI_of o4, ↓cI_of o2, ↓cI_of o8, ↓bx_of rfl (show t < 2147483648 by omega) hph, ↓reduceIte, show (nI 0 = 0) = True from eq_true rfl, show (nI 1 = 0) = False from eq_false (by decide)]
          · rw [h8, b2_t] at o8
            obtain ⟨F', e1, e2⟩ := hsame (hstay (fun h => by rw [h8] at h; exact absurd h.2.2.2.1 (by decide)))
            refine ⟨F', ?_, e2⟩
            rw [← e1]
            simp (disch := omega) only [↓fx_bm, ↓cI_of o4, ↓cI_of o2, ↓cI_of o8, ↓reduceIte, show (nI 0 = 0) = True from eq_true rfl, show (nI 1 = 0) = False from eq_false (by decide)]
        · rw [h2, b2_t] at o2
          obtain ⟨F', e1, e2⟩ := hsame (hstay (fun h => by rw [h2] at h; exact absurd h.2.2.1 (by decide)))
          refine ⟨F', ?_, e2⟩
          rw [← e1]
          simp (disch := omega) only [↓fx_bm, ↓cI_of o4, ↓cI_of o2, ↓reduceIte, show (nI 0 = 0) = True from eq_true rfl, show (nI 1 = 0) = False from eq_false (by decide)]
  · intro x k hk
    obtain ⟨fm, to, p1, p2, p3, p4, p5, p6⟩ := hO.1.1.2.2.2.1.2 k hk
    replace p5 : (F.2.1 58)[k]? = some (nI ((rCm R).getD k (0, [])).1) := p5
    have hgl := (hR.2.2.2.2.2.2.2.2.2.1 k hk).1
    have heq := grp_eq (g := ((rCm R).getD k (0, [])).1) (o := ch.1) (by omega) (fun x hx => (hO.2.2.2.2.1.2 x hx).2)
    have hcn : ¬ nI (rCm R).length ≤ nI k := by
      rw [u_le (by omega) (by omega)]
      omega
    show f_M_carryOut_b4 _ _ _ _ _ = _
    unfold f_M_carryOut_b4
    rw [show ∀ K : Int32 → Option ((Int32 × Int32) ⊕ rb_Rs), (rb_gI (fx_mk σ b F) (some (fx_ad b 34)) 13 33).bind K = K (nI (rCm R).length) from fun K => by simp only [↓fx_bm, hcm], if_neg hcn]
    cases x
    · by_cases e : some ((rCm R).getD k (0, [])).1 = ch.1
      · have he : nI ((rCm R).getD k (0, [])).1 = oi ch.1 := heq.symm ▸ e
        simp (disch := omega) only [↓fx_bm, ↓bx_of rfl (show k < 2147483648 by omega) p5, ↓bx_of rfl (show t < 2147483648 by omega) hli, he, decide_true, Bool.false_or, e, b2_f, b2_t, u_l1, ↓reduceIte, n_ltT, n_ltF, n_leT, n_leF, n_eqT, n_eqF, nI_1, u_lt, u_le, u_eq, u_add, u_ix, u_ixL, u_ixR, u_cl, u_nm1, u_nm1', u_m1l, u_m1n, u_l0, Option.bind_some, Option.map_some, not_true_eq_false, not_false_eq_true, true_and, and_true, Nat.add_sub_cancel, Bool.false_eq_true, u_nar2]
      · have he : ¬ nI ((rCm R).getD k (0, [])).1 = oi ch.1 := fun h => e (heq ▸ h)
        simp (disch := omega) only [↓fx_bm, ↓bx_of rfl (show k < 2147483648 by omega) p5, ↓bx_of rfl (show t < 2147483648 by omega) hli, he, decide_false, Bool.false_or, e, b2_f, b2_t, ↓reduceIte, n_ltT, n_ltF, n_leT, n_leF, n_eqT, n_eqF, nI_1, u_lt, u_le, u_eq, u_add, u_ix, u_ixL, u_ixR, u_cl, u_nm1, u_nm1', u_m1l, u_m1n, u_l0, Option.bind_some, Option.map_some, not_true_eq_false, not_false_eq_true, true_and, and_true, Nat.add_sub_cancel, Bool.false_eq_true, u_nar2]
    · simp (disch := omega) only [b2_t, u_l1, ↓reduceIte, n_ltT, n_ltF, n_leT, n_leF, n_eqT, n_eqF, nI_1, u_lt, u_le, u_eq, u_add, u_ix, u_ixL, u_ixR, u_cl, u_nm1, u_nm1', u_m1l, u_m1n, u_l0, Option.bind_some, Option.map_some, not_true_eq_false, not_false_eq_true, true_and, and_true, Nat.add_sub_cancel, Bool.false_eq_true, u_nar2, Bool.true_or]
  · intro x
    show f_M_carryOut_b4 _ _ _ _ _ = _
    unfold f_M_carryOut_b4
    rw [show ∀ K : Int32 → Option ((Int32 × Int32) ⊕ rb_Rs), (rb_gI (fx_mk σ b F) (some (fx_ad b 34)) 13 33).bind K = K (nI (rCm R).length) from fun K => by simp only [↓fx_bm, hcm], if_pos (nI_le (Nat.le_refl _) (by omega))]
end
