/-! the reference: an expansion -/
theorem slc_cons {l : List Nat} {p e : Nat} (h : p < e) (he : e ≤ l.length) : slc l p e = l.getD p 0 :: slc l (p + 1) e := by
  unfold slc
  rw [List.drop_eq_getElem_cons (by omega), show e - p = (e - (p + 1)) + 1 by omega, List.take_succ_cons, getD_get (by omega)]
theorem slc_self (l : List Nat) (p : Nat) : slc l p p = [] := by simp [slc]
section
variable {σ : rb_St} {b : Nat} {F0 F : fx_F} {T : List Nat} {gv df : Nat → Option (List Nat)} {A : Nat → Option (List Nat)}
/-- what the automatic macros stand for, and that the reference appends it -/
def m_auto (σ : rb_St) (b : Nat) (F0 : fx_F) (A : Nat → Option (List Nat)) : Prop := ∀ (F : fx_F) (o : List Nat) (d : Nat), fr zI zA [] F0 F → fx_ln F → m_out F o → o.length ≤ 120 → d < 127 → ∃ F', f_M_automatic (some (fx_ad b 34)) (nI d) (fx_mk σ b F) = some (some (.int (match A d with | none => nI 0 | some l => if o.length + l.length ≤ 120 then nI 1 else nI 0)), fx_mk σ b F') ∧ (∀ l, A d = some l → o.length + l.length ≤ 120 → m_out F' (o ++ l)) ∧ fx_ln F' ∧ fr [3444] [62] [] F F'
def m_cmd (σ : rb_St) (b : Nat) (F0 : fx_F) (A : Nat → Option (List Nat)) (x : Int32) : Prop := (x = nI 0 ∧ ∀ d, A d = none) ∨ (x = nI 1 ∧ m_auto σ b F0 A)
theorem m_ent_pre {F F1 F' : fx_F} {l : Nat} {s : Option Nat} {e : Nat} {o : List Nat} {m : Nat} {rp : Option (List Nat × List Nat)} {r : List Nat} (h1 : stk l F F1) (h2 : fr zI zA [] F F1) (h : m_ent T gv df F1 F' l s e o m rp r) : m_ent T gv df F F' l s e o m rp r := by
  obtain ⟨s', p', e', k1, k2, k3, k4, k5, k6, k7, k8, k9, k10, k11, k12, k13⟩ := h
  exact ⟨s', p', e', k1, k2, k3, k4, k5, k6, k7, k8, k9, stk_trans h1 k10, k11, fr_trans h2 k12, k13⟩
theorem stk_66 {l : Nat} {x : Int32} (hl : l < (F.2.1 66).length) : stk l F (fx_A F 66 ((F.2.1 66).set l x)) := by
  intro o j h1 h2 h3 h4
  rw [fx_A_A]
  split
  · rename_i e
    subst e
    rw [set_get hl, if_neg (h4 rfl)]
  · rfl
theorem stk_out {l : Nat} {F F' : fx_F} (h : fr [3444] [62] [] F F') : stk l F F' := by
  intro o j h1 h2 _ _
  rw [h.2.1 o (by simp; omega)]
theorem m_at_out {l : Nat} {s : Option Nat} {p e : Nat} {F F' : fx_F} (h : fr [3444] [62] [] F F') (ha : m_at F l s p e) : m_at F' l s p e := by
  unfold m_at
  rw [h.1 3448 (by decide), h.2.1 65 (by decide), h.2.1 66 (by decide), h.2.1 67 (by decide)]
  exact ha
theorem m_dollar (hb : rb_b σ ≤ b) {x : Int32} (hA : m_cmd σ b F0 A x) (hF : fx_ln F) (hF0 : fr zI zA [] F0 F) (hR : m_rd T gv df F) {o : List Nat} (ho : o.length ≤ 120) (hm : m_out F o) {l : Nat} (hl6 : l ≤ 6) {s : Option Nat} (hs : sok gv s) {p e : Nat} (ha : m_at F l s p e) (hpe : p ≤ e) (he : e ≤ (bs T gv s).length) : match dlr A (slc (bs T gv s) p e) with
    | some (.inr (m, rp), r) => (l < 6 → ∃ F', f_M_dollar (some (fx_ad b 34)) x (fx_mk σ b F) = some (some (.int (nI 1)), fx_mk σ b F') ∧ m < 26 ∧ m_ent T gv df F F' l s e o m rp r) ∧ (l = 6 → ∃ F', f_M_dollar (some (fx_ad b 34)) x (fx_mk σ b F) = some (some (.int (nI 0)), fx_mk σ b F') ∧ fx_ln F' ∧ fr zI zA [] F F')
    | some (.inl w, r) => ∃ F', f_M_dollar (some (fx_ad b 34)) x (fx_mk σ b F) = some (some (.int (if o.length + w.length ≤ 120 then nI 1 else nI 0)), fx_mk σ b F') ∧ (o.length + w.length ≤ 120 → m_out F' (o ++ w)) ∧ m_at F' l s (e - r.length) e ∧ stk l F F' ∧ fx_ln F' ∧ fr zI zA [] F F'
    | none => ∃ F', f_M_dollar (some (fx_ad b 34)) x (fx_mk σ b F) = some (some (.int (nI 0)), fx_mk σ b F') ∧ fx_ln F' ∧ fr zI zA [] F F' := by
  have hbl := bs_len (T := T) (gv := gv) (s := s) hR.2.1 hR.2.2.2.2.1
  have hbt := bs_tk (T := T) (gv := gv) (s := s) hR.2.2.1 hR.2.2.2.2.1
  have h66 := hF.1 66
  simp only [fx_cI] at h66
  obtain ⟨a1, a2, a3, a4⟩ := ha
  by_cases hpe2 : p = e
  · subst hpe2
    rw [slc_self]
    refine ⟨F, ?_, hF, fr_refl _ _ _ _⟩
    unfold f_M_dollar
    simp (disch := omega) only [↓fx_bm, ↓bx_of a1 (show l < 2147483648 by omega) a3, ↓bx_of a1 (show l < 2147483648 by omega) a4, ↓reduceIte, n_ltT, n_ltF, n_leT, n_leF, n_eqT, n_eqF, nI_1, u_lt, u_le, u_eq, u_add, u_ix, u_ixL, u_ixR, u_cl, u_nm1, u_nm1', u_m1l, u_m1n, u_l0, Option.bind_some, Option.map_some, not_true_eq_false, not_false_eq_true, true_and, and_true, Nat.add_sub_cancel, Bool.false_eq_true, u_nar2]
  · have hch := m_charAt (σ := σ) (b := b) hR.1 hR.2.2.2.1 hR.2.2.2.2.1 hs (l := l) (p := p) (by omega) a2 (by omega) hR.2.1
    have hc := ty_lt (tk_get hbt (k := p) (by omega))
    rw [slc_cons (by omega) he]
    have hlnA : fx_ln (fx_A F 66 ((F.2.1 66).set l (nI (p + 1)))) := fx_lnA hF (by rw [List.length_set]; exact hF.1 _)
    have hfrA : fr zI zA [] F (fx_A F 66 ((F.2.1 66).set l (nI (p + 1)))) := fr_A (fr_refl _ _ _ _) (by decide)
    have hstA : stk l F (fx_A F 66 ((F.2.1 66).set l (nI (p + 1)))) := stk_66 (by omega)
    have haA : m_at (fx_A F 66 ((F.2.1 66).set l (nI (p + 1)))) l s (p + 1) e := by
      refine ⟨a1, ?_, ?_, ?_⟩
      · rw [fx_A_A, if_neg (by decide)]
        exact a2
      · rw [fx_A_A, if_pos rfl, set_get (by omega), if_pos rfl]
      · rw [fx_A_A, if_neg (by decide)]
        exact a4
    have hmA : m_out (fx_A F 66 ((F.2.1 66).set l (nI (p + 1)))) o := hm
    have hRA := m_rd_fr hR hfrA
    have hrl : (slc (bs T gv s) (p + 1) e).length = e - (p + 1) := slc_len he
    have run : f_M_dollar (some (fx_ad b 34)) x (fx_mk σ b F) = (if (bs T gv s).getD p 0 = 36 then rb_cI (f_M_append (some (fx_ad b 34)) (nI 36) (fx_mk σ b (fx_A F 66 ((F.2.1 66).set l (nI (p + 1)))))) (fun x_17 σ_18 => if rb_isZ x_17 then some (some (.int x_17), σ_18) else none) else if cap ((bs T gv s).getD p 0) = true then rb_cI (f_M_enter (some (fx_ad b 34)) (nI ((bs T gv s).getD p 0 - 65)) (-1) (-1) (-1) (fx_mk σ b (fx_A F 66 ((F.2.1 66).set l (nI (p + 1)))))) (fun x_25 σ_26 => if rb_isZ x_25 then some (some (.int x_25), σ_26) else none) else if (bs T gv s).getD p 0 = 40 then rb_cI (f_M_parenthesis (some (fx_ad b 34)) (fx_mk σ b (fx_A F 66 ((F.2.1 66).set l (nI (p + 1)))))) (fun x_21 σ_22 => if rb_isZ x_21 then some (some (.int x_21), σ_22) else none) else if x = 0 then some (some (.int (nI 0)), fx_mk σ b (fx_A F 66 ((F.2.1 66).set l (nI (p + 1))))) else rb_cI (f_M_automatic (some (fx_ad b 34)) (nI ((bs T gv s).getD p 0)) (fx_mk σ b (fx_A F 66 ((F.2.1 66).set l (nI (p + 1)))))) (fun x_23 σ_24 => if x_23 = 0 then some (some (.int (nI 0)), σ_24) else some (some (.int (nI 1)), σ_24))) := by
      unfold f_M_dollar
      have hch' := hch
      rw [← a1] at hch'
      simp (disch := omega) only [↓fx_bm, ↓fx_vm hb, ↓bx_of a1 (show l < 2147483648 by omega) a3, ↓bx_of a1 (show l < 2147483648 by omega) a4, ↓cI_of hch', ↓reduceIte, n_ltT, n_ltF, n_leT, n_leF, n_eqT, n_eqF, nI_1, u_lt, u_le, u_eq, u_add, u_ix, u_ixL, u_ixR, u_cl, u_nm1, u_nm1', u_m1l, u_m1n, u_l0, Option.bind_some, Option.map_some, not_true_eq_false, not_false_eq_true, true_and, and_true, Nat.add_sub_cancel, Bool.false_eq_true, u_nar2]
      simp (disch := omega) only [a1, u_l1, u_l36, u_l40, u_l65, ↓reduceIte, n_ltT, n_ltF, n_leT, n_leF, n_eqT, n_eqF, nI_1, u_lt, u_le, u_eq, u_add, u_ix, u_ixL, u_ixR, u_cl, u_nm1, u_nm1', u_m1l, u_m1n, u_l0, Option.bind_some, Option.map_some, not_true_eq_false, not_false_eq_true, true_and, and_true, Nat.add_sub_cancel, Bool.false_eq_true, u_nar2, ↓cI_of (m_capital _ (show (bs T gv s).getD p 0 < 65536 by omega))]
      by_cases c1 : (bs T gv s).getD p 0 = 36
      · simp only [c1, if_true]
      · simp only [c1, if_false]
        by_cases c2 : cap ((bs T gv s).getD p 0) = true
        · have c3 : 65 ≤ (bs T gv s).getD p 0 := by
            unfold cap at c2
            simp only [decide_eq_true_eq] at c2
            exact c2.1
          simp (disch := omega) only [c2, ↓reduceIte, n_ltT, n_ltF, n_leT, n_leF, n_eqT, n_eqF, nI_1, u_lt, u_le, u_eq, u_add, u_ix, u_ixL, u_ixR, u_cl, u_nm1, u_nm1', u_m1l, u_m1n, u_l0, Option.bind_some, Option.map_some, not_true_eq_false, not_false_eq_true, true_and, and_true, Nat.add_sub_cancel, Bool.false_eq_true, u_nar2, ↓fx_bm, reduceCtorEq, u_sub]
        · simp (disch := omega) only [c2, ↓reduceIte, n_ltT, n_ltF, n_leT, n_leF, n_eqT, n_eqF, nI_1, u_lt, u_le, u_eq, u_add, u_ix, u_ixL, u_ixR, u_cl, u_nm1, u_nm1', u_m1l, u_m1n, u_l0, Option.bind_some, Option.map_some, not_true_eq_false, not_false_eq_true, true_and, and_true, Nat.add_sub_cancel, Bool.false_eq_true, u_nar2, ↓fx_bm, reduceCtorEq]
    by_cases c1 : (bs T gv s).getD p 0 = 36
    · rw [c1]
      rw [if_pos c1] at run
      have hd : dlr A (36 :: slc (bs T gv s) (p + 1) e) = some (.inl [36], slc (bs T gv s) (p + 1) e) := by
        rw [dlr, if_pos rfl]
      rw [hd]
      obtain ⟨F', e1, e2, e3, e4⟩ := m_append (σ := σ) (b := b) hb hlnA ho hmA 36
      refine ⟨F', ?_, fun h => ?_, ?_, stk_trans hstA (stk_out e4), e3, fr_trans hfrA (fr_mono e4 (by simp) (by simp) (by simp))⟩
      · rw [run, e1]
        have hl1 : (o.length + [36].length ≤ 120) = (o.length < 120) := by
          apply propext
          simp only [List.length_singleton]
          omega
        simp only [rb_cI, hl1]
        by_cases h : o.length < 120
        · simp only [h, if_true]
          rfl
        · simp only [h, if_false]
          rfl
      · rw [if_pos (show o.length < 120 by simp at h; omega)] at e2
        exact e2
      · rw [hrl, show e - (e - (p + 1)) = p + 1 by omega]
        exact m_at_out e4 haA
    · rw [if_neg c1] at run
      by_cases c2 : cap ((bs T gv s).getD p 0) = true
      · rw [if_pos c2] at run
        have c3 : 65 ≤ (bs T gv s).getD p 0 ∧ (bs T gv s).getD p 0 ≤ 90 := by
          unfold cap at c2
          simpa using c2
        have hd : dlr A ((bs T gv s).getD p 0 :: slc (bs T gv s) (p + 1) e) = some (.inr ((bs T gv s).getD p 0 - 65, none), slc (bs T gv s) (p + 1) e) := by
          rw [dlr, if_neg c1, if_pos c2]
        rw [hd]
        refine ⟨fun hl => ?_, fun hl => ?_⟩
        · obtain ⟨F', k1, k2⟩ := m_go (σ := σ) (b := b) hb hF hR hm hl ⟨a1, a2, a3, a4⟩ (m := (bs T gv s).getD p 0 - 65) (by omega) (r := slc (bs T gv s) (p + 1) e) (q := p + 1) (by rw [hrl]; omega) (-1) (-1) (-1) none (fun _ => rfl) (fun u v h => by cases h)
          refine ⟨F', ?_, by omega, k2⟩
          rw [run, k1]
          rfl
        · subst hl
          refine ⟨_, ?_, hlnA, hfrA⟩
          rw [run, m_fail hb hF _ _ _ _ a1]
          rfl
      · rw [if_neg c2] at run
        by_cases c4 : (bs T gv s).getD p 0 = 40
        · rw [if_pos c4] at run
          have hd : dlr A ((bs T gv s).getD p 0 :: slc (bs T gv s) (p + 1) e) = brk (slc (bs T gv s) (p + 1) e) := by
            rw [dlr, if_neg c1, if_neg c2, if_pos c4]
          rw [hd]
          have hp := m_paren (σ := σ) (b := b) hb hlnA hRA hmA hl6 hs haA (by omega) he
          cases hbk : brk (slc (bs T gv s) (p + 1) e) with
          | none =>
            rw [hbk] at hp
            obtain ⟨F', k1, k2, k3⟩ := hp
            refine ⟨F', ?_, k2, fr_trans hfrA k3⟩
            rw [run, k1]
            rfl
          | some y =>
            rw [hbk] at hp
            obtain ⟨y1, r⟩ := y
            cases y1 with
            | inl w => exact hp.elim
            | inr q =>
              obtain ⟨m, rp⟩ := q
              refine ⟨fun hl => ?_, fun hl => ?_⟩
              · obtain ⟨F', k1, k2, k3⟩ := hp.1 hl
                refine ⟨F', ?_, k2, m_ent_pre hstA hfrA k3⟩
                rw [run, k1]
                rfl
              · obtain ⟨F', k1, k2, k3⟩ := hp.2 hl
                refine ⟨F', ?_, k2, fr_trans hfrA k3⟩
                rw [run, k1]
                rfl
        · rw [if_neg c4] at run
          have hd : dlr A ((bs T gv s).getD p 0 :: slc (bs T gv s) (p + 1) e) = (A ((bs T gv s).getD p 0)).map (fun l => (.inl l, slc (bs T gv s) (p + 1) e)) := by
            rw [dlr, if_neg c1, if_neg c2, if_neg c4]
          rw [hd]
          rcases hA with ⟨hx, hn⟩ | ⟨hx, hau⟩
          · rw [hn]
            refine ⟨_, ?_, hlnA, hfrA⟩
            rw [run, hx, if_pos (show nI 0 = 0 from rfl)]
          · rw [hx, if_neg (show ¬ nI 1 = 0 by decide)] at run
            obtain ⟨F', k1, k2, k3, k4⟩ := hau _ o ((bs T gv s).getD p 0) (fr_trans hF0 hfrA) hlnA hmA ho (by omega)
            cases hAd : A ((bs T gv s).getD p 0) with
            | none =>
              rw [hAd] at k1
              refine ⟨F', ?_, k3, fr_trans hfrA (fr_mono k4 (by simp) (by simp) (by simp))⟩
              rw [hx, run, k1]
              rfl
            | some w =>
              rw [hAd] at k1
              refine ⟨F', ?_, k2 w hAd, ?_, stk_trans hstA (stk_out k4), k3, fr_trans hfrA (fr_mono k4 (by simp) (by simp) (by simp))⟩
              · rw [hx, run, k1]
                simp only [rb_cI]
                by_cases h : o.length + w.length ≤ 120
                · simp only [h, if_true]
                  rfl
                · simp only [h, if_false]
                  rfl
              · rw [hrl, show e - (e - (p + 1)) = p + 1 by omega]
                exact m_at_out k4 haA
end
