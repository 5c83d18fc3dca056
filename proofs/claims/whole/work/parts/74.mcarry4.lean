/-! the reference: carry and carryOut -/
theorem carry_ok (R : RS) (gv : Nat → Option (List Nat)) (w t : Nat) (ch : CH) (ds : List Nat) (nw : List Bool) (c : List Nat) {S : PS} (n : Nat) (h : pok S) : pok (x_carry R gv w t ch ds nw c S n).2.1 ∧ (pN S).length ≤ (pN (x_carry R gv w t ch ds nw c S n).2.1).length := by
  have hs : pok S ∧ (pN S).length ≤ (pN S).length := ⟨h, Nat.le_refl _⟩
  unfold x_carry
  split
  · exact hs
  · split
    · exact hs
    · rename_i o ho
      have hS1 : ∀ S1 : PS, (S1 = S ∨ S1 = (pN S, pF S, pC S, x_puts (pP S) (o ++ [10]))) → pok S1 ∧ pN S1 = pN S := by
        rintro S1 (e | e)
        · subst e
          exact ⟨h, rfl⟩
        · subst e
          exact ⟨⟨h.1, puts_len _ _⟩, rfl⟩
      have hS2 := hS1 (if op w 8 = true ∨ (x_has c 64 = true ∨ x_silent R w t = true) ∧ op w 2 = false then S else (pN S, pF S, pC S, x_puts (pP S) (o ++ [10]))) (by split <;> simp)
      simp only
      generalize (if op w 8 = true ∨ (x_has c 64 = true ∨ x_silent R w t = true) ∧ op w 2 = false then S else (pN S, pF S, pC S, x_puts (pP S) (o ++ [10]))) = S1 at hS2 ⊢
      split
      · exact ⟨hS2.1, by show (pN S).length ≤ (pN S1).length; rw [hS2.2]; exact Nat.le_refl _⟩
      · have := perf_ok (wl o (wds o o.length 0 o.length)) hS2.1
        exact ⟨this.1, by rw [← hS2.2]; exact this.2⟩
/-- a name is under way, with its choice and what is newer -/
def m_on (T : List Nat) (gv : Nat → Option (List Nat)) (R : RS) (w t : Nat) (ch : CH) (nw : List Bool) (F : fx_F) (S : PS) (n : Nat) : Prop := m_bx T gv R w F S n ∧ pok S ∧ m_av F R (pN S) ch nw t ∧ t < (pN S).length ∧ chok (pN S) ch ∧ (∀ d, d ∈ x_deps R ch t → d < (pN S).length) ∧ (x_deps R ch t).length = nw.length
theorem chok_mono {N N' : List (List Nat)} {ch : CH} (h : chok N ch) (hl : N.length ≤ N'.length) : chok N' ch := ⟨fun x hx => ⟨Nat.lt_of_lt_of_le (h.1 x hx).1 hl, (h.1 x hx).2⟩, h.2⟩
theorem m_on_up {T : List Nat} {gv : Nat → Option (List Nat)} {R : RS} {w t : Nat} {ch : CH} {nw : List Bool} {F F' : fx_F} {S S' : PS} {n n' : Nat} (h : m_on T gv R w t ch nw F S n) (hf : fr zBi zBa [36] F F') (hB : m_bx T gv R w F' S' n') (hS : pok S') (hl : (pN S).length ≤ (pN S').length) : m_on T gv R w t ch nw F' S' n' := by
  obtain ⟨h1, h2, ⟨v1, v2, v3, v4, v5⟩, h4, h5, h6, h7⟩ := h
  refine ⟨hB, hS, ⟨hB.1.1, m_pr_fr v2 hf (by decide), m_ch_fr v3 hf (by decide), (hf.1 3468 (by decide)).trans v4, ?_⟩, Nat.lt_of_lt_of_le h4 hl, chok_mono h5 hl, fun d hd => Nat.lt_of_lt_of_le (h6 d hd) hl, h7⟩
  rw [hf.2.1 81 (by decide)]
  exact v5
section
variable {σ : rb_St} {b : Nat} {F : fx_F} {T : List Nat} {gv : Nat → Option (List Nat)} {R : RS}
theorem m_carry (hb : rb_b σ ≤ b) (hF : fx_ln F) {w : Nat} (hw : w < 64) (hT3 : T.length ≤ 320) (hTk : tk T) (hgo : gok gv) (hR : rok R) {S : PS} {n t : Nat} {ch : CH} {nw : List Bool} (hO : m_on T gv R w t ch nw F S n) {k : Nat} (hk : k < (rCm R).length) : ∃ F', f_M_carry (some (fx_ad b 34)) (nI t) (nI k) (fx_mk σ b F) = some (some (.int (nI (b2 (x_carry R gv w t ch (x_deps R ch t) nw ((rCm R).getD k (0, [])).2 S n).1))), fx_mk σ b F') ∧ m_on T gv R w t ch nw F' (x_carry R gv w t ch (x_deps R ch t) nw ((rCm R).getD k (0, [])).2 S n).2.1 (x_carry R gv w t ch (x_deps R ch t) nw ((rCm R).getD k (0, [])).2 S n).2.2 ∧ fx_ln F' ∧ fr zBi zBa [36] F F' := by
  have hO0 := hO
  obtain ⟨hB, hS, hv, ht, hc, hdl, hnw⟩ := hO
  have h30 := hR.2.2.2.1
  have ht32 : t < 32 := Nat.lt_of_lt_of_le ht hS.1.1
  obtain ⟨fm, to, p1, p2, p3, p4, p5, p6⟩ := hB.1.2.2.2.1.2 k hk
  replace p6 : ((rCm R).getD k (0, [])).2 = slc T fm to := p6
  rw [p6]
  have hlen := slc_len (p := fm) p2
  have hmarks := m_marks (σ := σ) (b := b) (F := F) hB.2.1 hT3 hTk (x1 := nI t) (k := k) (by omega) p1 p2 p4 (to - fm) 0 (by omega)
  have hile := (fi_le (P := fun k => !mkd ((slc T fm to).getD k 0)) (n := to - fm) (k := 0) (by omega)).2
  have hst : f_M_carry (some (fx_ad b 34)) (nI t) (nI k) (fx_mk σ b F) = f_M_carry_j143 (some (fx_ad b 34)) (nI t) (nI k) (nI (fm + fi (fun k => !mkd ((slc T fm to).getD k 0)) (to - fm) 0)) (nI (b2 (x_has (slc T fm to) 45))) (nI (b2 (x_has (slc T fm to) 64))) (nI (b2 (x_has (slc T fm to) 43))) (fx_mk σ b F) := by
    unfold x_has
    rw [hlen, ← hmarks]
    unfold f_M_carry
    simp only [↓fx_bm, ↓bx_of rfl (show k < 2147483648 by omega) p3]
    rfl
  have hune : ((op w 8 || ((x_has (slc T fm to) 64 || (rFl R 3 t || rBo R 1) || op w 32) && !op w 2)) = true) = (op w 8 = true ∨ (x_has (slc T fm to) 64 = true ∨ x_silent R w t = true) ∧ op w 2 = false) := by
    unfold x_silent
    cases op w 8 <;> cases x_has (slc T fm to) 64 <;> cases rFl R 3 t <;> cases rBo R 1 <;> cases op w 32 <;> cases op w 2 <;> simp
  have hok := carry_ok R gv w t ch (x_deps R ch t) nw (slc T fm to) n hS
  have hoo := op_a w hw
  have ho8 : f_M_option (some (fx_ad b 34)) (8 : Int32) (fx_mk σ b F) = some (some (.int (nI (b2 (op w 8)))), fx_mk σ b F) := m_option hw hB.2.2.2.2.2.1 hoo.2.2.2.1
  have ho2 : f_M_option (some (fx_ad b 34)) (2 : Int32) (fx_mk σ b F) = some (some (.int (nI (b2 (op w 2)))), fx_mk σ b F) := m_option hw hB.2.2.2.2.2.1 hoo.2.1
  have ho4 : f_M_option (some (fx_ad b 34)) (4 : Int32) (fx_mk σ b F) = some (some (.int (nI (b2 (op w 4)))), fx_mk σ b F) := m_option hw hB.2.2.2.2.2.1 hoo.2.2.1
  -- not skipped
  have hgo1 : (x_has (slc T fm to) 43 = false → op w 8 = false ∧ (op w 4 = true → op w 2 = true)) → ∃ F', f_M_carry_j175 (some (fx_ad b 34)) (nI t) (nI k) (nI (fm + fi (fun k => !mkd ((slc T fm to).getD k 0)) (to - fm) 0)) (nI (b2 (x_has (slc T fm to) 45))) (nI (b2 (x_has (slc T fm to) 64))) (nI (b2 (x_has (slc T fm to) 43))) (fx_mk σ b F) = some (some (.int (nI (b2 (x_carry R gv w t ch (x_deps R ch t) nw (slc T fm to) S n).1))), fx_mk σ b F') ∧ m_on T gv R w t ch nw F' (x_carry R gv w t ch (x_deps R ch t) nw (slc T fm to) S n).2.1 (x_carry R gv w t ch (x_deps R ch t) nw (slc T fm to) S n).2.2 ∧ fx_ln F' ∧ fr zBi zBa [36] F F' := by
    intro hpl
    obtain ⟨F', a1, a2, a3, a4⟩ := m_j175 (σ := σ) (b := b) hb hF hw hS hB hT3 hTk hgo hR ht hc hnw hdl hv (k := k) (fm := fm) (to := to) (i := fi (fun k => !mkd ((slc T fm to).getD k 0)) (to - fm) 0) (by omega) (by omega) p2 p4 (x_has (slc T fm to) 45) (x_has (slc T fm to) 64) (x_has (slc T fm to) 43) hpl
    have hns : ¬ (x_has (slc T fm to) 43 = false ∧ (op w 8 = true ∨ op w 4 = true ∧ op w 2 = false)) := by
      rintro ⟨q1, q2⟩
      obtain ⟨q3, q4⟩ := hpl q1
      rcases q2 with q2 | ⟨q2, q5⟩
      · rw [q3] at q2
        cases q2
      · rw [q4 q2] at q5
        cases q5
    have hx : x_carry R gv w t ch (x_deps R ch t) nw (slc T fm to) S n = (match xr (x_auto (pN S) ch (x_deps R ch t) nw t) (vl gv (rDf R)) (slc T (fm + fi (fun k => !mkd ((slc T fm to).getD k 0)) (to - fm) 0) to) with
      | none => (x_forg R w t (slc T fm to), S, n)
      | some o => if x_has (slc T fm to) 43 = false ∧ op w 2 = true then (true, (if (op w 8 || ((x_has (slc T fm to) 64 || (rFl R 3 t || rBo R 1) || op w 32) && !op w 2)) = true then S else (pN S, pF S, pC S, x_puts (pP S) (o ++ [10]))), n) else ((x_perf (wl o (wds o o.length 0 o.length)) (if (op w 8 || ((x_has (slc T fm to) 64 || (rFl R 3 t || rBo R 1) || op w 32) && !op w 2)) = true then S else (pN S, pF S, pC S, x_puts (pP S) (o ++ [10])))).1 || x_forg R w t (slc T fm to), (x_perf (wl o (wds o o.length 0 o.length)) (if (op w 8 || ((x_has (slc T fm to) 64 || (rFl R 3 t || rBo R 1) || op w 32) && !op w 2)) = true then S else (pN S, pF S, pC S, x_puts (pP S) (o ++ [10])))).2, n + 1)) := by
      unfold x_carry
      rw [if_neg hns, hlen, slc_drop2]
      cases xr (x_auto (pN S) ch (x_deps R ch t) nw t) (vl gv (rDf R)) (slc T (fm + fi (fun k => !mkd ((slc T fm to).getD k 0)) (to - fm) 0) to) with
      | none => rfl
      | some o =>
        simp only [hune]
    have hx1 : (x_carry R gv w t ch (x_deps R ch t) nw (slc T fm to) S n).1 = (match xr (x_auto (pN S) ch (x_deps R ch t) nw t) (vl gv (rDf R)) (slc T (fm + fi (fun k => !mkd ((slc T fm to).getD k 0)) (to - fm) 0) to) with | none => x_has (slc T fm to) 45 || rFl R 2 t || rBo R 0 || op w 16 | some o => if x_has (slc T fm to) 43 = false ∧ op w 2 = true then true else (x_perf (wl o (wds o o.length 0 o.length)) (if (op w 8 || ((x_has (slc T fm to) 64 || (rFl R 3 t || rBo R 1) || op w 32) && !op w 2)) = true then S else (pN S, pF S, pC S, x_puts (pP S) (o ++ [10])))).1 || (x_has (slc T fm to) 45 || rFl R 2 t || rBo R 0 || op w 16)) := by
      rw [hx]
      cases xr (x_auto (pN S) ch (x_deps R ch t) nw t) (vl gv (rDf R)) (slc T (fm + fi (fun k => !mkd ((slc T fm to).getD k 0)) (to - fm) 0) to) with
      | none => rfl
      | some o =>
        simp only
        split <;> rfl
    have hx2 : (x_carry R gv w t ch (x_deps R ch t) nw (slc T fm to) S n).2.1 = (match xr (x_auto (pN S) ch (x_deps R ch t) nw t) (vl gv (rDf R)) (slc T (fm + fi (fun k => !mkd ((slc T fm to).getD k 0)) (to - fm) 0) to) with | none => S | some o => if x_has (slc T fm to) 43 = false ∧ op w 2 = true then (if (op w 8 || ((x_has (slc T fm to) 64 || (rFl R 3 t || rBo R 1) || op w 32) && !op w 2)) = true then S else (pN S, pF S, pC S, x_puts (pP S) (o ++ [10]))) else (x_perf (wl o (wds o o.length 0 o.length)) (if (op w 8 || ((x_has (slc T fm to) 64 || (rFl R 3 t || rBo R 1) || op w 32) && !op w 2)) = true then S else (pN S, pF S, pC S, x_puts (pP S) (o ++ [10])))).2) := by
      rw [hx]
      cases xr (x_auto (pN S) ch (x_deps R ch t) nw t) (vl gv (rDf R)) (slc T (fm + fi (fun k => !mkd ((slc T fm to).getD k 0)) (to - fm) 0) to) with
      | none => rfl
      | some o =>
        simp only
        split <;> rfl
    have hx3 : (x_carry R gv w t ch (x_deps R ch t) nw (slc T fm to) S n).2.2 = (match xr (x_auto (pN S) ch (x_deps R ch t) nw t) (vl gv (rDf R)) (slc T (fm + fi (fun k => !mkd ((slc T fm to).getD k 0)) (to - fm) 0) to) with | none => n | some _ => if x_has (slc T fm to) 43 = false ∧ op w 2 = true then n else n + 1) := by
      rw [hx]
      cases xr (x_auto (pN S) ch (x_deps R ch t) nw t) (vl gv (rDf R)) (slc T (fm + fi (fun k => !mkd ((slc T fm to).getD k 0)) (to - fm) 0) to) with
      | none => rfl
      | some o =>
        simp only
        split <;> rfl
    have a5 : m_bx T gv R w F' (x_carry R gv w t ch (x_deps R ch t) nw (slc T fm to) S n).2.1 (x_carry R gv w t ch (x_deps R ch t) nw (slc T fm to) S n).2.2 := by
      rw [hx2, hx3]
      exact a2
    exact ⟨F', by rw [hx1]; exact a1, m_on_up hO0 a4 a5 hok.1 hok.2, a3, a4⟩
  rw [hst]
  have hskip : (x_has (slc T fm to) 43 = false ∧ (op w 8 = true ∨ op w 4 = true ∧ op w 2 = false)) → x_carry R gv w t ch (x_deps R ch t) nw (slc T fm to) S n = (true, S, n) := fun h => by
    unfold x_carry
    exact if_pos h
  unfold f_M_carry_j143
  cases hpl : x_has (slc T fm to) 43
  · rw [hpl] at hgo1 hskip
    cases h8 : op w 8
    · rw [h8] at ho8 hgo1 hskip
      simp only [b2_f] at ho8
      cases h4 : op w 4
      · rw [h4] at ho4 hgo1
        simp only [b2_f] at ho4
        obtain ⟨F', e1, e2, e3, e4⟩ := hgo1 (fun _ => ⟨rfl, fun h => (by cases h)⟩)
        refine ⟨F', ?_, e2, e3, e4⟩
        rw [← e1]
        simp (disch := omega) only [↓fx_bm, ↓cI_of ho8, ↓cI_of ho4, ↓reduceIte, n_ltT, n_ltF, n_leT, n_leF, n_eqT, n_eqF, nI_1, u_lt, u_le, u_eq, u_add, u_ix, u_ixL, u_ixR, u_cl, u_nm1, u_nm1', u_m1l, u_m1n, u_l0, Option.bind_some, Option.map_some, not_true_eq_false, not_false_eq_true, true_and, and_true, Nat.add_sub_cancel, Bool.false_eq_true, u_nar2, b2_f]
      · rw [h4] at ho4 hgo1 hskip
        simp only [b2_t] at ho4
        cases h2 : op w 2
        · rw [h2] at ho2 hskip
          simp only [b2_f] at ho2
          have := hskip ⟨rfl, Or.inr ⟨rfl, rfl⟩⟩
          rw [this]
          refine ⟨F, ?_, hO0, hF, fr_refl _ _ _ _⟩
          simp (disch := omega) only [↓fx_bm, ↓cI_of ho8, ↓cI_of ho4, ↓cI_of ho2, ↓reduceIte, n_ltT, n_ltF, n_leT, n_leF, n_eqT, n_eqF, nI_1, u_lt, u_le, u_eq, u_add, u_ix, u_ixL, u_ixR, u_cl, u_nm1, u_nm1', u_m1l, u_m1n, u_l0, Option.bind_some, Option.map_some, not_true_eq_false, not_false_eq_true, true_and, and_true, Nat.add_sub_cancel, Bool.false_eq_true, u_nar2, b2_f, b2_t, u_l1]
        · rw [h2] at ho2 hgo1
          simp only [b2_t] at ho2
          obtain ⟨F', e1, e2, e3, e4⟩ := hgo1 (fun _ => ⟨rfl, fun _ => rfl⟩)
          refine ⟨F', ?_, e2, e3, e4⟩
          rw [← e1]
          simp (disch := omega) only [↓fx_bm, ↓cI_of ho8, ↓cI_of ho4, ↓cI_of ho2, ↓reduceIte, n_ltT, n_ltF, n_leT, n_leF, n_eqT, n_eqF, nI_1, u_lt, u_le, u_eq, u_add, u_ix, u_ixL, u_ixR, u_cl, u_nm1, u_nm1', u_m1l, u_m1n, u_l0, Option.bind_some, Option.map_some, not_true_eq_false, not_false_eq_true, true_and, and_true, Nat.add_sub_cancel, Bool.false_eq_true, u_nar2, b2_f]
    · rw [h8] at ho8 hskip
      simp only [b2_t] at ho8
      have := hskip ⟨rfl, Or.inl rfl⟩
      rw [this]
      refine ⟨F, ?_, hO0, hF, fr_refl _ _ _ _⟩
      simp (disch := omega) only [↓fx_bm, ↓cI_of ho8, ↓reduceIte, n_ltT, n_ltF, n_leT, n_leF, n_eqT, n_eqF, nI_1, u_lt, u_le, u_eq, u_add, u_ix, u_ixL, u_ixR, u_cl, u_nm1, u_nm1', u_m1l, u_m1n, u_l0, Option.bind_some, Option.map_some, not_true_eq_false, not_false_eq_true, true_and, and_true, Nat.add_sub_cancel, Bool.false_eq_true, u_nar2, b2_f, b2_t, u_l1]
  · rw [hpl] at hgo1
    obtain ⟨F', e1, e2, e3, e4⟩ := hgo1 (fun h => (by cases h))
    refine ⟨F', ?_, e2, e3, e4⟩
    rw [← e1]
    simp (disch := omega) only [↓reduceIte, n_ltT, n_ltF, n_leT, n_leF, n_eqT, n_eqF, nI_1, u_lt, u_le, u_eq, u_add, u_ix, u_ixL, u_ixR, u_cl, u_nm1, u_nm1', u_m1l, u_m1n, u_l0, Option.bind_some, Option.map_some, not_true_eq_false, not_false_eq_true, true_and, and_true, Nat.add_sub_cancel, Bool.false_eq_true, u_nar2, b2_t]
end
