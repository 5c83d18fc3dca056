/-! the reference: lookForEnding, begin -/
theorem fs_m {α : Type} (g : Nat → Option α) (m k : Nat) : fs g (m + 1) k = match g k with | some x => some x | none => fs g m (k + 1) := (rfl)
section
variable {σ : rb_St} {b : Nat} {F : fx_F} {R : RS} {N : List (List Nat)} {f : Nat → Nat × Int32}
theorem m_lk_fr {zi za zl : List Nat} {F F' : fx_F} (h : m_lk F R N f) (hf : fr zi za zl F F') (hd : (3402 ∉ zi ∧ 36 ∉ zl) ∧ (3418 ∉ zi ∧ 48 ∉ zl) ∧ (3437 ∉ zi ∧ 61 ∉ za ∧ 59 ∉ zl ∧ 60 ∉ zl) ∧ 52 ∉ za ∧ 37 ∉ za) : m_lk F' R N f := by
  refine ⟨m_names_fr h.1 hf hd.1, m_sf_fr h.2.1 hf hd.2.1, m_en_fr h.2.2.1 hf hd.2.2.1, ?_⟩
  rw [hf.2.1 52 hd.2.2.2.1, hf.2.1 37 hd.2.2.2.2]
  exact h.2.2.2
theorem m_tryTake (hb : rb_b σ ≤ b) (hF : fx_ln F) (hR : rok R) (hE : eok R) (hm : m_lk F R N f) {t : Nat} (ht : t < 32) {w r s : List Nat} (hr : sp_name r = true) (hs : s = [] ∨ sp_name s = true) {k g : Nat} (hx : x_cand R N f w r s = some (k, g)) : ∃ e F', f_M_endingOf (some (fx_ad b 34)) (lN (pq r)) (lN (pq s)) (fx_mk σ b F) = some (some (.int (nI e)), fx_mk σ b F) ∧ f_M_take (some (fx_ad b 34)) (nI t) (nI k) (lN (pq w)) (nI e) (fx_mk σ b F) = some (none, fx_mk σ b F') ∧ m_fd F' t (some ((k, g), w)) ∧ fx_ln F' ∧ fr [] [76, 78] [77] F F' ∧ pf t F F' := by
  have o1 := sp_name_ok hr
  have o2 : pq_ok s ∧ s.length ≤ 8 := by
    rcases hs with h | h
    · rw [h]
      exact ⟨fun c hc => (by cases hc), Nat.zero_le _⟩
    · exact ⟨(sp_name_ok h).1, (sp_name_ok h).2.2⟩
  have r3 := hR.2.2.1
  have e8 := r3.1
  have heo := m_endingOf (σ := σ) (b := b) e8 r3.2 hE hm.2.2.1 o1.1 o2.1
  rw [pk_of (show r.length ≤ 9 by omega), pk_of (show s.length ≤ 9 by omega)] at heo
  unfold x_cand at hx
  cases he : x_eidx (rEn R) (r, s) with
  | none =>
    rw [he] at hx
    cases hx
  | some e =>
    rw [he, oi_some] at heo
    rw [he] at hx
    simp only at hx
    have hel := (sr_some he).2.1
    have hec := (hm.2.2.1.2 e (by omega)).2.2
    cases hg : ((rEn R).getD e (([], []), none)).2 with
    | none =>
      rw [hg] at hx
      cases hx
    | some g' =>
      rw [hg] at hx
      rw [hg, oi_some] at hec
      simp only at hx
      split at hx
      · cases hx
      · split at hx
        · injection hx with hx
          injection hx with hk hgg
          subst hgg
          obtain ⟨F', a1, a2, a3, a4, a5⟩ := m_take (σ := σ) (b := b) hb hF (k := k) ht (show e < 8 by omega) (w := w) hec
          exact ⟨e, F', heo, a1, a2, a3, a4, a5⟩
        · cases hx
theorem cand_lt {w r s : List Nat} (hN : nok N) {k g : Nat} (hx : x_cand R N f w r s = some (k, g)) : k < N.length := by
  unfold x_cand at hx
  split at hx
  · cases hx
  · split at hx
    · cases hx
    · split at hx
      · cases hx
      · rename_i k' hk
        split at hx
        · injection hx with hx
          injection hx with hk' _
          subst hk'
          exact nf_lt hk
        · cases hx
theorem m_look72 (hb : rb_b σ ≤ b) (hR : rok R) (hE : eok R) (hN : nok N) {t : Nat} (ht : t < 32) {w : List Nat} (hw : pq_ok w) (hw8 : w.length ≤ 8) {si : Nat} (hsi : si < (rSf R).length) (hlt : ((rSf R).getD si []).length ≤ w.length) : ∀ (m j : Nat) (F : fx_F), j + m = (rSf R).length → fx_ln F → m_lk F R N f → (F.2.1 76)[t]? = some (-1 : Int32) → (F.2.1 78)[t]? = some (-1 : Int32) → ∃ F', rb_it (fun z : (Int32 × rb_St) => f_M_lookForEnding_b72 (some (fx_ad b 34)) (nI t) (lN (pq w)) (nI si) (nI ((rSf R).getD si []).length) (nI 1) (z.1) z.2) (nI j, fx_mk σ b F) = some (.inl (nI (si + 1), fx_mk σ b F')) ∧ m_fd F' t ((fs (fun j => x_cand R N f (w.take (w.length - ((rSf R).getD si []).length)) ((rSf R).getD j []) ((rSf R).getD si [])) m j).map (fun x => (x, w.take (w.length - ((rSf R).getD si []).length)))) ∧ fx_ln F' ∧ fr [] [76, 78] [77] F F' ∧ pf t F F' ∧ m_lk F' R N f := by
  have h6 := hR.2.1.1
  have hsn := (hR.2.1.2 si hsi).1
  have hso := sp_name_ok hsn
  have hbase := pq_high (w := w) (by omega) hw hlt hso.2.2
  have hbok : pq_ok (w.take (w.length - ((rSf R).getD si []).length)) := fun c hc => hw c (List.mem_of_mem_take hc)
  have hb8 : (w.take (w.length - ((rSf R).getD si []).length)).length ≤ 8 := by
    rw [List.length_take]
    omega
  have hb' : lN (pq w) >>> (((7 : Int32) * nI ((rSf R).getD si []).length).toInt64 &&& 63) = lN (pq (w.take (w.length - ((rSf R).getD si []).length))) := by
    rw [show (7 : Int32) * nI ((rSf R).getD si []).length = nI (7 * ((rSf R).getD si []).length) from u_mul 7 _]
    exact hbase
  generalize w.take (w.length - ((rSf R).getD si []).length) = base at hbok hb8 hb' ⊢
  intro m
  induction m with
  | zero =>
    intro j F hj hF hm hn h78
    refine ⟨F, ?_, ⟨hn, fun y hy => (by cases hy), fun _ => h78⟩, hF, fr_refl _ _ _ _, pf_refl _ _, hm⟩
    refine rb_it_r ?_
    show f_M_lookForEnding_b72 _ _ _ _ _ _ _ _ = _
    unfold f_M_lookForEnding_b72 f_M_lookForEnding_j165
    simp (disch := omega) only [↓fx_bm, hm.2.1.1, ↓reduceIte, n_ltT, n_ltF, n_leT, n_leF, n_eqT, n_eqF, nI_1, u_lt, u_le, u_eq, u_add, u_ix, u_ixL, u_ixR, u_cl, u_nm1, u_nm1', u_m1l, u_m1n, u_l0, Option.bind_some, Option.map_some, not_true_eq_false, not_false_eq_true, true_and, and_true, Nat.add_sub_cancel, Bool.false_eq_true, u_nar2]
  | succ m ih =>
    intro j F hj hF hm hn h78
    have hjl : j < (rSf R).length := by omega
    have hrn := (hR.2.1.2 j hjl).1
    have hrow := hm.2.1.2 j hjl
    have hrows := hm.2.1.2 si hsi
    have hcand := m_candidate (σ := σ) (b := b) hR hE hN hm hbok hb8 hrn (Or.inr hsn)
    rw [← hb'] at hcand
    rw [fs_m]
    cases hx : x_cand R N f base ((rSf R).getD j []) ((rSf R).getD si []) with
    | none =>
      rw [hx] at hcand
      simp only [Option.map_none, oi_none] at hcand
      obtain ⟨F', e1, e2, e3, e4, e5, e6⟩ := ih (j + 1) F (by omega) hF hm hn h78
      refine ⟨F', ?_, e2, e3, e4, e5, e6⟩
      rw [← e1]
      refine rb_it_l ?_
      show f_M_lookForEnding_b72 _ _ _ _ _ _ _ _ = _
      unfold f_M_lookForEnding_b72
      simp (disch := omega) only [↓fx_bm, hm.2.1.1, ↓bx_of rfl (show t < 2147483648 by omega) hn, ↓bL_of rfl (show j < 2147483648 by omega) hrow, ↓bL_of rfl (show si < 2147483648 by omega) hrows, ↓cI_of hcand, u_m10, u_0m1, ↓reduceIte, n_ltT, n_ltF, n_leT, n_leF, n_eqT, n_eqF, nI_1, u_lt, u_le, u_eq, u_add, u_ix, u_ixL, u_ixR, u_cl, u_nm1, u_nm1', u_m1l, u_m1n, u_l0, Option.bind_some, Option.map_some, not_true_eq_false, not_false_eq_true, true_and, and_true, Nat.add_sub_cancel, Bool.false_eq_true, u_nar2]
    | some x =>
      obtain ⟨k, g⟩ := x
      rw [hx] at hcand
      simp only [Option.map_some, oi_some] at hcand
      have hk32 : k < 32 := Nat.lt_of_lt_of_le (cand_lt hN hx) hN.1
      obtain ⟨e, F1, a1, a2, a3, a4, a5, a6⟩ := m_tryTake (σ := σ) (b := b) hb hF hR hE hm ht hrn (Or.inr hsn) hx
      rw [← hb'] at a2
      have hm1 := m_lk_fr hm a5 (by decide)
      have hn1 : (F1.2.1 76)[t]? = some (nI k) := a3.1
      refine ⟨F1, ?_, a3, a4, a5, a6, hm1⟩
      have hstep : f_M_lookForEnding_b72 (some (fx_ad b 34)) (nI t) (lN (pq w)) (nI si) (nI ((rSf R).getD si []).length) (nI 1) (nI j) (fx_mk σ b F) = some (.inl (nI (j + 1), fx_mk σ b F1)) := by
        unfold f_M_lookForEnding_b72
        simp (disch := omega) only [↓fx_bm, hm.2.1.1, ↓bx_of rfl (show t < 2147483648 by omega) hn, ↓bL_of rfl (show j < 2147483648 by omega) hrow, ↓bL_of rfl (show si < 2147483648 by omega) hrows, ↓cI_of hcand, ↓cI_of a1, ↓cV_of a2, u_0m1, ↓reduceIte, n_ltT, n_ltF, n_leT, n_leF, n_eqT, n_eqF, nI_1, u_lt, u_le, u_eq, u_add, u_ix, u_ixL, u_ixR, u_cl, u_nm1, u_nm1', u_m1l, u_m1n, u_l0, Option.bind_some, Option.map_some, not_true_eq_false, not_false_eq_true, true_and, and_true, Nat.add_sub_cancel, Bool.false_eq_true, u_nar2]
      refine (rb_it_l hstep).trans ?_
      refine rb_it_r ?_
      show f_M_lookForEnding_b72 _ _ _ _ _ _ _ _ = _
      unfold f_M_lookForEnding_b72 f_M_lookForEnding_j165
      by_cases ej : (rSf R).length ≤ j + 1
      · simp (disch := omega) only [↓fx_bm, hm1.2.1.1, ↓reduceIte, n_ltT, n_ltF, n_leT, n_leF, n_eqT, n_eqF, nI_1, u_lt, u_le, u_eq, u_add, u_ix, u_ixL, u_ixR, u_cl, u_nm1, u_nm1', u_m1l, u_m1n, u_l0, Option.bind_some, Option.map_some, not_true_eq_false, not_false_eq_true, true_and, and_true, Nat.add_sub_cancel, Bool.false_eq_true, u_nar2]
      · simp (disch := omega) only [↓fx_bm, hm1.2.1.1, ↓bx_of rfl (show t < 2147483648 by omega) hn1, ↓reduceIte, n_ltT, n_ltF, n_leT, n_leF, n_eqT, n_eqF, nI_1, u_lt, u_le, u_eq, u_add, u_ix, u_ixL, u_ixR, u_cl, u_nm1, u_nm1', u_m1l, u_m1n, u_l0, Option.bind_some, Option.map_some, not_true_eq_false, not_false_eq_true, true_and, and_true, Nat.add_sub_cancel, Bool.false_eq_true, u_nar2]
theorem m_look174 (hb : rb_b σ ≤ b) (hR : rok R) (hE : eok R) (hN : nok N) {t : Nat} (ht : t < 32) {w : List Nat} (hw : pq_ok w) (hw8 : w.length ≤ 8) : ∀ (m j : Nat) (F : fx_F), j + m = (rSf R).length → fx_ln F → m_lk F R N f → (F.2.1 76)[t]? = some (-1 : Int32) → (F.2.1 78)[t]? = some (-1 : Int32) → ∃ F', rb_it (fun z : (Int32 × rb_St) => f_M_lookForEnding_b174 (some (fx_ad b 34)) (nI t) (lN (pq w)) (z.1) z.2) (nI j, fx_mk σ b F) = some (none, fx_mk σ b F') ∧ m_fd F' t ((fs (fun j => x_cand R N f w ((rSf R).getD j []) []) m j).map (fun x => (x, w))) ∧ fx_ln F' ∧ fr [] [76, 78] [77] F F' ∧ pf t F F' := by
  have h6 := hR.2.1.1
  intro m
  induction m with
  | zero =>
    intro j F hj hF hm hn h78
    refine ⟨F, ?_, ⟨hn, fun y hy => (by cases hy), fun _ => h78⟩, hF, fr_refl _ _ _ _, pf_refl _ _⟩
    refine rb_it_r ?_
    show f_M_lookForEnding_b174 _ _ _ _ _ = _
    unfold f_M_lookForEnding_b174 f_M_lookForEnding_j238
    simp (disch := omega) only [↓fx_bm, hm.2.1.1, ↓reduceIte, n_ltT, n_ltF, n_leT, n_leF, n_eqT, n_eqF, nI_1, u_lt, u_le, u_eq, u_add, u_ix, u_ixL, u_ixR, u_cl, u_nm1, u_nm1', u_m1l, u_m1n, u_l0, Option.bind_some, Option.map_some, not_true_eq_false, not_false_eq_true, true_and, and_true, Nat.add_sub_cancel, Bool.false_eq_true, u_nar2]
  | succ m ih =>
    intro j F hj hF hm hn h78
    have hjl : j < (rSf R).length := by omega
    have hrn := (hR.2.1.2 j hjl).1
    have hrow := hm.2.1.2 j hjl
    have hcand : f_M_candidate (some (fx_ad b 34)) (lN (pq w)) (lN (pq ((rSf R).getD j []))) (0 : Int64) (fx_mk σ b F) = some (some (.int (oi ((x_cand R N f w ((rSf R).getD j []) []).map Prod.fst))), fx_mk σ b F) := by
      have h0 := m_candidate (σ := σ) (b := b) (s := []) hR hE hN hm hw hw8 hrn (Or.inl rfl)
      rw [show lN (pq []) = (0 : Int64) from rfl] at h0
      exact h0
    rw [fs_m]
    cases hx : x_cand R N f w ((rSf R).getD j []) [] with
    | none =>
      rw [hx] at hcand
      simp only [Option.map_none, oi_none] at hcand
      obtain ⟨F', e1, e2, e3, e4, e5⟩ := ih (j + 1) F (by omega) hF hm hn h78
      refine ⟨F', ?_, e2, e3, e4, e5⟩
      rw [← e1]
      refine rb_it_l ?_
      show f_M_lookForEnding_b174 _ _ _ _ _ = _
      unfold f_M_lookForEnding_b174
      simp (disch := omega) only [↓fx_bm, hm.2.1.1, ↓bx_of rfl (show t < 2147483648 by omega) hn, ↓bL_of rfl (show j < 2147483648 by omega) hrow, ↓cI_of hcand, u_m10, u_0m1, ↓reduceIte, n_ltT, n_ltF, n_leT, n_leF, n_eqT, n_eqF, nI_1, u_lt, u_le, u_eq, u_add, u_ix, u_ixL, u_ixR, u_cl, u_nm1, u_nm1', u_m1l, u_m1n, u_l0, Option.bind_some, Option.map_some, not_true_eq_false, not_false_eq_true, true_and, and_true, Nat.add_sub_cancel, Bool.false_eq_true, u_nar2]
    | some x =>
      obtain ⟨k, g⟩ := x
      rw [hx] at hcand
      simp only [Option.map_some, oi_some] at hcand
      have hk32 : k < 32 := Nat.lt_of_lt_of_le (cand_lt hN hx) hN.1
      obtain ⟨e, F1, a1, a2, a3, a4, a5, a6⟩ := m_tryTake (σ := σ) (b := b) (s := []) hb hF hR hE hm ht hrn (Or.inl rfl) hx
      have a1' : f_M_endingOf (some (fx_ad b 34)) (lN (pq ((rSf R).getD j []))) (0 : Int64) (fx_mk σ b F) = some (some (.int (nI e)), fx_mk σ b F) := by
        rw [show lN (pq []) = (0 : Int64) from rfl] at a1
        exact a1
      have hm1 := m_lk_fr hm a5 (by decide)
      have hn1 : (F1.2.1 76)[t]? = some (nI k) := a3.1
      refine ⟨F1, ?_, a3, a4, a5, a6⟩
      have hstep : f_M_lookForEnding_b174 (some (fx_ad b 34)) (nI t) (lN (pq w)) (nI j) (fx_mk σ b F) = some (.inl (nI (j + 1), fx_mk σ b F1)) := by
        unfold f_M_lookForEnding_b174
        simp (disch := omega) only [↓fx_bm, hm.2.1.1, ↓bx_of rfl (show t < 2147483648 by omega) hn, ↓bL_of rfl (show j < 2147483648 by omega) hrow, ↓cI_of hcand, ↓cI_of a1', ↓cV_of a2, u_0m1, ↓reduceIte, n_ltT, n_ltF, n_leT, n_leF, n_eqT, n_eqF, nI_1, u_lt, u_le, u_eq, u_add, u_ix, u_ixL, u_ixR, u_cl, u_nm1, u_nm1', u_m1l, u_m1n, u_l0, Option.bind_some, Option.map_some, not_true_eq_false, not_false_eq_true, true_and, and_true, Nat.add_sub_cancel, Bool.false_eq_true, u_nar2]
      refine (rb_it_l hstep).trans ?_
      refine rb_it_r ?_
      show f_M_lookForEnding_b174 _ _ _ _ _ = _
      unfold f_M_lookForEnding_b174 f_M_lookForEnding_j238
      by_cases ej : (rSf R).length ≤ j + 1
      · simp (disch := omega) only [↓fx_bm, hm1.2.1.1, ↓reduceIte, n_ltT, n_ltF, n_leT, n_leF, n_eqT, n_eqF, nI_1, u_lt, u_le, u_eq, u_add, u_ix, u_ixL, u_ixR, u_cl, u_nm1, u_nm1', u_m1l, u_m1n, u_l0, Option.bind_some, Option.map_some, not_true_eq_false, not_false_eq_true, true_and, and_true, Nat.add_sub_cancel, Bool.false_eq_true, u_nar2]
      · simp (disch := omega) only [↓fx_bm, hm1.2.1.1, ↓bx_of rfl (show t < 2147483648 by omega) hn1, ↓reduceIte, n_ltT, n_ltF, n_leT, n_leF, n_eqT, n_eqF, nI_1, u_lt, u_le, u_eq, u_add, u_ix, u_ixL, u_ixR, u_cl, u_nm1, u_nm1', u_m1l, u_m1n, u_l0, Option.bind_some, Option.map_some, not_true_eq_false, not_false_eq_true, true_and, and_true, Nat.add_sub_cancel, Bool.false_eq_true, u_nar2]
def lkG (R : RS) (N : List (List Nat)) (f : Nat → Nat × Int32) (w : List Nat) (j : Nat) : Option ((Nat × Nat) × List Nat) := if ((rSf R).getD j []).length < w.length ∧ sfx ((rSf R).getD j []) w = true then (x_look1 R N f (w.take (w.length - ((rSf R).getD j []).length)) ((rSf R).getD j [])).map (fun x => (x, w.take (w.length - ((rSf R).getD j []).length))) else none
theorem fs_some {α : Type} {g : Nat → Option α} {y : α} : ∀ (m j : Nat), fs g m j = some y → ∃ i, j ≤ i ∧ i < j + m ∧ g i = some y := by
  intro m
  induction m with
  | zero => intro j h; cases h
  | succ m ih =>
    intro j h
    rw [fs_m] at h
    cases hg : g j with
    | none =>
      rw [hg] at h
      obtain ⟨i, h1, h2, h3⟩ := ih (j + 1) h
      exact ⟨i, by omega, by omega, h3⟩
    | some z =>
      rw [hg] at h
      exact ⟨j, Nat.le_refl _, by omega, hg.trans h⟩
theorem look1_lt {w s : List Nat} (hN : nok N) {x : Nat × Nat} (h : x_look1 R N f w s = some x) : x.1 < N.length := by
  unfold x_look1 at h
  obtain ⟨i, _, _, hi⟩ := fs_some _ _ h
  obtain ⟨k, g⟩ := x
  exact cand_lt hN hi
theorem lkG_src {w : List Nat} (hN : nok N) {i : Nat} {y : (Nat × Nat) × List Nat} (hi : lkG R N f w i = some y) : y.1.1 < N.length ∧ ∃ n, y.2 = w.take n := by
  unfold lkG at hi
  split at hi
  · cases hq : x_look1 R N f (w.take (w.length - ((rSf R).getD i []).length)) ((rSf R).getD i []) with
    | none =>
      rw [hq] at hi
      cases hi
    | some x =>
      rw [hq] at hi
      injection hi with hi
      subst hi
      exact ⟨look1_lt hN hq, _, rfl⟩
  · cases hi
theorem fs_src {w : List Nat} (hN : nok N) (m j : Nat) (y : (Nat × Nat) × List Nat) (h : fs (lkG R N f w) m j = some y) : y.1.1 < N.length ∧ ∃ n, y.2 = w.take n := by
  obtain ⟨i, _, _, hi⟩ := fs_some _ _ h
  exact lkG_src hN hi
theorem m_look10 (hb : rb_b σ ≤ b) (hR : rok R) (hE : eok R) (hN : nok N) {t : Nat} (ht : t < 32) {w : List Nat} (hw : pq_ok w) (hw8 : w.length ≤ 8) : ∀ (m si : Nat) (F : fx_F) (x : Option ((Nat × Nat) × List Nat)), si + m = (rSf R).length → fx_ln F → m_lk F R N f → m_fd F t x → (∀ y, x = some y → y.1.1 < 32) → ∃ F', rb_it (fun z : (Int32 × rb_St) => f_M_lookForEnding_b10 (some (fx_ad b 34)) (nI t) (lN (pq w)) (z.1) z.2) (nI si, fx_mk σ b F) = rb_it (fun z : (Int32 × rb_St) => f_M_lookForEnding_b174 (some (fx_ad b 34)) (nI t) (lN (pq w)) (z.1) z.2) (nI 0, fx_mk σ b F') ∧ m_fd F' t (match x with | some y => some y | none => fs (lkG R N f w) m si) ∧ fx_ln F' ∧ fr [] [76, 78] [77] F F' ∧ pf t F F' ∧ m_lk F' R N f := by
  have h6 := hR.2.1.1
  intro m
  induction m with
  | zero =>
    intro si F x hs hF hm hfd hx32
    refine ⟨F, ?_, ?_, hF, fr_refl _ _ _ _, pf_refl _ _, hm⟩
    · refine rb_it_m ?_
      show f_M_lookForEnding_b10 _ _ _ _ _ = _
      unfold f_M_lookForEnding_b10
      simp (disch := omega) only [↓fx_bm, hm.2.1.1, ↓reduceIte, n_ltT, n_ltF, n_leT, n_leF, n_eqT, n_eqF, nI_1, u_lt, u_le, u_eq, u_add, u_ix, u_ixL, u_ixR, u_cl, u_nm1, u_nm1', u_m1l, u_m1n, u_l0, Option.bind_some, Option.map_some, not_true_eq_false, not_false_eq_true, true_and, and_true, Nat.add_sub_cancel, Bool.false_eq_true, u_nar2]
    · cases x <;> exact hfd
  | succ m ih =>
    intro si F x hs hF hm hfd hx32
    have hsl : si < (rSf R).length := by omega
    have hsn := (hR.2.1.2 si hsl).1
    have hso := sp_name_ok hsn
    have hrow := hm.2.1.2 si hsl
    have hls := m_length (fx_mk σ b F) (w := (rSf R).getD si []) (by omega) hso.1
    have hlw := m_length (fx_mk σ b F) (w := w) (by omega) hw
    -- the body, up to the inner loop
    have hbody : ∀ ed : Bool, ed = (decide (((rSf R).getD si []).length < w.length) && sfx ((rSf R).getD si []) w) → f_M_lookForEnding_b10 (some (fx_ad b 34)) (nI t) (lN (pq w)) (nI si) (fx_mk σ b F) = rb_it (fun z : (Int32 × rb_St) => f_M_lookForEnding_b72 (some (fx_ad b 34)) (nI t) (lN (pq w)) (nI si) (nI ((rSf R).getD si []).length) (nI (b2 ed)) (z.1) z.2) (nI 0, fx_mk σ b F) := by
      intro ed hed
      by_cases hl : ((rSf R).getD si []).length < w.length
      · have hlow := pq_low2 (w := w) (by omega) hw (n := ((rSf R).getD si []).length) (by omega) hso.2.2
        have hlow' : lN (pq w) &&& (((1 : Int64) <<< (((7 : Int32) * nI ((rSf R).getD si []).length).toInt64 &&& 63)) - (1 : Int64)) = lN (pq (w.drop (w.length - ((rSf R).getD si []).length))) := by
          rw [show (7 : Int32) * nI ((rSf R).getD si []).length = nI (7 * ((rSf R).getD si []).length) from u_mul 7 _]
          exact hlow
        have hdok : pq_ok (w.drop (w.length - ((rSf R).getD si []).length)) := fun c hc => hw c (List.mem_of_mem_drop hc)
        have hcmp : (lg_cmp (lN (pq w) &&& (((1 : Int64) <<< (((7 : Int32) * nI ((rSf R).getD si []).length).toInt64 &&& 63)) - (1 : Int64))) (lN (pq ((rSf R).getD si []))) = 0) = (w.drop (w.length - ((rSf R).getD si []).length) = (rSf R).getD si []) := by
          rw [hlow']
          exact propext ((pq_cmp (pq_lt63 (by rw [List.length_drop]; omega) hdok) (pq_lt63 (by omega) hso.1)).trans (pq_eq hdok hso.1))
        have hed2 : ed = decide (w.drop (w.length - ((rSf R).getD si []).length) = (rSf R).getD si []) := by
          rw [hed]
          unfold sfx
          rw [decide_eq_true hl, decide_eq_true (Nat.le_of_lt hl), Bool.true_and, Bool.true_and]
        unfold f_M_lookForEnding_b10
        by_cases e : w.drop (w.length - ((rSf R).getD si []).length) = (rSf R).getD si []
        · rw [decide_eq_true e] at hed2
          subst hed2
          simp (disch := omega) only [↓fx_bm, hm.2.1.1, ↓bL_of rfl (show si < 2147483648 by omega) hrow, ↓cI_of hls, ↓cI_of hlw, ↓hcmp, ↓e, u_l1, ↓reduceIte, n_ltT, n_ltF, n_leT, n_leF, n_eqT, n_eqF, nI_1, u_lt, u_le, u_eq, u_add, u_ix, u_ixL, u_ixR, u_cl, u_nm1, u_nm1', u_m1l, u_m1n, u_l0, Option.bind_some, Option.map_some, not_true_eq_false, not_false_eq_true, true_and, and_true, Nat.add_sub_cancel, Bool.false_eq_true, u_nar2, b2_t]
        · rw [decide_eq_false e] at hed2
          subst hed2
          simp (disch := omega) only [↓fx_bm, hm.2.1.1, ↓bL_of rfl (show si < 2147483648 by omega) hrow, ↓cI_of hls, ↓cI_of hlw, ↓hcmp, ↓e, u_l1, ↓reduceIte, n_ltT, n_ltF, n_leT, n_leF, n_eqT, n_eqF, nI_1, u_lt, u_le, u_eq, u_add, u_ix, u_ixL, u_ixR, u_cl, u_nm1, u_nm1', u_m1l, u_m1n, u_l0, Option.bind_some, Option.map_some, not_true_eq_false, not_false_eq_true, true_and, and_true, Nat.add_sub_cancel, Bool.false_eq_true, u_nar2, b2_f]
      · have hed2 : ed = false := by
          rw [hed, decide_eq_false hl, Bool.false_and]
        subst hed2
        unfold f_M_lookForEnding_b10
        simp (disch := omega) only [↓fx_bm, hm.2.1.1, ↓bL_of rfl (show si < 2147483648 by omega) hrow, ↓cI_of hls, ↓cI_of hlw, ↓reduceIte, n_ltT, n_ltF, n_leT, n_leF, n_eqT, n_eqF, nI_1, u_lt, u_le, u_eq, u_add, u_ix, u_ixL, u_ixR, u_cl, u_nm1, u_nm1', u_m1l, u_m1n, u_l0, Option.bind_some, Option.map_some, not_true_eq_false, not_false_eq_true, true_and, and_true, Nat.add_sub_cancel, Bool.false_eq_true, u_nar2, b2_f]
    -- nothing is looked for
    have hskip : (x ≠ none ∨ ¬ (((rSf R).getD si []).length < w.length ∧ sfx ((rSf R).getD si []) w = true)) → f_M_lookForEnding_b10 (some (fx_ad b 34)) (nI t) (lN (pq w)) (nI si) (fx_mk σ b F) = some (.inl (nI (si + 1), fx_mk σ b F)) := by
      intro hor
      rw [hbody _ rfl]
      refine rb_it_r ?_
      show f_M_lookForEnding_b72 _ _ _ _ _ _ _ _ = _
      unfold f_M_lookForEnding_b72 f_M_lookForEnding_j165
      cases hed : (decide (((rSf R).getD si []).length < w.length) && sfx ((rSf R).getD si []) w)
      · simp (disch := omega) only [↓fx_bm, hm.2.1.1, b2_f, ↓reduceIte, n_ltT, n_ltF, n_leT, n_leF, n_eqT, n_eqF, nI_1, u_lt, u_le, u_eq, u_add, u_ix, u_ixL, u_ixR, u_cl, u_nm1, u_nm1', u_m1l, u_m1n, u_l0, Option.bind_some, Option.map_some, not_true_eq_false, not_false_eq_true, true_and, and_true, Nat.add_sub_cancel, Bool.false_eq_true, u_nar2]
      · rw [Bool.and_eq_true, decide_eq_true_eq] at hed
        rcases hor with h | h
        · obtain ⟨y, hy⟩ := Option.ne_none_iff_exists'.mp h
          have h76 := hfd.1
          have hy32 := hx32 y hy
          rw [hy] at h76
          simp only [Option.map_some, oi_some] at h76
          simp (disch := omega) only [↓fx_bm, hm.2.1.1, b2_t, ↓bx_of rfl (show t < 2147483648 by omega) h76, ↓reduceIte, n_ltT, n_ltF, n_leT, n_leF, n_eqT, n_eqF, nI_1, u_lt, u_le, u_eq, u_add, u_ix, u_ixL, u_ixR, u_cl, u_nm1, u_nm1', u_m1l, u_m1n, u_l0, Option.bind_some, Option.map_some, not_true_eq_false, not_false_eq_true, true_and, and_true, Nat.add_sub_cancel, Bool.false_eq_true, u_nar2]
        · exact absurd hed h
    cases x with
    | some y =>
      obtain ⟨F', e1, e2, e3, e4, e5, e6⟩ := ih (si + 1) F (some y) (by omega) hF hm hfd hx32
      refine ⟨F', ?_, e2, e3, e4, e5, e6⟩
      rw [← e1]
      exact rb_it_l (hskip (Or.inl (by simp)))
    | none =>
      simp only
      rw [fs_m]
      by_cases hend : ((rSf R).getD si []).length < w.length ∧ sfx ((rSf R).getD si []) w = true
      · have h76 := hfd.1
        simp only [Option.map_none, oi_none] at h76
        obtain ⟨F1, a1, a2, a3, a4, a5, a6⟩ := m_look72 (σ := σ) (b := b) (f := f) hb hR hE hN ht hw hw8 hsl (Nat.le_of_lt hend.1) (rSf R).length 0 F (by omega) hF hm h76 (hfd.2.2 rfl)
        have hG : lkG R N f w si = (fs (fun j => x_cand R N f (w.take (w.length - ((rSf R).getD si []).length)) ((rSf R).getD j []) ((rSf R).getD si [])) (rSf R).length 0).map (fun x => (x, w.take (w.length - ((rSf R).getD si []).length))) := if_pos hend
        rw [← hG] at a2
        have hx1 : ∀ y, lkG R N f w si = some y → y.1.1 < 32 := fun y hy => by
          have := (lkG_src (R := R) (N := N) (f := f) (w := w) hN hy).1
          exact Nat.lt_of_lt_of_le this hN.1
        obtain ⟨F', e1, e2, e3, e4, e5, e6⟩ := ih (si + 1) F1 (lkG R N f w si) (by omega) a3 a6 a2 hx1
        refine ⟨F', ?_, ?_, e3, fr_trans a4 e4, pf_trans a5 e5, e6⟩
        · rw [← e1]
          refine rb_it_l ?_
          refine (hbody true ?_).trans a1
          rw [decide_eq_true hend.1, hend.2]
          rfl
        · cases hg : lkG R N f w si with
          | none =>
            rw [hg] at e2
            exact e2
          | some y =>
            rw [hg] at e2
            exact e2
      · have hG : lkG R N f w si = none := if_neg hend
        rw [hG]
        obtain ⟨F', e1, e2, e3, e4, e5, e6⟩ := ih (si + 1) F none (by omega) hF hm hfd hx32
        refine ⟨F', ?_, e2, e3, e4, e5, e6⟩
        rw [← e1]
        exact rb_it_l (hskip (Or.inr hend))
theorem x_look_eq (R : RS) (N : List (List Nat)) (f : Nat → Nat × Int32) (w : List Nat) : x_look R N f w = match fs (lkG R N f w) (rSf R).length 0 with | some x => some x | none => (x_look1 R N f w []).map (fun x => (x, w)) := (rfl)
theorem m_lookForEnding (hb : rb_b σ ≤ b) (hF : fx_ln F) (hR : rok R) (hE : eok R) (hN : nok N) {t : Nat} (ht : t < N.length) (hm : m_lk F R N f) (h76 : (F.2.1 76)[t]? = some (-1 : Int32)) (h78 : (F.2.1 78)[t]? = some (-1 : Int32)) : ∃ F', f_M_lookForEnding (some (fx_ad b 34)) (nI t) (fx_mk σ b F) = some (none, fx_mk σ b F') ∧ m_fd F' t (x_look R N f (N.getD t [])) ∧ fx_ln F' ∧ fr [] [76, 78] [77] F F' ∧ pf t F F' := by
  have ht32 : t < 32 := Nat.lt_of_lt_of_le ht hN.1
  have hw := nok_pq hN ht
  have hnm := hm.1.2 t ht
  obtain ⟨F1, a1, a2, a3, a4, a5, a6⟩ := m_look10 (σ := σ) (b := b) (f := f) hb hR hE hN ht32 hw.2.2 hw.1 (rSf R).length 0 F none (by omega) hF hm ⟨h76, fun y hy => (by cases hy), fun _ => h78⟩ (fun y hy => (by cases hy))
  simp only at a2
  have hst : f_M_lookForEnding (some (fx_ad b 34)) (nI t) (fx_mk σ b F) = rb_it (fun z : (Int32 × rb_St) => f_M_lookForEnding_b10 (some (fx_ad b 34)) (nI t) (lN (pq (N.getD t []))) (z.1) z.2) (nI 0, fx_mk σ b F) := by
    unfold f_M_lookForEnding
    simp only [↓fx_bm, ↓bL_of rfl (show t < 2147483648 by omega) hnm]
    rfl
  rw [x_look_eq, hst]
  cases hx : fs (lkG R N f (N.getD t [])) (rSf R).length 0 with
  | some y =>
    rw [hx] at a2
    have hy := (fs_src (R := R) (N := N) (f := f) (w := N.getD t []) hN _ _ y hx).1
    have hy32 : y.1.1 < 32 := Nat.lt_of_lt_of_le hy hN.1
    have h6 := hR.2.1.1
    refine ⟨F1, ?_, a2, a3, a4, a5⟩
    refine Eq.trans a1 ?_
    have h76' := a2.1
    simp only [Option.map_some, oi_some] at h76'
    refine rb_it_r ?_
    show f_M_lookForEnding_b174 _ _ _ _ _ = _
    unfold f_M_lookForEnding_b174 f_M_lookForEnding_j238
    by_cases e : (rSf R).length = 0
    · simp (disch := omega) only [↓fx_bm, a6.2.1.1, ↓reduceIte, n_ltT, n_ltF, n_leT, n_leF, n_eqT, n_eqF, nI_1, u_lt, u_le, u_eq, u_add, u_ix, u_ixL, u_ixR, u_cl, u_nm1, u_nm1', u_m1l, u_m1n, u_l0, Option.bind_some, Option.map_some, not_true_eq_false, not_false_eq_true, true_and, and_true, Nat.add_sub_cancel, Bool.false_eq_true, u_nar2]
    · simp (disch := omega) only [↓fx_bm, a6.2.1.1, ↓bx_of rfl (show t < 2147483648 by omega) h76', ↓reduceIte, n_ltT, n_ltF, n_leT, n_leF, n_eqT, n_eqF, nI_1, u_lt, u_le, u_eq, u_add, u_ix, u_ixL, u_ixR, u_cl, u_nm1, u_nm1', u_m1l, u_m1n, u_l0, Option.bind_some, Option.map_some, not_true_eq_false, not_false_eq_true, true_and, and_true, Nat.add_sub_cancel, Bool.false_eq_true, u_nar2]
  | none =>
    rw [hx] at a2
    have h76' := a2.1
    simp only [Option.map_none, oi_none] at h76'
    obtain ⟨F2, c1, c2, c3, c4, c5⟩ := m_look174 (σ := σ) (b := b) (f := f) hb hR hE hN ht32 hw.2.2 hw.1 (rSf R).length 0 F1 (by omega) a3 a6 h76' (a2.2.2 rfl)
    exact ⟨F2, a1.trans c1, c2, c3, fr_trans a4 c4, pf_trans a5 c5⟩
end
