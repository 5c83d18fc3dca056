/-! the reference: printing, and the commands -/
theorem neg_fr1 (n : Nat) : nI n - (1 : Int32) = nI n + (-1) := by
  cases n with
  | zero => rfl
  | succ n => rw [u_b1, u_l1, u_sb1]
theorem puts_full {p : List Nat} (h : p.length = 400) (l : List Nat) : x_puts p l = p := by
  unfold x_puts
  rw [List.take_append, h, Nat.sub_self, List.take_zero, List.append_nil, List.take_of_length_le (by omega)]
section
variable {σ : rb_St} {b : Nat} {F : fx_F}
theorem m_put (hb : rb_b σ ≤ b) (hF : fx_ln F) {p : List Nat} (hp : p.length ≤ 400) (hm : m_print F p) (c : Nat) : ∃ F', f_M_put (some (fx_ad b 34)) (nI c) (fx_mk σ b F) = some (none, fx_mk σ b F') ∧ m_print F' (x_puts p [c]) ∧ fx_ln F' ∧ fr [3472] [82] [] F F' := by
  have h82 := hF.1 82
  simp only [fx_cI] at h82
  by_cases e : p.length = 400
  · refine ⟨F, ?_, ?_, hF, fr_refl _ _ _ _⟩
    · have h1 := hm.1
      rw [e] at h1
      unfold f_M_put
      simp (disch := omega) only [↓fx_bm, h1, u_l400, ↓reduceIte, n_ltT, n_ltF, n_leT, n_leF, n_eqT, n_eqF, nI_1, u_lt, u_le, u_eq, u_add, u_ix, u_ixL, u_ixR, u_cl, u_nm1, u_nm1', u_m1l, u_m1n, u_l0, Option.bind_some, Option.map_some, not_true_eq_false, not_false_eq_true, true_and, and_true, Nat.add_sub_cancel, Bool.false_eq_true, u_nar2]
    · rw [puts_full e]
      exact hm
  · refine ⟨fx_I (fx_A F 82 ((F.2.1 82).set p.length (nI c))) 3472 (nI (p.length + 1)), ?_, ?_, ?_, ?_⟩
    · unfold f_M_put
      simp (disch := omega) only [↓fx_bm, ↓fx_vm hb, hm.1, u_l400, ↓reduceIte, n_ltT, n_ltF, n_leT, n_leF, n_eqT, n_eqF, nI_1, u_lt, u_le, u_eq, u_add, u_ix, u_ixL, u_ixR, u_cl, u_nm1, u_nm1', u_m1l, u_m1n, u_l0, Option.bind_some, Option.map_some, not_true_eq_false, not_false_eq_true, true_and, and_true, Nat.add_sub_cancel, Bool.false_eq_true, u_nar2, fx_II, fx_AA, fx_LL, fx_I_1, fx_I_A, fx_I_L, fx_I_R, fx_I_Q, fx_A_1, fx_A_A, fx_A_L, fx_A_R, fx_A_Q, fx_L_1, fx_L_A, fx_L_L, fx_L_R, fx_L_Q, fx_R_1, fx_R_A, fx_R_L, fx_R_R, fx_R_Q, fx_Q_1, fx_Q_A, fx_Q_L, fx_Q_R, fx_Q_Q, Nat.reduceEqDiff]
    · have hx : x_puts p [c] = p ++ [c] := by
        unfold x_puts
        rw [List.take_of_length_le (by rw [List.length_append, List.length_cons, List.length_nil]; omega)]
      rw [hx]
      refine ⟨?_, ?_⟩
      · rw [fx_I_1, if_pos rfl, List.length_append, List.length_cons, List.length_nil]
      · simp only [fx_II, fx_AA, fx_LL, fx_I_1, fx_I_A, fx_I_L, fx_I_R, fx_I_Q, fx_A_1, fx_A_A, fx_A_L, fx_A_R, fx_A_Q, fx_L_1, fx_L_A, fx_L_L, fx_L_R, fx_L_Q, fx_R_1, fx_R_A, fx_R_L, fx_R_R, fx_R_Q, fx_Q_1, fx_Q_A, fx_Q_L, fx_Q_R, fx_Q_Q, Bool.false_eq_true, Option.bind_some, Option.map_some, rb_cI, rb_cL, rb_cR, rb_cV, reduceIte, ite_true, ite_false, not_true_eq_false, not_false_eq_true, true_and, and_true, Nat.reduceEqDiff, Nat.reduceAdd, Nat.reduceMul, Nat.add_sub_cancel]
        exact rk_push hm.2 (by omega) c
    · exact fx_lnI (fx_lnA hF (by rw [List.length_set]; exact hF.1 _))
    · exact fr_I (fr_A (fr_refl _ _ _ _) (by decide)) (by decide)
theorem m_printWord (hb : rb_b σ ≤ b) {w : List Nat} (hw : w.length ≤ 9) (hok : pq_ok w) (hF : fx_ln F) {p : List Nat} (hp : p.length ≤ 400) (hm : m_print F p) : ∃ F', f_M_printWord (some (fx_ad b 34)) (lN (pq w)) (fx_mk σ b F) = some (none, fx_mk σ b F') ∧ m_print F' (x_puts p w) ∧ fx_ln F' ∧ fr [3472] [82] [] F F' := by
  have loop : ∀ (m : Nat) (F : fx_F) (p : List Nat), m ≤ w.length → fx_ln F → p.length ≤ 400 → m_print F p → ∃ F', rb_it (fun z : (Int32 × rb_St) => f_M_printWord_b7 (some (fx_ad b 34)) (lN (pq w)) (z.1) z.2) (nI m + (-1), fx_mk σ b F) = some (none, fx_mk σ b F') ∧ m_print F' (x_puts p (w.drop (w.length - m))) ∧ fx_ln F' ∧ fr [3472] [82] [] F F' := by
    intro m
    induction m with
    | zero =>
      intro F p _ hF hp hm
      refine ⟨F, ?_, ?_, hF, fr_refl _ _ _ _⟩
      · refine rb_it_r ?_
        show f_M_printWord_b7 _ _ _ _ = _
        unfold f_M_printWord_b7
        rw [u_0b1]
        simp only [u_l0, u_m10, if_true]
        rfl
      · rw [Nat.sub_zero, List.drop_length, puts_nil hp]
        exact hm
    | succ m ih =>
      intro F p hmw hF hp hm
      have hdig := pq_digit (w := w) hw hok (i := w.length - (m + 1)) (j := m) (by omega)
      obtain ⟨F1, a1, a2, a3, a4⟩ := m_put (σ := σ) (b := b) hb hF hp hm (w.getD (w.length - (m + 1)) 0)
      obtain ⟨F', e1, e2, e3, e4⟩ := ih F1 (x_puts p [w.getD (w.length - (m + 1)) 0]) (by omega) a3 (puts_len _ _) a2
      refine ⟨F', ?_, ?_, e3, fr_trans a4 e4⟩
      · rw [← e1]
        refine rb_it_l ?_
        show f_M_printWord_b7 _ _ _ _ = _
        unfold f_M_printWord_b7
        have a1' : f_M_put (some (fx_ad b 34)) (((lN (pq w) >>> (((7 : Int32) * nI m).toInt64 &&& 63)) &&& (127 : Int64)).toInt32) (fx_mk σ b F) = some (none, fx_mk σ b F1) := by
          rw [show (7 : Int32) * nI m = nI (7 * m) from u_mul 7 m, hdig]
          exact a1
        simp (disch := omega) only [u_b1, ↓fx_bm, ↓cV_of a1', ↓reduceIte, n_ltT, n_ltF, n_leT, n_leF, n_eqT, n_eqF, nI_1, u_lt, u_le, u_eq, u_add, u_ix, u_ixL, u_ixR, u_cl, u_nm1, u_nm1', u_m1l, u_m1n, u_l0, Option.bind_some, Option.map_some, not_true_eq_false, not_false_eq_true, true_and, and_true, Nat.add_sub_cancel, Bool.false_eq_true, u_nar2]
      · rw [puts_app] at e2
        rw [show w.drop (w.length - (m + 1)) = [w.getD (w.length - (m + 1)) 0] ++ w.drop (w.length - m) by
          rw [List.drop_eq_getElem_cons (by omega), getD_get (by omega), show w.length - (m + 1) + 1 = w.length - m by omega]
          rfl]
        exact e2
  obtain ⟨F', e1, e2, e3, e4⟩ := loop w.length F p (Nat.le_refl _) hF hp hm
  rw [Nat.sub_self, List.drop_zero] at e2
  refine ⟨F', ?_, e2, e3, e4⟩
  have hlen := m_length (fx_mk σ b F) (w := w) hw hok
  unfold f_M_printWord
  simp only [↓cI_of hlen, neg_fr1]
  exact e1
theorem m_allNames (hb : rb_b σ ≤ b) {o : List Nat} (ho : o.length ≤ 120) (hto : tk o) {W : List (Nat × Nat)} (hwo : wok o W) {n : Nat} (hn : n ≤ W.length) : ∀ (m k : Nat) (F : fx_F) (N : List (List Nat)), k + m = n → fx_ln F → m_out F o → m_words F W → nok N → m_names F N → ∃ F', rb_it (fun z : (Int32 × Int32 × rb_St) => f_M_allNames_b4 (some (fx_ad b 34)) (nI n) (z.1) (z.2.1) z.2.2) (nI 1, nI k, fx_mk σ b F) = some (some (.int (nI (b2 (x_meets (((wl o W).take n).drop k) N).1.isSome))), fx_mk σ b F') ∧ m_names F' (x_meets (((wl o W).take n).drop k) N).2 ∧ fx_ln F' ∧ fr [3402] [] [36] F F' := by
  have hw60 := hwo.1
  have hlt : ((wl o W).take n).length = n := by
    rw [List.length_take, wl_len]
    omega
  intro m
  induction m with
  | zero =>
    intro k F N hk hF hmo hw hN hm
    have hz : ((wl o W).take n).drop k = [] := List.drop_eq_nil_of_le (by omega)
    rw [hz]
    refine ⟨F, ?_, hm, hF, fr_refl _ _ _ _⟩
    refine rb_it_r ?_
    show f_M_allNames_b4 _ _ _ _ _ = _
    unfold f_M_allNames_b4 f_M_allNames_j37 x_meets
    simp (disch := omega) only [↓reduceIte, n_ltT, n_ltF, n_leT, n_leF, n_eqT, n_eqF, nI_1, u_lt, u_le, u_eq, u_add, u_ix, u_ixL, u_ixR, u_cl, u_nm1, u_nm1', u_m1l, u_m1n, u_l0, Option.bind_some, Option.map_some, not_true_eq_false, not_false_eq_true, true_and, and_true, Nat.add_sub_cancel, Bool.false_eq_true, u_nar2, if_pos (show rb_isZ (nI 1) from Or.inr rfl), Option.isSome_some, b2_t]
  | succ m ih =>
    intro k F N hk hF hmo hw hN hm
    have hkW : k < W.length := by omega
    have hdr : ((wl o W).take n).drop k = wd o W k :: ((wl o W).take n).drop (k + 1) := by
      rw [List.drop_eq_getElem_cons (by omega), List.getElem_take, ← getD_get (d := []) (by rw [wl_len]; omega), wl_get hkW]
    rw [hdr]
    have hok := tk_ok (wd_tk hto W k)
    have hword := m_word (F := F) (σ := σ) (b := b) ho hto hmo hwo hw hkW
    generalize wd o W k = w at hok hword ⊢
    obtain ⟨F1, a1, a2, a3, a4⟩ := m_meet (σ := σ) hb hF hN hm hok
    have hN' := nmeet_ok hN w
    have hltm := @nmeet_lt N w
    unfold x_meets
    rcases hx : nmeet N w with ⟨r, N1⟩
    rw [hx] at a1 a2 hN' hltm
    have hfr1 : fr [3402] [] [36] F F1 := a4
    cases r with
    | none =>
      refine ⟨F1, ?_, a2, a3, hfr1⟩
      have hstep : f_M_allNames_b4 (some (fx_ad b 34)) (nI n) (nI 1) (nI k) (fx_mk σ b F) = some (.inl (nI 0, nI (k + 1), fx_mk σ b F1)) := by
        unfold f_M_allNames_b4
        simp (disch := omega) only [↓fx_bm, ↓cL_of hword, ↓cI_of a1, ↓reduceIte, n_ltT, n_ltF, n_leT, n_leF, n_eqT, n_eqF, nI_1, u_lt, u_le, u_eq, u_add, u_ix, u_ixL, u_ixR, u_cl, u_nm1, u_nm1', u_m1l, u_m1n, u_l0, Option.bind_some, Option.map_some, not_true_eq_false, not_false_eq_true, true_and, and_true, Nat.add_sub_cancel, Bool.false_eq_true, u_nar2, oi_none, u_m10]
      refine (rb_it_l hstep).trans ?_
      refine rb_it_r ?_
      show f_M_allNames_b4 _ _ _ _ _ = _
      unfold f_M_allNames_b4 f_M_allNames_j37
      by_cases e : n ≤ k + 1
      · simp (disch := omega) only [↓reduceIte, n_ltT, n_ltF, n_leT, n_leF, n_eqT, n_eqF, nI_1, u_lt, u_le, u_eq, u_add, u_ix, u_ixL, u_ixR, u_cl, u_nm1, u_nm1', u_m1l, u_m1n, u_l0, Option.bind_some, Option.map_some, not_true_eq_false, not_false_eq_true, true_and, and_true, Nat.add_sub_cancel, Bool.false_eq_true, u_nar2, if_pos (show rb_isZ (nI 0) from Or.inl rfl), Option.isSome_none, b2_f]
      · simp (disch := omega) only [↓reduceIte, n_ltT, n_ltF, n_leT, n_leF, n_eqT, n_eqF, nI_1, u_lt, u_le, u_eq, u_add, u_ix, u_ixL, u_ixR, u_cl, u_nm1, u_nm1', u_m1l, u_m1n, u_l0, Option.bind_some, Option.map_some, not_true_eq_false, not_false_eq_true, true_and, and_true, Nat.add_sub_cancel, Bool.false_eq_true, u_nar2, if_pos (show rb_isZ (nI 0) from Or.inl rfl), Option.isSome_none, b2_f]
    | some x =>
      have hxl : x < N1.length := hltm rfl
      have hn32 := hN'.1
      have hx32 : x < 32 := Nat.lt_of_lt_of_le hxl hn32
      have hstep : f_M_allNames_b4 (some (fx_ad b 34)) (nI n) (nI 1) (nI k) (fx_mk σ b F) = some (.inl (nI 1, nI (k + 1), fx_mk σ b F1)) := by
        unfold f_M_allNames_b4
        simp (disch := omega) only [↓fx_bm, ↓cL_of hword, ↓cI_of a1, ↓reduceIte, n_ltT, n_ltF, n_leT, n_leF, n_eqT, n_eqF, nI_1, u_lt, u_le, u_eq, u_add, u_ix, u_ixL, u_ixR, u_cl, u_nm1, u_nm1', u_m1l, u_m1n, u_l0, Option.bind_some, Option.map_some, not_true_eq_false, not_false_eq_true, true_and, and_true, Nat.add_sub_cancel, Bool.false_eq_true, u_nar2, oi_some, u_l1]
      obtain ⟨F', e1, e2, e3, e4⟩ := ih (k + 1) F1 N1 (by omega) a3 (m_out_fr hmo hfr1 (by decide)) (m_words_fr hw hfr1 (by decide)) hN' a2
      simp only
      rcases hy : x_meets (((wl o W).take n).drop (k + 1)) N1 with ⟨r2, N2⟩
      rw [hy] at e1 e2
      refine ⟨F', ?_, ?_, e3, fr_trans hfr1 e4⟩
      · rw [rb_it_l hstep, e1]
        cases r2 <;> rfl
      · cases r2 <;> exact e2
theorem m_touch (hb : rb_b σ ≤ b) {o : List Nat} (ho : o.length ≤ 120) (hto : tk o) {W : List (Nat × Nat)} (hwo : wok o W) {N : List (List Nat)} (hN : nok N) {ks : List Nat} (hks : ks.length + 1 = W.length) (hnf : ∀ i, i < ks.length → nf N (wd o W (i + 1)) = some (ks.getD i 0)) : ∀ (m i : Nat) (F : fx_F) (f : Nat → Nat × Int32) (ck : Nat), i + m = ks.length → fx_ln F → m_out F o → m_words F W → m_names F N → m_files F f ck → ∃ F', rb_it (fun z : (Int32 × rb_St) => f_M_each_b2 (some (fx_ad b 34)) (nI 1) (z.1) z.2) (nI (i + 1), fx_mk σ b F) = some (some (.int (nI 1)), fx_mk σ b F') ∧ m_files F' (x_touch (ks.drop i) f ck).1 (x_touch (ks.drop i) f ck).2 ∧ fx_ln F' ∧ fr [3407] [37, 38, 39] [] F F' := by
  have hw60 := hwo.1
  intro m
  induction m with
  | zero =>
    intro i F f ck hi hF hmo hw hm hfi
    rw [List.drop_eq_nil_of_le (by omega)]
    refine ⟨F, ?_, hfi, hF, fr_refl _ _ _ _⟩
    refine rb_it_r ?_
    show f_M_each_b2 _ _ _ _ = _
    unfold f_M_each_b2
    simp (disch := omega) only [↓fx_bm, hw.1, ↓reduceIte, n_ltT, n_ltF, n_leT, n_leF, n_eqT, n_eqF, nI_1, u_lt, u_le, u_eq, u_add, u_ix, u_ixL, u_ixR, u_cl, u_nm1, u_nm1', u_m1l, u_m1n, u_l0, Option.bind_some, Option.map_some, not_true_eq_false, not_false_eq_true, true_and, and_true, Nat.add_sub_cancel, Bool.false_eq_true, u_nar2, u_l1]
  | succ m ih =>
    intro i F f ck hi hF hmo hw hm hfi
    have hik : i < ks.length := by omega
    have hword := m_word (F := F) (σ := σ) (b := b) ho hto hmo hwo hw (k := i + 1) (by omega)
    have hfind := m_find (σ := σ) (b := b) hN hm (tk_ok (wd_tk hto W (i + 1)))
    have hn := hnf i hik
    rw [hn, oi_some] at hfind
    have h32 : ks.getD i 0 < 32 := Nat.lt_of_lt_of_le (nf_lt hn) hN.1
    rw [List.drop_eq_getElem_cons hik, ← getD_get (d := 0) hik]
    unfold x_touch
    generalize ks.getD i 0 = x at hfind h32 ⊢
    obtain ⟨F1, a1, a2, a3, a4⟩ := m_write (σ := σ) (b := b) hb hF hfi h32 (f x).2
    obtain ⟨F', e1, e2, e3, e4⟩ := ih (i + 1) F1 (up1 f x (ck + 1, (f x).2)) (ck + 1) (by omega) a3 (m_out_fr hmo a4 (by decide)) (m_words_fr hw a4 (by decide)) (m_names_fr hm a4 (by decide)) a2
    refine ⟨F', ?_, e2, e3, fr_trans a4 e4⟩
    rw [← e1]
    refine rb_it_l ?_
    show f_M_each_b2 _ _ _ _ = _
    unfold f_M_each_b2
    simp (disch := omega) only [↓fx_bm, hw.1, ↓cL_of hword, ↓cI_of hfind, ↓bx_of rfl (show x < 2147483648 by omega) (hfi.2 x h32).2.2, ↓cV_of a1, ↓reduceIte, n_ltT, n_ltF, n_leT, n_leF, n_eqT, n_eqF, nI_1, u_lt, u_le, u_eq, u_add, u_ix, u_ixL, u_ixR, u_cl, u_nm1, u_nm1', u_m1l, u_m1n, u_l0, Option.bind_some, Option.map_some, not_true_eq_false, not_false_eq_true, true_and, and_true, Nat.add_sub_cancel, Bool.false_eq_true, u_nar2]
theorem m_rm (hb : rb_b σ ≤ b) {o : List Nat} (ho : o.length ≤ 120) (hto : tk o) {W : List (Nat × Nat)} (hwo : wok o W) {N : List (List Nat)} (hN : nok N) {ks : List Nat} (hks : ks.length + 1 = W.length) (hnf : ∀ i, i < ks.length → nf N (wd o W (i + 1)) = some (ks.getD i 0)) {ck : Nat} : ∀ (m i : Nat) (F : fx_F) (f : Nat → Nat × Int32), i + m = ks.length → fx_ln F → m_out F o → m_words F W → m_names F N → m_files F f ck → ∃ F', rb_it (fun z : (Int32 × rb_St) => f_M_each_b2 (some (fx_ad b 34)) (nI 0) (z.1) z.2) (nI (i + 1), fx_mk σ b F) = some (some (.int (nI 1)), fx_mk σ b F') ∧ m_files F' (x_rm (ks.drop i) f) ck ∧ fx_ln F' ∧ fr [3407] [37, 38, 39] [] F F' := by
  have hw60 := hwo.1
  intro m
  induction m with
  | zero =>
    intro i F f hi hF hmo hw hm hfi
    rw [List.drop_eq_nil_of_le (by omega)]
    refine ⟨F, ?_, hfi, hF, fr_refl _ _ _ _⟩
    refine rb_it_r ?_
    show f_M_each_b2 _ _ _ _ = _
    unfold f_M_each_b2
    simp (disch := omega) only [↓fx_bm, hw.1, ↓reduceIte, n_ltT, n_ltF, n_leT, n_leF, n_eqT, n_eqF, nI_1, u_lt, u_le, u_eq, u_add, u_ix, u_ixL, u_ixR, u_cl, u_nm1, u_nm1', u_m1l, u_m1n, u_l0, Option.bind_some, Option.map_some, not_true_eq_false, not_false_eq_true, true_and, and_true, Nat.add_sub_cancel, Bool.false_eq_true, u_nar2, u_l1]
  | succ m ih =>
    intro i F f hi hF hmo hw hm hfi
    have hik : i < ks.length := by omega
    have hword := m_word (F := F) (σ := σ) (b := b) ho hto hmo hwo hw (k := i + 1) (by omega)
    have hfind := m_find (σ := σ) (b := b) hN hm (tk_ok (wd_tk hto W (i + 1)))
    have hn := hnf i hik
    rw [hn, oi_some] at hfind
    have h32 : ks.getD i 0 < 32 := Nat.lt_of_lt_of_le (nf_lt hn) hN.1
    rw [List.drop_eq_getElem_cons hik, ← getD_get (d := 0) hik]
    unfold x_rm
    generalize ks.getD i 0 = x at hfind h32 ⊢
    obtain ⟨F1, a1, a2, a3, a4⟩ := m_remove (σ := σ) (b := b) hb hF hfi h32
    have a5 : fr [3407] [37, 38, 39] [] F F1 := fr_mono a4 (by decide) (by decide) (by decide)
    obtain ⟨F', e1, e2, e3, e4⟩ := ih (i + 1) F1 (up1 f x (0, 0)) (by omega) a3 (m_out_fr hmo a5 (by decide)) (m_words_fr hw a5 (by decide)) (m_names_fr hm a5 (by decide)) a2
    refine ⟨F', ?_, e2, e3, fr_trans a5 e4⟩
    rw [← e1]
    refine rb_it_l ?_
    show f_M_each_b2 _ _ _ _ = _
    unfold f_M_each_b2
    simp (disch := omega) only [↓fx_bm, hw.1, ↓cL_of hword, ↓cI_of hfind, ↓cV_of a1, ↓reduceIte, n_ltT, n_ltF, n_leT, n_leF, n_eqT, n_eqF, nI_1, u_lt, u_le, u_eq, u_add, u_ix, u_ixL, u_ixR, u_cl, u_nm1, u_nm1', u_m1l, u_m1n, u_l0, Option.bind_some, Option.map_some, not_true_eq_false, not_false_eq_true, true_and, and_true, Nat.add_sub_cancel, Bool.false_eq_true, u_nar2]
theorem m_copyF (hb : rb_b σ ≤ b) (hF : fx_ln F) {o : List Nat} (ho : o.length ≤ 120) (hto : tk o) {W : List (Nat × Nat)} (hwo : wok o W) (h3 : W.length = 3) (hmo : m_out F o) (hw : m_words F W) {N : List (List Nat)} (hN : nok N) (hm : m_names F N) {f : Nat → Nat × Int32} {ck : Nat} (hfi : m_files F f ck) {x y : Nat} (hx : nf N (wd o W 1) = some x) (hy : nf N (wd o W 2) = some y) : ∃ F', f_M_copy (some (fx_ad b 34)) (fx_mk σ b F) = some (some (.int (nI (b2 (decide (¬ (f x).1 = 0))))), fx_mk σ b F') ∧ m_files F' (if (f x).1 = 0 then f else up1 f y (ck + 1, (f x).2)) (if (f x).1 = 0 then ck else ck + 1) ∧ fx_ln F' ∧ fr [3407] [37, 38, 39] [] F F' := by
  have hword1 : f_M_word (some (fx_ad b 34)) (1 : Int32) (fx_mk σ b F) = some (some (.long (pk (wd o W 1))), fx_mk σ b F) := m_word (F := F) (σ := σ) (b := b) ho hto hmo hwo hw (k := 1) (by omega)
  have hword2 : f_M_word (some (fx_ad b 34)) (2 : Int32) (fx_mk σ b F) = some (some (.long (pk (wd o W 2))), fx_mk σ b F) := m_word (F := F) (σ := σ) (b := b) ho hto hmo hwo hw (k := 2) (by omega)
  have hfind1 := m_find (σ := σ) (b := b) hN hm (tk_ok (wd_tk hto W 1))
  have hfind2 := m_find (σ := σ) (b := b) hN hm (tk_ok (wd_tk hto W 2))
  rw [hx, oi_some] at hfind1
  rw [hy, oi_some] at hfind2
  have hx32 : x < 32 := Nat.lt_of_lt_of_le (nf_lt hx) hN.1
  have hy32 : y < 32 := Nat.lt_of_lt_of_le (nf_lt hy) hN.1
  have hfx := hfi.2 x hx32
  unfold f_M_copy
  by_cases e : (f x).1 = 0
  · rw [if_pos e] at hfx
    rw [if_pos e, if_pos e]
    refine ⟨F, ?_, hfi, hF, fr_refl _ _ _ _⟩
    simp (disch := omega) only [↓fx_bm, ↓cL_of hword1, ↓cI_of hfind1, ↓bx_of rfl (show x < 2147483648 by omega) hfx.1, ↓reduceIte, n_ltT, n_ltF, n_leT, n_leF, n_eqT, n_eqF, nI_1, u_lt, u_le, u_eq, u_add, u_ix, u_ixL, u_ixR, u_cl, u_nm1, u_nm1', u_m1l, u_m1n, u_l0, Option.bind_some, Option.map_some, not_true_eq_false, not_false_eq_true, true_and, and_true, Nat.add_sub_cancel, Bool.false_eq_true, u_nar2, e, decide_false, b2_f]
  · rw [if_neg e] at hfx
    rw [if_neg e, if_neg e]
    obtain ⟨F1, a1, a2, a3, a4⟩ := m_write (σ := σ) (b := b) hb hF hfi hy32 (f x).2
    refine ⟨F1, ?_, a2, a3, a4⟩
    simp (disch := omega) only [↓fx_bm, ↓cL_of hword1, ↓cI_of hfind1, ↓bx_of rfl (show x < 2147483648 by omega) hfx.1, ↓cL_of hword2, ↓cI_of hfind2, ↓bx_of rfl (show x < 2147483648 by omega) hfx.2.2, ↓cV_of a1, ↓reduceIte, n_ltT, n_ltF, n_leT, n_leF, n_eqT, n_eqF, nI_1, u_lt, u_le, u_eq, u_add, u_ix, u_ixL, u_ixR, u_cl, u_nm1, u_nm1', u_m1l, u_m1n, u_l0, Option.bind_some, Option.map_some, not_true_eq_false, not_false_eq_true, true_and, and_true, Nat.add_sub_cancel, Bool.false_eq_true, u_nar2, u_l1, e, decide_true, b2_t]
theorem m_join (hb : rb_b σ ≤ b) (hF : fx_ln F) {o : List Nat} (ho : o.length ≤ 120) (hto : tk o) {W : List (Nat × Nat)} (hwo : wok o W) (hmo : m_out F o) (hw : m_words F W) {N : List (List Nat)} (hN : nok N) (hm : m_names F N) {f : Nat → Nat × Int32} {ck : Nat} (hfi : m_files F f ck) {ks : List Nat} (hks : ks.length + 3 = W.length) (hnf : ∀ i, i < ks.length → nf N (wd o W (i + 1)) = some (ks.getD i 0)) {y : Nat} (hy : nf N (wd o W (W.length - 1)) = some y) : ∀ (m i : Nat) (c : Int32), i + m = ks.length → ∃ F', rb_it (fun z : (Int32 × Int32 × rb_St) => f_M_join_b4 (some (fx_ad b 34)) (z.1) (z.2.1) z.2.2) (c, nI (i + 1), fx_mk σ b F) = some (some (.int (nI (b2 (x_sum f (ks.drop i) c).isSome))), fx_mk σ b F') ∧ m_files F' (match x_sum f (ks.drop i) c with | some v => up1 f y (ck + 1, v) | none => f) (match x_sum f (ks.drop i) c with | some _ => ck + 1 | none => ck) ∧ fx_ln F' ∧ fr [3407] [37, 38, 39] [] F F' := by
  have hw60 := hwo.1
  have hy32 : y < 32 := Nat.lt_of_lt_of_le (nf_lt hy) hN.1
  intro m
  induction m with
  | zero =>
    intro i c hi
    rw [List.drop_eq_nil_of_le (by omega)]
    unfold x_sum
    obtain ⟨F1, a1, a2, a3, a4⟩ := m_write (σ := σ) (b := b) hb hF hfi hy32 c
    refine ⟨F1, ?_, a2, a3, a4⟩
    refine rb_it_r ?_
    have hfind := m_find (σ := σ) (b := b) hN hm (tk_ok (wd_tk hto W (W.length - 1)))
    rw [hy, oi_some] at hfind
    have hword : f_M_word (some (fx_ad b 34)) (F.1 3447 - (1 : Int32)) (fx_mk σ b F) = some (some (.long (pk (wd o W (W.length - 1)))), fx_mk σ b F) := by
      rw [hw.1, u_l1, u_sub (by omega)]
      exact m_word (F := F) (σ := σ) (b := b) ho hto hmo hwo hw (k := W.length - 1) (by omega)
    have hwordB := m_word (F := F) (σ := σ) (b := b) ho hto hmo hwo hw (k := W.length - 1) (by omega)
    show f_M_join_b4 _ _ _ _ = _
    unfold f_M_join_b4
    simp (disch := omega) only [↓fx_bm, ↓cL_of hword, cL_of hwordB, cI_of hfind, cV_of a1, ↓cI_of hfind, ↓cV_of a1, hw.1, u_l2, u_sub, ↓reduceIte, n_ltT, n_ltF, n_leT, n_leF, n_eqT, n_eqF, nI_1, u_lt, u_le, u_eq, u_add, u_ix, u_ixL, u_ixR, u_cl, u_nm1, u_nm1', u_m1l, u_m1n, u_l0, Option.bind_some, Option.map_some, not_true_eq_false, not_false_eq_true, true_and, and_true, Nat.add_sub_cancel, Bool.false_eq_true, u_nar2, Option.isSome_some, b2_t, u_l1]
  | succ m ih =>
    intro i c hi
    have hik : i < ks.length := by omega
    have hword := m_word (F := F) (σ := σ) (b := b) ho hto hmo hwo hw (k := i + 1) (by omega)
    have hfind := m_find (σ := σ) (b := b) hN hm (tk_ok (wd_tk hto W (i + 1)))
    have hn := hnf i hik
    rw [hn, oi_some] at hfind
    have h32 : ks.getD i 0 < 32 := Nat.lt_of_lt_of_le (nf_lt hn) hN.1
    rw [List.drop_eq_getElem_cons hik, ← getD_get (d := 0) hik]
    unfold x_sum
    generalize ks.getD i 0 = x at hfind h32 ⊢
    have hfx := hfi.2 x h32
    by_cases e : (f x).1 = 0
    · rw [if_pos e] at hfx
      rw [if_pos e]
      refine ⟨F, ?_, hfi, hF, fr_refl _ _ _ _⟩
      refine rb_it_r ?_
      show f_M_join_b4 _ _ _ _ = _
      unfold f_M_join_b4
      simp (disch := omega) only [↓fx_bm, ↓cL_of hword, ↓cI_of hfind, ↓bx_of rfl (show x < 2147483648 by omega) hfx.1, hw.1, u_l2, u_sub, ↓reduceIte, n_ltT, n_ltF, n_leT, n_leF, n_eqT, n_eqF, nI_1, u_lt, u_le, u_eq, u_add, u_ix, u_ixL, u_ixR, u_cl, u_nm1, u_nm1', u_m1l, u_m1n, u_l0, Option.bind_some, Option.map_some, not_true_eq_false, not_false_eq_true, true_and, and_true, Nat.add_sub_cancel, Bool.false_eq_true, u_nar2, Option.isSome_none, b2_f]
    · rw [if_neg e] at hfx
      rw [if_neg e]
      obtain ⟨F', e1, e2, e3, e4⟩ := ih (i + 1) ((31 : Int32) * c + (f x).2 + 1) (by omega)
      refine ⟨F', ?_, e2, e3, e4⟩
      rw [← e1]
      refine rb_it_l ?_
      show f_M_join_b4 _ _ _ _ = _
      unfold f_M_join_b4
      simp (disch := omega) only [↓fx_bm, ↓cL_of hword, ↓cI_of hfind, ↓bx_of rfl (show x < 2147483648 by omega) hfx.1, ↓bx_of rfl (show x < 2147483648 by omega) hfx.2.2, hw.1, u_l2, u_sub, ↓reduceIte, n_ltT, n_ltF, n_leT, n_leF, n_eqT, n_eqF, nI_1, u_lt, u_le, u_eq, u_add, u_ix, u_ixL, u_ixR, u_cl, u_nm1, u_nm1', u_m1l, u_m1n, u_l0, Option.bind_some, Option.map_some, not_true_eq_false, not_false_eq_true, true_and, and_true, Nat.add_sub_cancel, Bool.false_eq_true, u_nar2]
end
