/-! the reference: a rule line of names -/
def bt (x : Int32) (j : Nat) : Bool := x.toBitVec.getLsbD j
theorem bt_a : ∀ j, j < 32 → (nI j &&& 31) = nI j := by decide
theorem bt_s : ∀ j, j < 32 → ((nI j).toBitVec.smod 32).toNat = j := by decide
theorem bt_eq {x : Int32} {j : Nat} (hj : j < 32) : ((x >>> (nI j &&& 31)) &&& 1 = 1) = (bt x j = true) := by
  rw [bt_a j hj]
  have h1 : (x >>> nI j).toBitVec = x.toBitVec.sshiftRight j := by
    rw [Int32.toBitVec_shiftRight]
    show BitVec.sshiftRight _ _ = _
    rw [bt_s j hj]
  have h2 : ((x >>> nI j) &&& 1).toBitVec = x.toBitVec.sshiftRight j &&& 1#32 := by
    rw [Int32.toBitVec_and, h1]
    rfl
  apply propext
  unfold bt
  have h3 : (x.toBitVec.sshiftRight j).getLsbD 0 = x.toBitVec.getLsbD j := by
    rw [BitVec.getLsbD_sshiftRight]
    simp [hj]
  constructor
  · intro h
    have h4 : ((x >>> nI j) &&& 1).toBitVec.getLsbD 0 = (1 : Int32).toBitVec.getLsbD 0 := by rw [h]
    rw [h2, BitVec.getLsbD_and, h3] at h4
    simpa using h4
  · intro h
    apply Int32.toBitVec_inj.mp
    rw [h2]
    apply BitVec.eq_of_getLsbD_eq
    intro i hi
    rw [BitVec.getLsbD_and]
    show _ = (1#32).getLsbD i
    cases i with
    | zero =>
      rw [h3, h]
      rfl
    | succ i =>
      rw [BitVec.getLsbD_one]
      simp
theorem bt_or {x : Int32} {n j : Nat} (hn : n < 32) : bt (x ||| ((1 : Int32) <<< (nI n &&& 31))) j = (bt x j || decide (j = n)) := by
  rw [bt_a n hn]
  unfold bt
  have h1 : ((1 : Int32) <<< nI n).toBitVec = 1#32 <<< n := by
    rw [Int32.toBitVec_shiftLeft]
    show BitVec.shiftLeft _ _ = _
    rw [bt_s n hn]
    rfl
  rw [Int32.toBitVec_or, h1, BitVec.getLsbD_or]
  congr 1
  rw [BitVec.getLsbD_shiftLeft, BitVec.getLsbD_one]
  by_cases e : j = n
  · subst e
    simp [hn]
  · simp [e]
    omega
theorem bt_0 (j : Nat) : bt 0 j = false := by
  unfold bt
  show (0#32).getLsbD j = false
  simp
theorem sr_of {P : Nat → Bool} : ∀ {m k j : Nat}, k ≤ j → j < k + m → P j = true → (∀ i, k ≤ i → i < j → P i = false) → sr P m k = some j
  | 0, k, j, h1, h2, _, _ => by omega
  | m + 1, k, j, h1, h2, h3, h4 => by
    by_cases e : k = j
    · subst e
      exact sr_pos h3
    · rw [sr_neg (h4 k (Nat.le_refl _) (by omega))]
      exact sr_of (by omega) (by omega) h3 (fun i a c => h4 i (by omega) c)
theorem nf_app {N : List (List Nat)} {w x : List Nat} {k : Nat} (h : nf N w = some k) : nf (N ++ [x]) w = some k := by
  have h0 := sr_some h
  unfold nf
  refine sr_of (Nat.zero_le _) (by rw [List.length_append]; omega) ?_ ?_
  · rw [getD_app_l (by omega)]
    exact h0.2.2
  · intro i _ hi
    rw [getD_app_l (by omega)]
    by_cases e : N.getD i [] = w
    · exfalso
      unfold nf at h
      have hk : fi (fun k => decide (N.getD k [] = w)) N.length 0 = k := by unfold fi; rw [Nat.sub_zero, h]
      have := fi_no (P := fun k => decide (N.getD k [] = w)) (n := N.length) (k := 0) (j := i) (Nat.zero_le _) (by omega) (by omega)
      rw [decide_eq_true e] at this
      cases this
    · exact decide_eq_false e
theorem nf_new {N : List (List Nat)} {w : List Nat} (h : nf N w = none) : nf (N ++ [w]) w = some N.length := by
  have h0 := sr_none h
  unfold nf
  refine sr_of (Nat.zero_le _) (by rw [List.length_append]; simp) ?_ ?_
  · rw [getD_app_r]
    exact decide_eq_true rfl
  · intro i _ hi
    rw [getD_app_l hi]
    exact h0 i (Nat.zero_le _) (by omega)
theorem nmeet_nf {N : List (List Nat)} {w : List Nat} {k : Nat} (h : (nmeet N w).1 = some k) : nf (nmeet N w).2 w = some k := by
  unfold nmeet at *
  cases hf : nf N w with
  | some j =>
    rw [hf] at h
    simp only at h ⊢
    rw [hf, h]
  | none =>
    rw [hf] at h
    simp only at h ⊢
    split at h
    · rename_i hc
      rw [if_pos hc]
      injection h with h
      subst h
      exact nf_new hf
    · cases h
theorem nmeet_keep {N : List (List Nat)} {w v : List Nat} {k : Nat} (h : nf N v = some k) : nf (nmeet N w).2 v = some k := by
  unfold nmeet
  split
  · exact h
  · split
    · exact nf_app h
    · exact h
theorem meets_keep {v : List Nat} {k : Nat} : ∀ (ws : List (List Nat)) (N : List (List Nat)), nf N v = some k → nf (x_meets ws N).2 v = some k
  | [], N, h => h
  | w :: ws, N, h => by
    have h1 := nmeet_keep (w := w) h
    unfold x_meets
    rcases hx : nmeet N w with ⟨r, N1⟩
    rw [hx] at h1
    cases r with
    | none => exact h1
    | some j =>
      have h2 := meets_keep ws N1 h1
      simp only
      rcases hy : x_meets ws N1 with ⟨r2, N2⟩
      rw [hy] at h2
      cases r2 <;> exact h2
theorem meets_ok : ∀ (ws : List (List Nat)) (N : List (List Nat)), nok N → nok (x_meets ws N).2
  | [], N, h => h
  | w :: ws, N, h => by
    have h1 := nmeet_ok h w
    unfold x_meets
    rcases hx : nmeet N w with ⟨r, N1⟩
    rw [hx] at h1
    cases r with
    | none => exact h1
    | some j =>
      have h2 := meets_ok ws N1 h1
      simp only
      rcases hy : x_meets ws N1 with ⟨r2, N2⟩
      rw [hy] at h2
      cases r2 <;> exact h2
theorem meets_nf : ∀ (ws : List (List Nat)) (N : List (List Nat)) (ks : List Nat), (x_meets ws N).1 = some ks → ks.length = ws.length ∧ ∀ i, i < ws.length → nf (x_meets ws N).2 (ws.getD i []) = some (ks.getD i 0)
  | [], N, ks, h => by
    unfold x_meets at h
    injection h with h
    subst h
    exact ⟨rfl, fun i hi => absurd hi (Nat.not_lt_zero _)⟩
  | w :: ws, N, ks, h => by
    have h1 := @nmeet_nf N w
    unfold x_meets at h ⊢
    rcases hx : nmeet N w with ⟨r, N1⟩
    rw [hx] at h1 h
    cases r with
    | none => cases h
    | some j =>
      have h2 := meets_nf ws N1
      have h3 := meets_keep ws N1 (h1 rfl)
      simp only at h ⊢
      rcases hy : x_meets ws N1 with ⟨r2, N2⟩
      rw [hy] at h2 h3 h
      cases r2 with
      | none => cases h
      | some ks2 =>
        simp only at h ⊢
        injection h with h
        subst h
        obtain ⟨a1, a2⟩ := h2 ks2 rfl
        refine ⟨by simp [a1], fun i hi => ?_⟩
        cases i with
        | zero => exact h3
        | succ i => exact a2 i (by simpa using hi)
section
variable {σ : rb_St} {b : Nat} {F : fx_F} {T : List Nat}
theorem m_plain1 (hb : rb_b σ ≤ b) {o : List Nat} (ho : o.length ≤ 120) (hto : tk o) {W : List (Nat × Nat)} (hwo : wok o W) {n : Nat} (hn : n ≤ 60) : ∀ (m k : Nat) (F : fx_F) (N : List (List Nat)) (f : Int32), k + m = W.length → fx_ln F → m_out F o → m_words F W → nok N → m_names F N → ∃ F', m_names F' (x_meets ((wl o W).drop k) N).2 ∧ fx_ln F' ∧ fr [3402, 3441] [] [36] F F' ∧ match (x_meets ((wl o W).drop k) N).1 with
    | none => rb_it (fun z : (Int32 × Int32 × rb_St) => f_M_plainLine_b14 (some (fx_ad b 34)) (nI n) (z.1) (z.2.1) z.2.2) (f, nI k, fx_mk σ b F) = some (some (.int (nI 0)), fx_mk σ b F')
    | some ks => rb_it (fun z : (Int32 × Int32 × rb_St) => f_M_plainLine_b14 (some (fx_ad b 34)) (nI n) (z.1) (z.2.1) z.2.2) (f, nI k, fx_mk σ b F) = rb_it (fun z : (Int32 × Int32 × rb_St) => f_M_plainLine_b14 (some (fx_ad b 34)) (nI n) (z.1) (z.2.1) z.2.2) (if k = 0 ∧ 0 < W.length then oi ks.head? else f, nI W.length, fx_mk σ b F') ∧ ∀ j, j < 32 → bt (F'.1 3441) j = (bt (F.1 3441) j || decide (j ∈ ks.take (n - k))) := by
  have hw60 := hwo.1
  intro m
  induction m with
  | zero =>
    intro k F N f hk hF hmo hw hN hm
    rw [wl_drop0 (by omega)]
    refine ⟨F, hm, hF, fr_refl _ _ _ _, ?_⟩
    unfold x_meets
    refine ⟨?_, fun j hj => by simp⟩
    rw [if_neg (by omega), show W.length = k by omega]
  | succ m ih =>
    intro k F N f hk hF hmo hw hN hm
    have hkW : k < W.length := by omega
    rw [wl_drop hkW]
    have hok := tk_ok (wd_tk hto W k)
    have hword := m_word (F := F) (σ := σ) (b := b) ho hto hmo hwo hw hkW
    generalize wd o W k = w at hok hword ⊢
    obtain ⟨F1, a1, a2, a3, a4⟩ := m_meet (σ := σ) hb hF hN hm hok
    have hN' := nmeet_ok hN w
    have hlt := @nmeet_lt N w
    unfold x_meets
    rcases hx : nmeet N w with ⟨r, N1⟩
    rw [hx] at a1 a2 hN' hlt
    cases r with
    | none =>
      refine ⟨F1, a2, a3, fr_mono a4 (by decide) (by decide) (by decide), ?_⟩
      refine rb_it_r ?_
      show f_M_plainLine_b14 _ _ _ _ _ = _
      unfold f_M_plainLine_b14
      simp (disch := omega) only [↓fx_bm, hw.1, ↓cL_of hword, ↓cI_of a1, ↓reduceIte, n_ltT, n_ltF, n_leT, n_leF, n_eqT, n_eqF, nI_1, u_lt, u_le, u_eq, u_add, u_ix, u_ixL, u_ixR, u_cl, u_nm1, u_nm1', u_m1l, u_m1n, u_l0, Option.bind_some, Option.map_some, not_true_eq_false, not_false_eq_true, true_and, and_true, Nat.add_sub_cancel, Bool.false_eq_true, u_nar2, oi_none, u_0m1]
    | some x =>
      have hxl : x < N1.length := hlt rfl
      have hn32 := hN'.1
      have hx32 : x < 32 := Nat.lt_of_lt_of_le hxl hn32
      generalize hF2 : fx_I F1 3441 (if k < n then F.1 3441 ||| ((1 : Int32) <<< (nI x &&& 31)) else F.1 3441) = F2
      have h3441 : F1.1 3441 = F.1 3441 := a4.1 _ (by decide)
      have q1 : F2.1 3441 = if k < n then F.1 3441 ||| ((1 : Int32) <<< (nI x &&& 31)) else F.1 3441 := by
        subst hF2
        rw [fx_I_1, if_pos rfl]
      have hfr2 : fr [3402, 3441] [] [36] F F2 := by
        refine fr_trans (fr_mono a4 (by decide) (by decide) (by decide)) ?_
        subst hF2
        exact fr_I (fr_refl _ _ _ _) (by decide)
      have hln2 : fx_ln F2 := by
        subst hF2
        exact fx_lnI a3
      have hN2 : m_names F2 N1 := by
        subst hF2
        exact a2
      have hstep : f_M_plainLine_b14 (some (fx_ad b 34)) (nI n) f (nI k) (fx_mk σ b F) = some (.inl (if k = 0 then nI x else f, nI (k + 1), fx_mk σ b F2)) := by
        subst hF2
        unfold f_M_plainLine_b14
        by_cases e : k < n
        · by_cases e0 : k = 0
          · simp (disch := omega) only [↓fx_bm, ↓fx_vm hb, hw.1, ↓cL_of hword, ↓cI_of a1, ↓reduceIte, n_ltT, n_ltF, n_leT, n_leF, n_eqT, n_eqF, nI_1, u_lt, u_le, u_eq, u_add, u_ix, u_ixL, u_ixR, u_cl, u_nm1, u_nm1', u_m1l, u_m1n, u_l0, Option.bind_some, Option.map_some, not_true_eq_false, not_false_eq_true, true_and, and_true, Nat.add_sub_cancel, Bool.false_eq_true, u_nar2, oi_some, f_M_plainLine_j62, h3441]
          · simp (disch := omega) only [↓fx_bm, ↓fx_vm hb, hw.1, ↓cL_of hword, ↓cI_of a1, ↓reduceIte, n_ltT, n_ltF, n_leT, n_leF, n_eqT, n_eqF, nI_1, u_lt, u_le, u_eq, u_add, u_ix, u_ixL, u_ixR, u_cl, u_nm1, u_nm1', u_m1l, u_m1n, u_l0, Option.bind_some, Option.map_some, not_true_eq_false, not_false_eq_true, true_and, and_true, Nat.add_sub_cancel, Bool.false_eq_true, u_nar2, oi_some, f_M_plainLine_j62, h3441]
        · by_cases e0 : k = 0
          · simp (disch := omega) only [↓fx_bm, ↓fx_vm hb, hw.1, ↓cL_of hword, ↓cI_of a1, ↓reduceIte, n_ltT, n_ltF, n_leT, n_leF, n_eqT, n_eqF, nI_1, u_lt, u_le, u_eq, u_add, u_ix, u_ixL, u_ixR, u_cl, u_nm1, u_nm1', u_m1l, u_m1n, u_l0, Option.bind_some, Option.map_some, not_true_eq_false, not_false_eq_true, true_and, and_true, Nat.add_sub_cancel, Bool.false_eq_true, u_nar2, oi_some, f_M_plainLine_j62, h3441]
          · simp (disch := omega) only [↓fx_bm, ↓fx_vm hb, hw.1, ↓cL_of hword, ↓cI_of a1, ↓reduceIte, n_ltT, n_ltF, n_leT, n_leF, n_eqT, n_eqF, nI_1, u_lt, u_le, u_eq, u_add, u_ix, u_ixL, u_ixR, u_cl, u_nm1, u_nm1', u_m1l, u_m1n, u_l0, Option.bind_some, Option.map_some, not_true_eq_false, not_false_eq_true, true_and, and_true, Nat.add_sub_cancel, Bool.false_eq_true, u_nar2, oi_some, f_M_plainLine_j62, h3441]
      obtain ⟨F', e1, e2, e3, e4⟩ := ih (k + 1) F2 N1 (if k = 0 then nI x else f) (by omega) hln2 (m_out_fr hmo hfr2 (by decide)) (m_words_fr hw hfr2 (by decide)) hN' hN2
      simp only
      rcases hy : x_meets ((wl o W).drop (k + 1)) N1 with ⟨r2, N2⟩
      rw [hy] at e1 e4
      cases r2 with
      | none =>
        refine ⟨F', e1, e2, fr_trans hfr2 e3, ?_⟩
        exact (rb_it_l hstep).trans e4
      | some ks =>
        simp only at e4
        rw [if_neg (show ¬ (k + 1 = 0 ∧ 0 < W.length) by omega)] at e4
        refine ⟨F', e1, e2, fr_trans hfr2 e3, ?_, fun j hj => ?_⟩
        · refine (rb_it_l hstep).trans (e4.1.trans ?_)
          by_cases e0 : k = 0
          · rw [if_pos e0, if_pos ⟨e0, by omega⟩]
            rfl
          · rw [if_neg e0, if_neg (fun h => e0 h.1)]
        · rw [e4.2 j hj, q1]
          by_cases e : k < n
          · rw [if_pos e, bt_or hx32, show n - k = (n - (k + 1)) + 1 by omega, List.take_succ_cons]
            simp only [List.mem_cons, Bool.decide_or, Bool.or_assoc]
          · rw [if_neg e, show n - k = 0 by omega, show n - (k + 1) = 0 by omega]
            rw [List.take_zero, List.take_zero]
end
