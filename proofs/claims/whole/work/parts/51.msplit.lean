/-! the reference: words -/
/-- the words in a part of a text, as places -/
def wds (o : List Nat) : Nat → Nat → Nat → List (Nat × Nat)
  | 0, _, _ => []
  | k + 1, p, q => if q ≤ p then [] else if o.getD p 0 = 32 then wds o k (p + 1) q else (p, fi (fun j => decide (o.getD j 0 = 32)) q p) :: wds o k (fi (fun j => decide (o.getD j 0 = 32)) q p) q
theorem fi_gt {P : Nat → Bool} {n k : Nat} (h : k < n) (hp : P k = false) : k < fi P n k := by
  have h1 := fi_le (P := P) (Nat.le_of_lt h)
  by_cases e : fi P n k = k
  · have := fi_P (P := P) (n := n) (k := k) (by omega)
    rw [e, hp] at this
    cases this
  · omega
theorem wds_len (o : List Nat) : ∀ (k p q : Nat), 2 * (wds o k p q).length ≤ q - p + 1
  | 0, p, q => by simp [wds]
  | k + 1, p, q => by
    unfold wds
    split
    · simp
    · split
      · have := wds_len o k (p + 1) q
        omega
      · rename_i h1 h2
        have hg := fi_gt (P := fun j => decide (o.getD j 0 = 32)) (n := q) (k := p) (by omega) (by simpa using h2)
        have hle := fi_le (P := fun j => decide (o.getD j 0 = 32)) (n := q) (k := p) (by omega)
        -- the word is followed by a space, or it is the last
        generalize hf : fi (fun j => decide (o.getD j 0 = 32)) q p = t at hg hle ⊢
        rw [List.length_cons]
        by_cases e : t = q
        · cases k with
          | zero => simp [wds]; omega
          | succ k =>
            unfold wds
            rw [if_pos (by omega)]
            simp
            omega
        · cases k with
          | zero => simp [wds]; omega
          | succ k =>
            have hsp := fi_P (P := fun j => decide (o.getD j 0 = 32)) (n := q) (k := p) (by omega)
            rw [hf] at hsp
            have hsp' : o.getD t 0 = 32 := by simpa using hsp
            unfold wds
            rw [if_neg (by omega), if_pos hsp']
            have := wds_len o k (t + 1) q
            omega
theorem wds_in (o : List Nat) : ∀ (k p q : Nat) (x : Nat × Nat), x ∈ wds o k p q → p ≤ x.1 ∧ x.1 < x.2 ∧ x.2 ≤ q
  | 0, p, q, x, h => by simp [wds] at h
  | k + 1, p, q, x, h => by
    unfold wds at h
    split at h
    · simp at h
    · split at h
      · have := wds_in o k (p + 1) q x h
        exact ⟨by omega, this.2⟩
      · rename_i h1 h2
        have hg := fi_gt (P := fun j => decide (o.getD j 0 = 32)) (n := q) (k := p) (by omega) (by simpa using h2)
        have hle := fi_le (P := fun j => decide (o.getD j 0 = 32)) (n := q) (k := p) (by omega)
        rcases List.mem_cons.mp h with rfl | h3
        · exact ⟨Nat.le_refl _, hg, hle.2⟩
        · have := wds_in o k _ q x h3
          exact ⟨by omega, this.2⟩
def m_words (F : fx_F) (W : List (Nat × Nat)) : Prop := F.1 3447 = nI W.length ∧ ∀ k, k < W.length → (F.2.1 63)[k]? = some (nI (W.getD k (0, 0)).1) ∧ (F.2.1 64)[k]? = some (nI (W.getD k (0, 0)).2)
section
variable {σ : rb_St} {b : Nat} {F : fx_F}
theorem m_split (hb : rb_b σ ≤ b) {o : List Nat} (ho : o.length ≤ 120) (hto : tk o) {q : Nat} (hq : q ≤ o.length) : ∀ (n p : Nat) (F : fx_F) (W : List (Nat × Nat)), q - p ≤ n → fx_ln F → m_out F o → m_words F W → W.length + (wds o n p q).length ≤ 60 → p < 2147483648 → ∃ F', rb_it (fun z : (Int32 × rb_St) => f_M_split_b2 (some (fx_ad b 34)) (nI q) (z.1) z.2) (nI p, fx_mk σ b F) = some (none, fx_mk σ b F') ∧ m_words F' (W ++ wds o n p q) ∧ fx_ln F' ∧ fr [3447] [63, 64] [] F F' := by
  intro n
  induction n with
  | zero =>
    intro p F W hn hF hm hw hW hp
    refine ⟨F, ?_, by simpa [wds] using hw, hF, fr_refl _ _ _ _⟩
    refine rb_it_r ?_
    unfold f_M_split_b2
    rw [if_pos (nI_le (by omega) (by omega))]
    rfl
  | succ n ih =>
    intro p F W hn hF hm hw hW hp
    have h63 := hF.1 63
    have h64 := hF.1 64
    simp only [fx_cI] at h63 h64
    by_cases h1 : q ≤ p
    · refine ⟨F, ?_, by simpa [wds, h1] using hw, hF, fr_refl _ _ _ _⟩
      refine rb_it_r ?_
      unfold f_M_split_b2
      rw [if_pos (nI_le (by omega) (by omega))]
      rfl
    · have hc := ty_lt (tk_get hto (k := p) (by omega))
      by_cases h2 : o.getD p 0 = 32
      · unfold wds at hW
        rw [if_neg h1, if_pos h2] at hW
        obtain ⟨F', k1, k2, k3, k4⟩ := ih (p + 1) F W (by omega) hF hm hw hW (by omega)
        refine ⟨F', ?_, ?_, k3, k4⟩
        · rw [← k1]
          refine rb_it_l ?_
          unfold f_M_split_b2
          simp (disch := omega) only [↓fx_bm, ↓bx_of rfl (show p < 2147483648 by omega) (rk_getD hm.2 (i := p) (by omega)), u_l32, ↓reduceIte, n_ltT, n_ltF, n_leT, n_leF, n_eqT, n_eqF, nI_1, u_lt, u_le, u_eq, u_add, u_ix, u_ixL, u_ixR, u_cl, u_nm1, u_nm1', u_m1l, u_m1n, u_l0, Option.bind_some, Option.map_some, not_true_eq_false, not_false_eq_true, true_and, and_true, Nat.add_sub_cancel, Bool.false_eq_true, u_nar2]
        · unfold wds
          rw [if_neg h1, if_pos h2]
          exact k2
      · have hg := fi_gt (P := fun j => decide (o.getD j 0 = 32)) (n := q) (k := p) (by omega) (by simpa using h2)
        have hle := fi_le (P := fun j => decide (o.getD j 0 = 32)) (n := q) (k := p) (by omega)
        unfold wds at hW
        rw [if_neg h1, if_neg h2, List.length_cons] at hW
        generalize hF1 : fx_A F 63 ((F.2.1 63).set W.length (nI p)) = F1
        have hm1 : m_out F1 o := by subst hF1; exact hm
        have hfin : ∀ t, t < 2147483648 → f_M_split_j56 (some (fx_ad b 34)) (nI q) (nI t) (fx_mk σ b F1) = some (.inl (nI t, fx_mk σ b (fx_I (fx_A F1 64 ((F.2.1 64).set W.length (nI t))) 3447 (nI (W.length + 1))))) := by
          intro t ht
          subst hF1
          unfold f_M_split_j56
          simp (disch := omega) only [↓fx_bm, ↓fx_vm hb, fx_II, fx_AA, fx_LL, fx_I_1, fx_I_A, fx_I_L, fx_I_R, fx_I_Q, fx_A_1, fx_A_A, fx_A_L, fx_A_R, fx_A_Q, fx_L_1, fx_L_A, fx_L_L, fx_L_R, fx_L_Q, fx_R_1, fx_R_A, fx_R_L, fx_R_R, fx_R_Q, fx_Q_1, fx_Q_A, fx_Q_L, fx_Q_R, fx_Q_Q, hw.1, u_l1, ↓reduceIte, n_ltT, n_ltF, n_leT, n_leF, n_eqT, n_eqF, nI_1, u_lt, u_le, u_eq, u_add, u_ix, u_ixL, u_ixR, u_cl, u_nm1, u_nm1', u_m1l, u_m1n, u_l0, Option.bind_some, Option.map_some, not_true_eq_false, not_false_eq_true, true_and, and_true, Nat.add_sub_cancel, Bool.false_eq_true, u_nar2]
        have hstep : f_M_split_b2 (some (fx_ad b 34)) (nI q) (nI p) (fx_mk σ b F) = some (.inl (nI (fi (fun j => decide (o.getD j 0 = 32)) q p), fx_mk σ b (fx_I (fx_A F1 64 ((F.2.1 64).set W.length (nI (fi (fun j => decide (o.getD j 0 = 32)) q p)))) 3447 (nI (W.length + 1))))) := by
          unfold f_M_split_b2
          simp (disch := omega) only [↓fx_bm, ↓fx_vm hb, ↓bx_of rfl (show p < 2147483648 by omega) (rk_getD hm.2 (i := p) (by omega)), u_l32, hw.1, ↓reduceIte, n_ltT, n_ltF, n_leT, n_leF, n_eqT, n_eqF, nI_1, u_lt, u_le, u_eq, u_add, u_ix, u_ixL, u_ixR, u_cl, u_nm1, u_nm1', u_m1l, u_m1n, u_l0, Option.bind_some, Option.map_some, not_true_eq_false, not_false_eq_true, true_and, and_true, Nat.add_sub_cancel, Bool.false_eq_true, u_nar2]
          rw [hF1, it_fim (n := q) (fun j => decide (o.getD j 0 = 32)) (fun t => f_M_split_j56 (some (fx_ad b 34)) (nI q) (nI t) (fx_mk σ b F1)) ?_ ?_ (by omega)]
          · exact hfin _ (by omega)
          · intro j hj
            have hcj := ty_lt (tk_get hto (k := j) (by omega))
            unfold f_M_split_b34
            simp (disch := omega) only [↓fx_bm, ↓bx_of rfl (show j < 2147483648 by omega) (rk_getD hm1.2 (i := j) (by omega)), u_l32, decide_eq_true_eq, ↓reduceIte, n_ltT, n_ltF, n_leT, n_leF, n_eqT, n_eqF, nI_1, u_lt, u_le, u_eq, u_add, u_ix, u_ixL, u_ixR, u_cl, u_nm1, u_nm1', u_m1l, u_m1n, u_l0, Option.bind_some, Option.map_some, not_true_eq_false, not_false_eq_true, true_and, and_true, Nat.add_sub_cancel, Bool.false_eq_true, u_nar2]
          · unfold f_M_split_b34
            simp (disch := omega) only [↓reduceIte, n_ltT, n_ltF, n_leT, n_leF, n_eqT, n_eqF, nI_1, u_lt, u_le, u_eq, u_add, u_ix, u_ixL, u_ixR, u_cl, u_nm1, u_nm1', u_m1l, u_m1n, u_l0, Option.bind_some, Option.map_some, not_true_eq_false, not_false_eq_true, true_and, and_true, Nat.add_sub_cancel, Bool.false_eq_true, u_nar2]
        generalize hft : fi (fun j => decide (o.getD j 0 = 32)) q p = t at hg hle hstep hW ⊢
        generalize hF2 : fx_I (fx_A F1 64 ((F.2.1 64).set W.length (nI t))) 3447 (nI (W.length + 1)) = F2 at hstep
        have hfr2 : fr [3447] [63, 64] [] F F2 := by
          subst hF2 hF1
          exact fr_I (fr_A (fr_A (fr_refl _ _ _ _) (by decide)) (by decide)) (by decide)
        have hln2 : fx_ln F2 := by
          subst hF2 hF1
          exact fx_lnI (fx_lnA (fx_lnA hF (by rw [List.length_set]; exact hF.1 _)) (by rw [List.length_set]; exact hF.1 _))
        have hw2 : m_words F2 (W ++ [(p, t)]) := by
          subst hF2 hF1
          refine ⟨by simp [fx_II, fx_AA, fx_LL, fx_I_1, fx_I_A, fx_I_L, fx_I_R, fx_I_Q, fx_A_1, fx_A_A, fx_A_L, fx_A_R, fx_A_Q, fx_L_1, fx_L_A, fx_L_L, fx_L_R, fx_L_Q, fx_R_1, fx_R_A, fx_R_L, fx_R_R, fx_R_Q, fx_Q_1, fx_Q_A, fx_Q_L, fx_Q_R, fx_Q_Q], fun k hk => ?_⟩
          simp only [fx_II, fx_AA, fx_LL, fx_I_1, fx_I_A, fx_I_L, fx_I_R, fx_I_Q, fx_A_1, fx_A_A, fx_A_L, fx_A_R, fx_A_Q, fx_L_1, fx_L_A, fx_L_L, fx_L_R, fx_L_Q, fx_R_1, fx_R_A, fx_R_L, fx_R_R, fx_R_Q, fx_Q_1, fx_Q_A, fx_Q_L, fx_Q_R, fx_Q_Q, Bool.false_eq_true, Option.bind_some, Option.map_some, rb_cI, rb_cL, rb_cR, rb_cV, reduceIte, ite_true, ite_false, not_true_eq_false, not_false_eq_true, true_and, and_true, Nat.reduceEqDiff, Nat.reduceAdd, Nat.reduceMul, Nat.add_sub_cancel]
          rw [set_get (by omega), set_get (by omega)]
          by_cases e : k = W.length
          · subst e
            rw [if_pos rfl, if_pos rfl, getD_app_r]
            exact ⟨rfl, rfl⟩
          · have : k < W.length := by simp at hk; omega
            rw [if_neg e, if_neg e, getD_app_l this]
            exact hw.2 k this
        have hm2 : m_out F2 o := by
          subst hF2 hF1
          exact hm
        obtain ⟨F', k1, k2, k3, k4⟩ := ih t F2 (W ++ [(p, t)]) (by omega) hln2 hm2 hw2 (by simp only [List.length_append, List.length_singleton]; omega) (by omega)
        refine ⟨F', ?_, ?_, k3, fr_trans hfr2 k4⟩
        · rw [rb_it_l hstep]
          exact k1
        · conv => rhs; unfold wds
          rw [if_neg h1, if_neg h2, hft]
          rw [List.append_assoc] at k2
          exact k2
theorem m_packed {o : List Nat} (ho : o.length ≤ 120) (hto : tk o) (hm : m_out F o) {p q : Nat} (hpq : p ≤ q) (hq : q ≤ o.length) : f_M_packed (some (fx_ad b 34)) (nI p) (nI q) (fx_mk σ b F) = some (some (.long (pk (slc o p q))), fx_mk σ b F) := by
  have hsl : (slc o p q).length = q - p := slc_len hq
  unfold f_M_packed
  rw [u_sub hpq]
  by_cases h : q - p ≤ 9
  · have key : ∀ m k, k + m = q - p → rb_it (fun z : (Int64 × Int32) => f_M_packed_b19 (some (fx_ad b 34)) (nI p) (nI q) (z.1) (z.2) (fx_mk σ b F)) (lN (pq ((slc o p q).take k)), nI (p + k)) = some (some (.long (lN (pq (slc o p q)))), fx_mk σ b F) := by
      intro m
      induction m with
      | zero =>
        intro k hk
        refine rb_it_r ?_
        unfold f_M_packed_b19 f_M_packed_j53
        rw [if_pos (nI_le (by omega) (by omega)), List.take_of_length_le (by omega)]
        rfl
      | succ m ih =>
        intro k hk
        have ht := tk_ok (slc_tk hto p q)
        have hc := ht _ (getD_mem (l := slc o p q) (k := k) (d := 0) (by omega))
        have hp := pq_lt63 (l := (slc o p q).take (k + 1)) (by simp; omega) (fun c hc => ht c (List.mem_of_mem_take hc))
        rw [take_succ (d := 0) (by omega), pq_app] at hp
        have hg := slc_get (l := o) (p := p) (q := q) (i := k) (by omega)
        rw [← ih (k + 1) (by omega), take_succ (d := 0) (by omega), pq_app]
        refine rb_it_l ?_
        unfold f_M_packed_b19
        rw [u_sub hpq]
        rw [hg] at hp hc ⊢
        simp (disch := omega) only [↓fx_bm, ↓bx_of rfl (show p + k < 2147483648 by omega) (rk_getD hm.2 (i := p + k) (by omega)), u_l9, ↓reduceIte, n_ltT, n_ltF, n_leT, n_leF, n_eqT, n_eqF, nI_1, u_lt, u_le, u_eq, u_add, u_ix, u_ixL, u_ixR, u_cl, u_nm1, u_nm1', u_m1l, u_m1n, u_l0, Option.bind_some, Option.map_some, not_true_eq_false, not_false_eq_true, true_and, and_true, Nat.add_sub_cancel, Bool.false_eq_true, u_nar2, pq_push hp hc.2]
        rfl
    rw [if_pos (show nI (q - p) ≤ 9 from nI_le h (by decide))]
    have := key (q - p) 0 (by omega)
    rw [pk_of (by omega)]
    exact this
  · rw [if_neg (show ¬ nI (q - p) ≤ 9 from nI_ge (a := 9) (by omega) (by omega))]
    refine rb_it_r ?_
    unfold f_M_packed_b19 f_M_packed_j53 pk
    rw [u_sub hpq, if_pos (show (9 : Int32) < nI (q - p) from nI_lt (a := 9) (by omega) (by omega)), ite_self, if_neg (by omega)]
    rfl
/-- the word of a number -/
def wd (o : List Nat) (W : List (Nat × Nat)) (k : Nat) : List Nat := slc o (W.getD k (0, 0)).1 (W.getD k (0, 0)).2
def wok (o : List Nat) (W : List (Nat × Nat)) : Prop := W.length ≤ 60 ∧ ∀ k, k < W.length → (W.getD k (0, 0)).1 < (W.getD k (0, 0)).2 ∧ (W.getD k (0, 0)).2 ≤ o.length
theorem m_word {o : List Nat} (ho : o.length ≤ 120) (hto : tk o) (hm : m_out F o) {W : List (Nat × Nat)} (hwo : wok o W) (hw : m_words F W) {k : Nat} (hk : k < W.length) : f_M_word (some (fx_ad b 34)) (nI k) (fx_mk σ b F) = some (some (.long (pk (wd o W k))), fx_mk σ b F) := by
  have h1 := hwo.2 k hk
  have h2 := hwo.1
  have h3 := m_packed (σ := σ) (b := b) ho hto hm (p := (W.getD k (0, 0)).1) (q := (W.getD k (0, 0)).2) (by omega) h1.2
  unfold f_M_word wd
  simp (disch := omega) only [↓fx_bm, ↓bx_of rfl (show k < 2147483648 by omega) (hw.2 k hk).1, ↓bx_of rfl (show k < 2147483648 by omega) (hw.2 k hk).2, ↓cL_of h3, ↓reduceIte, n_ltT, n_ltF, n_leT, n_leF, n_eqT, n_eqF, nI_1, u_lt, u_le, u_eq, u_add, u_ix, u_ixL, u_ixR, u_cl, u_nm1, u_nm1', u_m1l, u_m1n, u_l0, Option.bind_some, Option.map_some, not_true_eq_false, not_false_eq_true, true_and, and_true, Nat.add_sub_cancel, Bool.false_eq_true, u_nar2]
theorem wd_tk {o : List Nat} (hto : tk o) (W : List (Nat × Nat)) (k : Nat) : tk (wd o W k) := slc_tk hto _ _
theorem wd_ne {o : List Nat} {W : List (Nat × Nat)} (hwo : wok o W) {k : Nat} (hk : k < W.length) : wd o W k ≠ [] := by
  have h1 := hwo.2 k hk
  intro h
  have := slc_len (l := o) (p := (W.getD k (0, 0)).1) h1.2
  unfold wd at h
  rw [h, List.length_nil] at this
  omega
end
