/-! the class: macros -/
/-- a phrase stands at p -/
def ph (σ : rb_St) (b p : Nat) (l : List Nat) : Prop := wx b p ∧ p < rb_n σ ∧ ∃ s, σ.1 p = (10, [.ref s]) ∧ sx σ b s l
theorem ph_hx {σ σ' : rb_St} {b p : Nat} {l : List Nat} (h : ph σ b p l) (hh : hx σ σ') : ph σ' b p l := by
  obtain ⟨h1, h2, s, h3, h4⟩ := h
  exact ⟨h1, Nat.lt_of_lt_of_le h2 hh.1, s, by rw [hh.2.2.2 p h2 (by rw [h3]; show 10 ≠ 12; decide)]; exact h3, sx_hx h4 hh⟩
/-- macros, in a row of phrases -/
def vx (σ : rb_St) (b : Nat) (F : fx_F) (o : Nat) (g : Nat → Option (List Nat)) : Prop := ∀ m, m < 26 → (g m = none → (F.2.2.2.2 o)[m]? = some none) ∧ ∀ v, g m = some v → ∃ p, (F.2.2.2.2 o)[m]? = some (some p) ∧ ph σ b p v
theorem vx_hx {σ σ' : rb_St} {b : Nat} {F F' : fx_F} {o : Nat} {g : Nat → Option (List Nat)} (h : vx σ b F o g) (hh : hx σ σ') (hf : F'.2.2.2.2 o = F.2.2.2.2 o) : vx σ' b F' o g := by
  intro m hm
  rw [hf]
  refine ⟨(h m hm).1, fun v hv => ?_⟩
  obtain ⟨p, h1, h2⟩ := (h m hm).2 v hv
  exact ⟨p, h1, ph_hx h2 hh⟩
section
variable {σ : rb_St} {b : Nat} {F : fx_F}
theorem c_isCapital (τ : rb_St) {c : Nat} (h : c < 65536) : f_Exp_isCapital (nI c) τ = some (some (.int (nI (b2 (cap c)))), τ) := by
  unfold f_Exp_isCapital cap
  by_cases h1 : c < 65
  · rw [decide_eq_false (by omega)]
    simp (disch := omega) only [u_l65, ↓reduceIte, n_ltT, n_ltF, n_leT, n_leF, n_eqT, n_eqF, nI_1, u_lt, u_le, u_eq, u_add, u_ix, u_ixL, u_ixR, u_cl, u_nm1, u_nm1', u_m1l, u_m1n, u_l0, Option.bind_some, Option.map_some, not_true_eq_false, not_false_eq_true, true_and, and_true, Nat.add_sub_cancel, Bool.false_eq_true, u_nar2, b2_f]
  · by_cases h2 : 90 < c
    · rw [decide_eq_false (by omega)]
      simp (disch := omega) only [u_l65, u_l90, ↓reduceIte, n_ltT, n_ltF, n_leT, n_leF, n_eqT, n_eqF, nI_1, u_lt, u_le, u_eq, u_add, u_ix, u_ixL, u_ixR, u_cl, u_nm1, u_nm1', u_m1l, u_m1n, u_l0, Option.bind_some, Option.map_some, not_true_eq_false, not_false_eq_true, true_and, and_true, Nat.add_sub_cancel, Bool.false_eq_true, u_nar2, b2_f]
    · rw [decide_eq_true (by omega)]
      simp (disch := omega) only [u_l65, u_l90, ↓reduceIte, n_ltT, n_ltF, n_leT, n_leF, n_eqT, n_eqF, nI_1, u_lt, u_le, u_eq, u_add, u_ix, u_ixL, u_ixR, u_cl, u_nm1, u_nm1', u_m1l, u_m1n, u_l0, Option.bind_some, Option.map_some, not_true_eq_false, not_false_eq_true, true_and, and_true, Nat.add_sub_cancel, Bool.false_eq_true, u_nar2, b2_t, u_l1]
theorem c_placeOf {a : Nat} {s : List Nat} (hs : sx σ b a s) {c : Nat} (hc : c < 128) {p : Nat} (hp : p < 200000) : f_Exp_placeOf (some a) (nI c) (nI p) (fx_mk σ b F) = some (some (.int (nI (fi (fun k => decide (s.getD k 0 = c)) s.length p))), fx_mk σ b F) := by
  have hlen := c_len (F := F) hs
  obtain ⟨v, rest, k1, k2, k3, k4, k5, k6⟩ := hs.2.2
  have hfc := fo_fk (F := F) hs.1 k3
  unfold f_Exp_placeOf
  rw [show rb_mx (nI p) (0 : Int32) = nI p from if_neg (by rw [u_l0, u_lt (by omega) (by omega)]; omega)]
  have hend : ∀ k, s.length ≤ k → k < 200000 → f_Exp_placeOf_b6 (some a) (nI c) (nI k) (fx_mk σ b F) = some (.inr (some (.int (nI s.length)), fx_mk σ b F)) := by
    intro k hk hk2
    unfold f_Exp_placeOf_b6
    rw [hfc, Option.bind_some, cI_of hlen, if_pos (nI_le hk (by omega)), hfc, Option.bind_some, cI_of hlen]
    rfl
  by_cases hpl : s.length ≤ p
  · rw [fi_end hpl]
    exact rb_it_r (hend p hpl hp)
  · refine (it_fim3 (body := fun z : Int32 × rb_St => f_Exp_placeOf_b6 (some a) (nI c) z.1 z.2) (n := s.length) (k0 := p) (s0 := fx_mk σ b F) (fun k => decide (s.getD k 0 = c)) (fun k => some (some (.int (nI k)), fx_mk σ b F)) ?_ ?_ (s.length - p) p (Nat.le_refl _) (by omega)).trans rfl
    · intro k h0 hk
      have hch := c_charAt (F := F) hs (i := k) hk
      have hcc := k5 _ (getD_mem (d := 0) hk)
      show f_Exp_placeOf_b6 _ _ _ _ = _
      unfold f_Exp_placeOf_b6
      rw [hfc, Option.bind_some, cI_of hlen, if_neg (show ¬ nI s.length ≤ nI k by rw [u_le (by omega) (by omega)]; omega), hfc, Option.bind_some, cI_of hch]
      by_cases e : s.getD k 0 = c
      · rw [if_pos (by rw [e]), if_pos (decide_eq_true e)]
      · rw [if_neg (show ¬ nI (s.getD k 0) = nI c by rw [u_eq (by omega) (by omega)]; exact e), if_neg (by simpa using e)]
        simp (disch := omega) only [↓reduceIte, n_ltT, n_ltF, n_leT, n_leF, n_eqT, n_eqF, nI_1, u_lt, u_le, u_eq, u_add, u_ix, u_ixL, u_ixR, u_cl, u_nm1, u_nm1', u_m1l, u_m1n, u_l0, Option.bind_some, Option.map_some, not_true_eq_false, not_false_eq_true, true_and, and_true, Nat.add_sub_cancel, Bool.false_eq_true, u_nar2]
    · exact hend s.length (Nat.le_refl _) (by omega)
theorem c_valueOf (hk : kx σ b) {gv df : Nat → Option (List Nat)} (hg : vx σ b F 18 gv) (hd : vx σ b F 19 df) {c : Nat} (hc : cap c = true) : ∃ s, f_Exp_valueOf (some (fx_ad b 13)) (nI c) (fx_mk σ b F) = some (some (va_rf (some s)), fx_mk σ b F) ∧ sx σ b s (vl gv df (c - 65)) := by
  have hcc := of_decide_eq_true hc
  have hm : c - 65 < 26 := by omega
  have hsub : nI c - (65 : Int32) = nI (c - 65) := by
    rw [u_l65, u_sub hcc.1]
  unfold f_Exp_valueOf vl
  cases hgv : gv (c - 65) with
  | some v =>
    obtain ⟨p, h1, h2⟩ := (hg _ hm).2 v hgv
    obtain ⟨q1, q2, s, q3, q4⟩ := h2
    have g1 : rb_gR (fx_mk σ b F) (some p) 10 0 = some (some s) := fo_gR (r := some s) q1 q3 rfl
    refine ⟨s, ?_, q4⟩
    simp only [↓fx_bc, ↓bR_of hsub (show c - 65 < 2147483648 by omega) h1]
    rw [if_neg (by simp), g1]
    rfl
  | none =>
    have h1 := (hg _ hm).1 hgv
    simp only
    cases hdf : df (c - 65) with
    | some v =>
      obtain ⟨p, h2, h3⟩ := (hd _ hm).2 v hdf
      obtain ⟨q1, q2, s, q3, q4⟩ := h3
      have g1 : rb_gR (fx_mk σ b F) (some p) 10 0 = some (some s) := fo_gR (r := some s) q1 q3 rfl
      refine ⟨s, ?_, q4⟩
      simp only [↓fx_bc, ↓bR_of hsub (show c - 65 < 2147483648 by omega) h1, ↓bR_of hsub (show c - 65 < 2147483648 by omega) h2]
      rw [if_pos trivial, if_neg (by simp), g1]
      rfl
    | none =>
      have h2 := (hd _ hm).1 hdf
      refine ⟨rb_k σ 0, ?_, hk.2.2 0 (by decide)⟩
      simp only [↓fx_bc, ↓bR_of hsub (show c - 65 < 2147483648 by omega) h1, ↓bR_of hsub (show c - 65 < 2147483648 by omega) h2]
      rw [if_pos trivial, if_pos trivial]
      rfl
/-- a macro gets a new phrase -/
theorem c_phrase (hk : kx σ b) (hF : fx_ln F) {o : Nat} (ho : o = 18 ∨ o = 19) {g : Nat → Option (List Nat)} (hg : vx σ b F o g) {m : Nat} (hm : m < 26) {s : Nat} {v : List Nat} (hs : sx σ b s v) : ∃ σ' F', rb_cV (f_Phrase_init (rb_n σ) (some s) (rb_nO (fx_mk σ b F) 10)) (fun σ_4 => (rb_sR σ_4 (some (fx_ad b o)) 111 (nI m) (some (rb_n σ))).bind fun σ_5 => some (none, σ_5)) = some ((none : Option Value), fx_mk σ' b F') ∧ vx σ' b F' o (up1 g m (some v)) ∧ hn σ σ' ∧ gw 1 1 σ σ' ∧ F' = fx_Q F o (F'.2.2.2.2 o) ∧ fx_ln F' := by
  have hkn := hk.2.1
  have hkb := hk.1
  have hA : wx b (rb_n σ) := fun h => by omega
  generalize hσ1 : nwc σ (10, rb_df 10) (rb_nS 10) = σ1
  have hn1 : rb_n σ1 = rb_n σ + 1 := by subst hσ1; rfl
  have hb1 : rb_b σ1 = rb_b σ := by subst hσ1; rfl
  have hs1 : rb_s σ1 = rb_s σ + 1 := by subst hσ1; rfl
  have h01 : hn σ σ1 := by subst hσ1; exact hn_nwc _ _ _
  have c1 : σ1.1 (rb_n σ) = (10, rb_df 10) := by subst hσ1; exact nwc_at _ _
  have p1 := fo_pR (F := F) (r := some s) (k := 0) hA (show rb_b σ1 ≤ rb_n σ by omega) c1 (by decide)
  generalize hσ2 : upc σ1 (rb_n σ) (10, (rb_df 10).set 0 (va_rf (some s))) = σ2 at p1
  have c2 : σ2.1 (rb_n σ) = (10, [.ref s]) := by subst hσ2; exact upc_at _ _
  have h02 : hn σ σ2 := by subst hσ2; exact hn_upc h01 (Nat.le_refl _)
  have hn2 : rb_n σ2 = rb_n σ + 1 := by subst hσ2; exact hn1
  have hb2 : rb_b σ2 = rb_b σ := by subst hσ2; exact hb1
  have hs2 : rb_s σ2 = rb_s σ + 1 := by subst hσ2; exact hs1
  have ho83 : o < 83 := by rcases ho with h | h <;> omega
  have hot : fx_t o = 111 := by rcases ho with h | h <;> subst h <;> rfl
  have hrow : (F.2.2.2.2 o).length = 26 := by
    rw [hF.2.2]
    rcases ho with h | h <;> subst h <;> rfl
  have htag : ∀ a, some (rb_n σ) = some a → ((fx_mk σ2 b F).1 a).1 = rb_ce 111 := fun a ha => by
    injection ha with ha
    subst ha
    rw [fx_out hA, c2]
    rfl
  have hsr : rb_sR (fx_mk σ2 b F) (some (fx_ad b o)) 111 (nI m) (some (rb_n σ)) = some (fx_mk σ2 b (fx_Q F o ((F.2.2.2.2 o).set m (some (rb_n σ))))) := by
    rw [fx_sR ho83 hot (by decide) (by omega) htag, u_cl (by omega), if_pos ⟨by rw [u_l0, u_lt (by omega) (by omega)]; omega, by omega⟩]
  refine ⟨σ2, fx_Q F o ((F.2.2.2.2 o).set m (some (rb_n σ))), ?_, fun j hj => ?_, h02, ⟨by omega, by omega⟩, ?_, ?_⟩
  · have hin : f_Phrase_init (rb_n σ) (some s) (rb_nO (fx_mk σ b F) 10) = some (none, fx_mk σ2 b F) := by
      unfold f_Phrase_init
      rw [fx_nO hkn, hσ1, p1]
      rfl
    rw [cV_of hin, hsr]
    rfl
  · rw [fx_Q_Q, if_pos rfl, set_get (by omega)]
    by_cases e : j = m
    · rw [if_pos e, e, up1_eq]
      refine ⟨fun h => (by cases h), fun v' hv' => ?_⟩
      injection hv' with hv'
      subst hv'
      exact ⟨rb_n σ, rfl, hA, by omega, s, c2, sx_hx hs h02.1⟩
    · rw [if_neg e, up1_ne e]
      refine ⟨(hg j hj).1, fun v' hv' => ?_⟩
      obtain ⟨p, q1, q2⟩ := (hg j hj).2 v' hv'
      exact ⟨p, q1, ph_hx q2 h02.1⟩
  · rw [fx_Q_Q, if_pos rfl]
  · refine fx_lnQ hF ?_
    rw [List.length_set]
    exact hF.2.2 o
end
