/-! the class: rules, as they stand -/
def prow (σ : rb_St) (b : Nat) (F : fx_F) (o : Nat) (L : List (List Nat)) : Prop := ∀ i, i < L.length → ∃ p, (F.2.2.2.2 o)[i]? = some (some p) ∧ ph σ b p (L.getD i [])
theorem prow_hx {σ σ' : rb_St} {b : Nat} {F F' : fx_F} {o : Nat} {L : List (List Nat)} (h : prow σ b F o L) (hh : hx σ σ') (hf : F'.2.2.2.2 o = F.2.2.2.2 o) : prow σ' b F' o L := fun i hi => by
  obtain ⟨p, h1, h2⟩ := h i hi
  exact ⟨p, by rw [hf]; exact h1, ph_hx h2 hh⟩
def erow (σ : rb_St) (b : Nat) (F : fx_F) (En : List ((List Nat × List Nat) × Option Nat)) : Prop := ∀ i, i < En.length → ∃ p q, (F.2.2.2.2 7)[i]? = some (some p) ∧ ph σ b p (En.getD i (([], []), none)).1.1 ∧ (F.2.2.2.2 8)[i]? = some (some q) ∧ ph σ b q (En.getD i (([], []), none)).1.2
theorem erow_hx {σ σ' : rb_St} {b : Nat} {F F' : fx_F} {En : List ((List Nat × List Nat) × Option Nat)} (h : erow σ b F En) (hh : hx σ σ') (hf : F'.2.2.2.2 7 = F.2.2.2.2 7) (hf2 : F'.2.2.2.2 8 = F.2.2.2.2 8) : erow σ' b F' En := fun i hi => by
  obtain ⟨p, q, h1, h2, h3, h4⟩ := h i hi
  exact ⟨p, q, by rw [hf]; exact h1, ph_hx h2 hh, by rw [hf2]; exact h3, ph_hx h4 hh⟩
section
variable {σ : rb_St} {b : Nat} {F : fx_F}
/-- a phrase's text -/
theorem p_tx {p : Nat} {l : List Nat} (h : ph σ b p l) : ∃ s, (∀ G, rb_gR (fx_mk σ b G) (some p) 10 0 = some (some s)) ∧ sx σ b s l ∧ ∃ v, ∀ G, rb_fc (fx_mk σ b G) (some s) 14 = some v := by
  obtain ⟨h1, h2, s, h3, h4⟩ := h
  obtain ⟨v, rest, k1, k2, k3, k4, k5, k6⟩ := h4.2.2
  exact ⟨s, fun G => fo_gR (F := G) (r := some s) h1 h3 rfl, h4, _, fun G => fo_fk (F := G) h4.1 k3⟩
theorem sx_fc {a : Nat} {s : List Nat} (h : sx σ b a s) : ∃ v, ∀ G, rb_fc (fx_mk σ b G) (some a) 14 = some v := by
  obtain ⟨v, rest, k1, k2, k3, k4, k5, k6⟩ := h.2.2
  exact ⟨_, fun G => fo_fk (F := G) h.1 k3⟩
theorem c_hasSuffix {Sf : List (List Nat)} (h1 : F.1 501 = nI Sf.length) (hl : Sf.length ≤ 6) (hp : prow σ b F 6 Sf) {a : Nat} {s : List Nat} (hs : sx σ b a s) : f_Rules_hasSuffix (some (fx_ad b 5)) (some a) (fx_mk σ b F) = some (some (.int (nI (b2 (nf Sf s).isSome))), fx_mk σ b F) := by
  unfold f_Rules_hasSuffix
  refine (it_fim2 (body := fun z : Int32 × rb_St => f_Rules_hasSuffix_b2 (some (fx_ad b 5)) (some a) z.1 z.2) (n := Sf.length) (s0 := fx_mk σ b F) (fun k => decide (Sf.getD k [] = s)) (fun k => some (some (.int (nI (b2 (decide (k < Sf.length))))), fx_mk σ b F)) ?_ ?_ (k := 0) (Nat.zero_le _)).trans ?_
  · intro k hk
    obtain ⟨p, q1, q2⟩ := hp k hk
    obtain ⟨s2, t1, t2, v, t3⟩ := p_tx q2
    have heq := c_equals (F := F) t2 hs
    show f_Rules_hasSuffix_b2 _ _ _ _ = _
    unfold f_Rules_hasSuffix_b2
    simp (disch := omega) only [↓fx_bc, h1, u_le, n_leF, if_false, ↓bR_of rfl (show k < 2147483648 by omega) q1, t1, t3, Option.bind_some, ↓cI_of heq]
    by_cases e : Sf.getD k [] = s
    · rw [decide_eq_true e, b2_t, if_neg (show ¬ nI 1 = 0 by decide), if_pos rfl, decide_eq_true hk]
      rfl
    · rw [decide_eq_false e, b2_f, if_pos (show nI 0 = 0 from rfl), if_neg (by decide), show nI k + 1 = nI (k + 1) by rw [u_l1, u_add]]
  · show f_Rules_hasSuffix_b2 _ _ _ _ = _
    unfold f_Rules_hasSuffix_b2
    simp only [↓fx_bc, h1]
    rw [if_pos (nI_le (Nat.le_refl _) (by omega)), decide_eq_false (by omega)]
    rfl
  · unfold nf fi
    rw [Nat.sub_zero]
    cases hsr : sr (fun k => decide (Sf.getD k [] = s)) Sf.length 0 with
    | none =>
      simp only
      rw [decide_eq_false (by omega)]
      rfl
    | some j =>
      have := sr_some hsr
      simp only
      rw [decide_eq_true (by omega)]
      rfl
theorem c_findEnding {En : List ((List Nat × List Nat) × Option Nat)} (h1 : F.1 505 = nI En.length) (hl : En.length ≤ 8) (hp : erow σ b F En) {a a2 : Nat} {s s2 : List Nat} (hs : sx σ b a s) (hs2 : sx σ b a2 s2) : f_Rules_findEnding (some (fx_ad b 5)) (some a) (some a2) (fx_mk σ b F) = some (some (.int (oi (x_eidx En (s, s2)))), fx_mk σ b F) := by
  unfold f_Rules_findEnding
  refine (it_fim2 (body := fun z : Int32 × rb_St => f_Rules_findEnding_b2 (some (fx_ad b 5)) (some a) (some a2) z.1 z.2) (n := En.length) (s0 := fx_mk σ b F) (fun k => decide ((En.getD k (([], []), none)).1 = (s, s2))) (fun k => some (some (.int (if k < En.length then nI k else -1)), fx_mk σ b F)) ?_ ?_ (k := 0) (Nat.zero_le _)).trans ?_
  · intro k hk
    obtain ⟨p, q, q1, q2, q3, q4⟩ := hp k hk
    obtain ⟨u1, t1, t2, v1, t3⟩ := p_tx q2
    obtain ⟨u2, r1, r2, v2, r3⟩ := p_tx q4
    have heq := c_equals (F := F) t2 hs
    have heq2 := c_equals (F := F) r2 hs2
    show f_Rules_findEnding_b2 _ _ _ _ _ = _
    unfold f_Rules_findEnding_b2
    simp (disch := omega) only [↓fx_bc, h1, u_le, n_leF, if_false, ↓bR_of rfl (show k < 2147483648 by omega) q1, t1, t3, Option.bind_some, ↓cI_of heq]
    by_cases e : (En.getD k (([], []), none)).1.1 = s
    · rw [decide_eq_true e, b2_t, if_neg (show ¬ nI 1 = 0 by decide)]
      simp (disch := omega) only [↓fx_bc, ↓bR_of rfl (show k < 2147483648 by omega) q3, r1, r3, Option.bind_some, ↓cI_of heq2]
      by_cases e2 : (En.getD k (([], []), none)).1.2 = s2
      · rw [decide_eq_true e2, b2_t, if_neg (show ¬ nI 1 = 0 by decide), if_pos (decide_eq_true (Prod.ext e e2)), if_pos hk]
      · rw [decide_eq_false e2, b2_f, if_pos (show nI 0 = 0 from rfl), if_neg (show ¬ decide ((En.getD k (([], []), none)).1 = (s, s2)) = true by intro h; exact e2 (congrArg Prod.snd (of_decide_eq_true h))), show nI k + 1 = nI (k + 1) by rw [u_l1, u_add]]
    · rw [decide_eq_false e, b2_f, if_pos (show nI 0 = 0 from rfl), if_neg (show ¬ decide ((En.getD k (([], []), none)).1 = (s, s2)) = true by intro h; exact e (congrArg Prod.fst (of_decide_eq_true h))), show nI k + 1 = nI (k + 1) by rw [u_l1, u_add]]
  · show f_Rules_findEnding_b2 _ _ _ _ _ = _
    unfold f_Rules_findEnding_b2
    simp only [↓fx_bc, h1]
    rw [if_pos (nI_le (Nat.le_refl _) (by omega)), if_neg (by omega)]
  · unfold x_eidx fi
    rw [Nat.sub_zero]
    cases hsr : sr (fun k => decide ((En.getD k (([], []), none)).1 = (s, s2))) En.length 0 with
    | none =>
      simp only
      rw [if_neg (by omega)]
      rfl
    | some j =>
      have := sr_some hsr
      simp only
      rw [if_pos (by omega)]
      rfl
theorem c_newPhrase (hk : kx σ b) {s : Nat} {v : List Nat} (hs : sx σ b s v) : ∃ σ', (∀ G : fx_F, f_Phrase_init (rb_n (fx_mk σ b G)) (some s) (rb_nO (fx_mk σ b G) 10) = some (none, fx_mk σ' b G)) ∧ ph σ' b (rb_n σ) v ∧ hn σ σ' ∧ gw 1 1 σ σ' ∧ ∀ (G : fx_F) (o i : Nat), o < 83 → fx_t o = 111 → i < (G.2.2.2.2 o).length → i < 2147483648 → rb_sR (fx_mk σ' b G) (some (fx_ad b o)) 111 (nI i) (some (rb_n σ)) = some (fx_mk σ' b (fx_Q G o ((G.2.2.2.2 o).set i (some (rb_n σ))))) := by
  have hkn := hk.2.1
  have hkb := hk.1
  have hA : wx b (rb_n σ) := fun h => by omega
  generalize hσ1 : nwc σ (10, rb_df 10) (rb_nS 10) = σ1
  have hn1 : rb_n σ1 = rb_n σ + 1 := by subst hσ1; rfl
  have hb1 : rb_b σ1 = rb_b σ := by subst hσ1; rfl
  have hs1 : rb_s σ1 = rb_s σ + 1 := by subst hσ1; rfl
  have h01 : hn σ σ1 := by subst hσ1; exact hn_nwc _ _ _
  have c1 : σ1.1 (rb_n σ) = (10, rb_df 10) := by subst hσ1; exact nwc_at _ _
  have p1 := fun G : fx_F => fo_pR (F := G) (r := some s) (k := 0) hA (show rb_b σ1 ≤ rb_n σ by omega) c1 (by decide)
  generalize hσ2 : upc σ1 (rb_n σ) (10, (rb_df 10).set 0 (va_rf (some s))) = σ2 at p1
  have c2 : σ2.1 (rb_n σ) = (10, [.ref s]) := by subst hσ2; exact upc_at _ _
  have h02 : hn σ σ2 := by subst hσ2; exact hn_upc h01 (Nat.le_refl _)
  have hn2 : rb_n σ2 = rb_n σ + 1 := by subst hσ2; exact hn1
  have hb2 : rb_b σ2 = rb_b σ := by subst hσ2; exact hb1
  have hs2 : rb_s σ2 = rb_s σ + 1 := by subst hσ2; exact hs1
  refine ⟨σ2, fun G => ?_, ⟨hA, by omega, s, c2, sx_hx hs h02.1⟩, h02, ⟨by omega, by omega⟩, fun G o i ho hot hi hi2 => ?_⟩
  · unfold f_Phrase_init
    rw [fx_nO hkn, hσ1]
    show (rb_pR (fx_mk σ1 b G) (some (rb_n σ)) 10 0 (some s)).bind _ = _
    rw [p1]
    rfl
  · have htag : ∀ a, some (rb_n σ) = some a → ((fx_mk σ2 b G).1 a).1 = rb_ce 111 := fun a ha => by
      injection ha with ha
      subst ha
      rw [fx_out hA, c2]
      rfl
    rw [fx_sR ho hot (by decide) (by omega) htag, u_cl hi2, if_pos ⟨by rw [u_l0, u_lt (by omega) (by omega)]; omega, by omega⟩]
theorem c_addSuffix (hk : kx σ b) (hF : fx_ln F) {Sf : List (List Nat)} (h1 : F.1 501 = nI Sf.length) (hl : Sf.length ≤ 6) (hp : prow σ b F 6 Sf) {a : Nat} {s : List Nat} (hs : sx σ b a s) : ∃ σ' F', f_Rules_addSuffix (some (fx_ad b 5)) (some a) (fx_mk σ b F) = some (some (.int (nI (b2 ((nf Sf s).isSome || decide (¬ Sf.length = 6))))), fx_mk σ' b F') ∧ hn σ σ' ∧ gw 1 1 σ σ' ∧ cf [501] [] [] [6] F F' ∧ fx_ln F' ∧ F'.1 501 = nI (if (nf Sf s).isSome = true ∨ Sf.length = 6 then Sf else Sf ++ [s]).length ∧ prow σ' b F' 6 (if (nf Sf s).isSome = true ∨ Sf.length = 6 then Sf else Sf ++ [s]) := by
  have hhas := c_hasSuffix h1 hl hp hs
  unfold f_Rules_addSuffix
  simp only [↓fx_bc, ↓cI_of hhas]
  cases hn0 : (nf Sf s).isSome with
  | true =>
    rw [b2_t, if_neg (show ¬ nI 1 = 0 by decide), if_pos (show true = true ∨ Sf.length = 6 from Or.inl rfl)]
    exact ⟨σ, F, rfl, hn_refl _, gw_mono (gw_refl _) (by decide) (by decide), cf_refl _ _ _ _ _, hF, h1, hp⟩
  | false =>
    rw [b2_f, if_pos (show nI 0 = 0 from rfl)]
    simp only [↓fx_bc, h1]
    by_cases e6 : Sf.length = 6
    · rw [if_pos (show nI Sf.length = (6 : Int32) by rw [e6]; rfl), if_pos (show false = true ∨ Sf.length = 6 from Or.inr e6)]
      refine ⟨σ, F, ?_, hn_refl _, gw_mono (gw_refl _) (by decide) (by decide), cf_refl _ _ _ _ _, hF, h1, hp⟩
      rw [decide_eq_false (show ¬ ¬ Sf.length = 6 by simpa using e6)]
      rfl
    · obtain ⟨σ1, a1, a2, a3, a4, a5⟩ := c_newPhrase hk hs
      have hl6 := hF.2.2 6
      simp only [fx_cR] at hl6
      rw [if_neg (show ¬ nI Sf.length = (6 : Int32) by rw [u_l6, u_eq (by omega) (by omega)]; exact e6), if_neg (show ¬ (false = true ∨ Sf.length = 6) by rintro (h | h); cases h; exact e6 h)]
      have a5' := a5 F 6 Sf.length (by decide) rfl (by omega) (by omega)
      refine ⟨σ1, fx_I (fx_Q F 6 ((F.2.2.2.2 6).set Sf.length (some (rb_n σ)))) 501 (nI (Sf.length + 1)), ?_, a3, a4, cf_I (cf_Q (cf_refl _ _ _ _ _) (by decide)) (by decide), fx_lnI (fx_lnQ hF (by rw [List.length_set]; exact hF.2.2 6)), by rw [fx_I_1, if_pos rfl, List.length_append, List.length_cons, List.length_nil], fun i hi => ?_⟩
      · rw [cV_of (a1 F)]
        have hb1 : rb_b σ1 ≤ b := by rw [a3.1.2.1]; exact hk.1
        have a5'' : rb_sR (fx_mk σ1 b F) (some (fx_ad b 6)) 111 (nI Sf.length) (some (rb_n (fx_mk σ b F))) = _ := a5'
        rw [a5'', Option.bind_some]
        simp only [↓fx_bc, ↓fx_vc hb1, fx_Q_1, h1, u_l1, u_add]
        rw [decide_eq_true e6]
        rfl
      · rw [List.length_append, List.length_cons, List.length_nil] at hi
        rw [fx_I_Q, fx_Q_Q, if_pos rfl, set_get (by omega)]
        by_cases e : i = Sf.length
        · exact ⟨rb_n σ, by rw [if_pos e], by rw [e, getD_push]; exact a2⟩
        · obtain ⟨p, q1, q2⟩ := hp i (by omega)
          exact ⟨p, by rw [if_neg e]; exact q1, by rw [getD_pushl (by omega)]; exact ph_hx q2 a3.1⟩
end
