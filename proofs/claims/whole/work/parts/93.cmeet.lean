/-! the class: a name is met -/
/-- the numbers of a new name -/
def nI0 (k f : Nat) : Int32 := if f = 0 then nI k else if f = 9 then -1 else if f = 12 then -1 else 0
/-- the store goes on: the names stay, new ones are new -/
def nxt (N : List (List Nat)) (ad : Nat → Nat) (I : Nat → Nat → Int32) (src : Nat → Option Nat) (N' : List (List Nat)) (ad' : Nat → Nat) (I' : Nat → Nat → Int32) (src' : Nat → Option Nat) : Prop := N.length ≤ N'.length ∧ (∀ k, k < N.length → N'.getD k [] = N.getD k [] ∧ ad' k = ad k ∧ I' k = I k ∧ src' k = src k) ∧ (∀ k, N.length ≤ k → k < N'.length → I' k = nI0 k ∧ src' k = none)
theorem nxt_refl (N : List (List Nat)) (ad : Nat → Nat) (I : Nat → Nat → Int32) (src : Nat → Option Nat) : nxt N ad I src N ad I src := ⟨Nat.le_refl _, fun _ _ => ⟨rfl, rfl, rfl, rfl⟩, fun k h1 h2 => absurd h2 (by omega)⟩
theorem nxt_trans {N ad I src N1 ad1 I1 src1 N2 ad2 I2 src2} (h1 : nxt N ad I src N1 ad1 I1 src1) (h2 : nxt N1 ad1 I1 src1 N2 ad2 I2 src2) : nxt N ad I src N2 ad2 I2 src2 := by
  refine ⟨Nat.le_trans h1.1 h2.1, fun k hk => ?_, fun k hk hk2 => ?_⟩
  · obtain ⟨a1, a2, a3, a4⟩ := h1.2.1 k hk
    obtain ⟨b1, b2, b3, b4⟩ := h2.2.1 k (Nat.lt_of_lt_of_le hk h1.1)
    exact ⟨b1.trans a1, b2.trans a2, b3.trans a3, b4.trans a4⟩
  · by_cases e : k < N1.length
    · obtain ⟨a1, a2⟩ := h1.2.2 k hk e
      obtain ⟨b1, b2, b3, b4⟩ := h2.2.1 k e
      exact ⟨b3.trans a1, b4.trans a2⟩
    · exact h2.2.2 k (by omega) hk2
/-- the heap grows with the names -/
def gn (N N' : List (List Nat)) (σ σ' : rb_St) : Prop := gw (4 * (N'.length - N.length)) (40 * (N'.length - N.length)) σ σ'
theorem gn_trans {N N1 N2 : List (List Nat)} {σ σ1 σ2 : rb_St} (h1 : gn N N1 σ σ1) (h2 : gn N1 N2 σ1 σ2) (l1 : N.length ≤ N1.length) (l2 : N1.length ≤ N2.length) : gn N N2 σ σ2 := gw_mono (gw_trans h1 h2) (by omega) (by omega)
/-- what meeting a name changes of the fixed cells -/
def nch (F F' : fx_F) : Prop := (∀ z, z ≠ 301 → F'.1 z = F.1 z) ∧ F'.2.1 = F.2.1 ∧ F'.2.2.1 = F.2.2.1 ∧ F'.2.2.2.1 = F.2.2.2.1 ∧ ∀ o, o ≠ 4 → F'.2.2.2.2 o = F.2.2.2.2 o
theorem nch_refl (F : fx_F) : nch F F := ⟨fun _ _ => rfl, rfl, rfl, rfl, fun _ _ => rfl⟩
theorem nch_trans {F G H : fx_F} (h1 : nch F G) (h2 : nch G H) : nch F H := ⟨fun z hz => (h2.1 z hz).trans (h1.1 z hz), h2.2.1.trans h1.2.1, h2.2.2.1.trans h1.2.2.1, h2.2.2.2.1.trans h1.2.2.2.1, fun o ho => (h2.2.2.2.2 o ho).trans (h1.2.2.2.2 o ho)⟩
theorem tw_nch {F F' : fx_F} {o : Nat} (ho : tO o) {l : List Nat} (h : tw F o l) (hf : nch F F') : tw F' o l := by
  unfold tw at *
  rw [hf.1 _ (by rcases ho with h | h | h | h | h | h <;> subst h <;> decide), hf.2.1]
  exact h
section
variable {σ : rb_St} {b : Nat} {F : fx_F} {N : List (List Nat)} {ad : Nat → Nat} {I : Nat → Nat → Int32} {src : Nat → Option Nat}
theorem c_meet (hN : nok N) (hF : fx_ln F) (hk : kx σ b) (h : nx σ b F N ad I src) {o : Nat} (ho : tO o) {l : List Nat} (ht : tw F o l) (hc : ∀ c, c ∈ l → c < 128) {p q : Nat} (hpq : p ≤ q) (hq : q ≤ l.length) : ∃ σ' F' ad' I' src', f_Store_meet (some (fx_ad b 3)) (some (fx_ad b o)) (nI p) (nI q) (fx_mk σ b F) = some (some (va_rf ((nmeet N (slc l p q)).1.map ad')), fx_mk σ' b F') ∧ nx σ' b F' (nmeet N (slc l p q)).2 ad' I' src' ∧ nxt N ad I src (nmeet N (slc l p q)).2 ad' I' src' ∧ hn σ σ' ∧ gn N (nmeet N (slc l p q)).2 σ σ' ∧ nch F F' ∧ fx_ln F' := by
  have h32 := hN.1
  have hc2 : ∀ c, c ∈ l → c < 65536 := fun c h => Nat.lt_trans (hc c h) (by decide)
  have hkb := hk.1
  have hkn := hk.2.1
  have hfind := c_find (σ := σ) (b := b) hN hF h ho ht hc2 hpq hq
  have hisn := c_isName (σ := σ) (b := b) ho hF ht hc2 hpq hq
  have hlen := slc_len (p := p) hq
  unfold nmeet f_Store_meet
  cases hf : nf N (slc l p q) with
  | some k =>
    rw [hf] at hfind
    refine ⟨σ, F, ad, I, src, ?_, h, nxt_refl _ _ _ _, hn_refl _, gw_mono (gw_refl _) (Nat.zero_le _) (Nat.zero_le _), nch_refl _, hF⟩
    simp only [↓fx_bc, ↓cR_of hfind]
    rw [if_neg (by simp)]
  | none =>
    rw [hf] at hfind
    simp only
    by_cases hfull : N.length = 32
    · rw [if_neg (by omega)]
      refine ⟨σ, F, ad, I, src, ?_, h, nxt_refl _ _ _ _, hn_refl _, gw_mono (gw_refl _) (Nat.zero_le _) (Nat.zero_le _), nch_refl _, hF⟩
      have h1 := h.1
      rw [hfull] at h1
      simp only [↓fx_bc, ↓cR_of hfind]
      rw [if_pos (show Option.map ad none = none from rfl)]
      simp (disch := omega) only [↓fx_bc, h1, u_l32, ↓reduceIte, n_ltT, n_ltF, n_leT, n_leF, n_eqT, n_eqF, nI_1, u_lt, u_le, u_eq, u_add, u_ix, u_ixL, u_ixR, u_cl, u_nm1, u_nm1', u_m1l, u_m1n, u_l0, Option.bind_some, Option.map_some, not_true_eq_false, not_false_eq_true, true_and, and_true, Nat.add_sub_cancel, Bool.false_eq_true, u_nar2]
    · by_cases hsn : sp_name (slc l p q) = true
      · rw [if_pos ⟨hsn, by omega⟩]
        rw [hsn, b2_t] at hisn
        have h8 := sp_name_ok hsn
        generalize hσ1 : nwc σ (12, rb_df 12) (rb_nS 12) = σ1
        have hn1 : rb_n σ1 = rb_n σ + 1 := by subst hσ1; rfl
        have hs1 : rb_s σ1 = rb_s σ + 16 := by subst hσ1; rfl
        have hb1 : rb_b σ1 = rb_b σ := by subst hσ1; rfl
        have hn01 : hn σ σ1 := by subst hσ1; exact hn_nwc _ _ _
        have c1 : σ1.1 (rb_n σ) = (12, rb_df 12) := by subst hσ1; exact nwc_at _ _
        obtain ⟨σ2, s, a1, a2, a3, a4⟩ := c_cut (σ := σ1) (b := b) ho hF (kx_hx hk hn01.1) ht hc hpq hq
        have hA : wx b (rb_n σ) := fun h => by omega
        have c2 : σ2.1 (rb_n σ) = (12, rb_df 12) := by rw [a3.2 _ (by omega)]; exact c1
        have hb2 : rb_b σ2 = rb_b σ := a3.1.2.1.trans hb1
        have hn2 := a3.1.1
        -- the new name's numbers
        have p1 := fo_pI (F := F) (x := (-1 : Int32)) (k := 9) hA (show rb_b σ2 ≤ rb_n σ by omega) c2 (by decide)
        generalize hσ3 : upc σ2 (rb_n σ) (12, (rb_df 12).set 9 (.int (-1))) = σ3 at p1
        have c3 : σ3.1 (rb_n σ) = (12, (rb_df 12).set 9 (.int (-1))) := by subst hσ3; exact upc_at _ _
        have hb3 : rb_b σ3 = rb_b σ := by subst hσ3; exact hb2
        have p2 := fo_pI (F := F) (x := (-1 : Int32)) (k := 12) hA (show rb_b σ3 ≤ rb_n σ by omega) c3 (by rw [List.length_set]; decide)
        generalize hσ4 : upc σ3 (rb_n σ) (12, ((rb_df 12).set 9 (.int (-1))).set 12 (.int (-1))) = σ4 at p2
        have c4 : σ4.1 (rb_n σ) = (12, ((rb_df 12).set 9 (.int (-1))).set 12 (.int (-1))) := by subst hσ4; exact upc_at _ _
        have hb4 : rb_b σ4 = rb_b σ := by subst hσ4; exact hb3
        have p3 := fo_pI (F := F) (x := nI N.length) (k := 0) hA (show rb_b σ4 ≤ rb_n σ by omega) c4 (by rw [List.length_set, List.length_set]; decide)
        generalize hσ5 : upc σ4 (rb_n σ) (12, (((rb_df 12).set 9 (.int (-1))).set 12 (.int (-1))).set 0 (.int (nI N.length))) = σ5 at p3
        have c5 : σ5.1 (rb_n σ) = (12, (((rb_df 12).set 9 (.int (-1))).set 12 (.int (-1))).set 0 (.int (nI N.length))) := by subst hσ5; exact upc_at _ _
        have hb5 : rb_b σ5 = rb_b σ := by subst hσ5; exact hb4
        have p4 := fo_pR (F := F) (r := some s) (k := 1) hA (show rb_b σ5 ≤ rb_n σ by omega) c5 (by rw [List.length_set, List.length_set, List.length_set]; decide)
        have hrow : ((((rb_df 12).set 9 (.int (-1))).set 12 (.int (-1))).set 0 (.int (nI N.length))).set 1 (va_rf (some s)) = nrow (nI0 N.length) s none := rfl
        rw [hrow] at p4
        generalize hσ6 : upc σ5 (rb_n σ) (12, nrow (nI0 N.length) s none) = σ6 at p4
        have c6 : σ6.1 (rb_n σ) = (12, nrow (nI0 N.length) s none) := by subst hσ6; exact upc_at _ _
        have hinit : f_Name_init (rb_n σ) (nI N.length) (some s) (fx_mk σ2 b F) = some (none, fx_mk σ6 b F) := by
          unfold f_Name_init
          rw [p1, Option.bind_some, p2, Option.bind_some, p3, Option.bind_some, p4, Option.bind_some]
        have hold : ∀ a, a ≠ rb_n σ → σ6.1 a = σ2.1 a := fun a ha => by
          subst hσ6; subst hσ5; subst hσ4; subst hσ3
          rw [upc_ne ha, upc_ne ha, upc_ne ha, upc_ne ha]
        have htail : σ6.2 = σ2.2 := by
          subst hσ6; subst hσ5; subst hσ4; subst hσ3
          rfl
        have hb6 : rb_b σ6 = rb_b σ := by show σ6.2.1 = _; rw [htail]; exact hb2
        have hn6 : rb_n σ6 = rb_n σ2 := by show σ6.2.2.1 = _; rw [htail]
        have hs6 : rb_s σ6 = rb_s σ2 := by show σ6.2.2.2.1 = _; rw [htail]
        have hk6 : rb_k σ6 = rb_k σ := by show σ6.2.2.2.2 = _; rw [htail]; exact a3.1.2.2.1.trans hn01.1.2.2.1
        have hoc : ∀ a, a < rb_n σ → σ6.1 a = σ.1 a := fun a ha => by
          rw [hold a (by omega), a3.2 a (by omega), hn01.2 a ha]
        have hn06 : hn σ σ6 := ⟨⟨by omega, hb6, hk6, fun a ha _ => hoc a ha⟩, hoc⟩
        have hsx6 : sx σ6 b s (slc l p q) := by
          obtain ⟨q1, q2, v, rest, q3, q4, q5, q6, q7⟩ := a2
          have hsne : s ≠ rb_n σ := fun e => by
            rw [e, c2] at q5
            injection q5 with q5 _
            exact absurd q5 (by decide)
          have hvne : v ≠ rb_n σ := fun e => by
            rw [e, c2] at q6
            injection q6 with q6 _
            exact absurd q6 (by decide)
          exact ⟨q1, by omega, v, rest, q3, by omega, by rw [hold s hsne]; exact q5, by rw [hold v hvne]; exact q6, q7⟩
        have hQ4 : (F.2.2.2.2 4).length = 32 := hF.2.2 4
        generalize hF1 : fx_I (fx_Q F 4 ((F.2.2.2.2 4).set N.length (some (rb_n σ)))) 301 (nI (N.length + 1)) = F1
        have hln1 : fx_ln F1 := by
          subst hF1
          exact fx_lnI (fx_lnQ hF (by rw [List.length_set]; exact hF.2.2 4))
        have hnch : nch F F1 := by
          subst hF1
          refine ⟨fun z hz => by rw [fx_I_1, if_neg hz]; rfl, rfl, rfl, rfl, fun o ho => ?_⟩
          rw [fx_I_Q, fx_Q_Q, if_neg ho]
        have hx6 : nx σ6 b F N ad I src := nx_hn h hn06
        refine ⟨σ6, F1, up1 ad N.length (rb_n σ), up1 I N.length (nI0 N.length), up1 src N.length none, ?_, ⟨?_, fun k hk => ?_, fun i j hi hj hij => ?_⟩, ⟨?_, fun k hk => ?_, fun k hk1 hk2 => ?_⟩, hn06, ⟨?_, ?_⟩, hnch, hln1⟩
        · have hcut : f_Text_cut (some (fx_ad b o)) (nI p) (nI q) (rb_nO (fx_mk σ b F) 12) = some (some (va_rf (some s)), fx_mk σ2 b F) := by
            rw [fx_nO hkn, hσ1]
            exact a1
          have hg1 : ∀ K : Int32 → Option rb_Rs, (rb_gI (rb_nO (fx_mk σ b F) 12) (some (fx_ad b 3)) 3 1).bind K = K (nI N.length) := fun K => by
            rw [fx_nO hkn, hσ1]
            simp only [↓fx_bc, h.1]
          have hg2 : ∀ K : List Value → Option rb_Rs, (rb_fc (rb_nO (fx_mk σ b F) 12) (some (fx_ad b o)) 2).bind K = K (fx_row b F o) := fun K => by
            rw [fx_nO hkn, hσ1]
            simp only [↓t_b ho]
          have hsr : rb_sR (fx_mk σ6 b F) (some (fx_ad b 4)) 112 (nI N.length) (some (rb_n σ)) = some (fx_mk σ6 b (fx_Q F 4 ((F.2.2.2.2 4).set N.length (some (rb_n σ))))) := by
            have htag : ∀ a, some (rb_n σ) = some a → ((fx_mk σ6 b F).1 a).1 = rb_ce 112 := fun a ha => by
              injection ha with ha
              subst ha
              rw [fx_out hA, c6]
              rfl
            rw [fx_sR (o := 4) (t := 112) (by decide) rfl (by decide) (by omega) htag, u_cl (by omega), if_pos ⟨by rw [u_l0, u_lt (by omega) (by omega)]; omega, by omega⟩]
          have hinit' : f_Name_init (rb_n (fx_mk σ b F)) (nI N.length) (some s) (fx_mk σ2 b F) = some (none, fx_mk σ6 b F) := hinit
          have hsr' : rb_sR (fx_mk σ6 b F) (some (fx_ad b 4)) 112 (nI N.length) (some (rb_n (fx_mk σ b F))) = some (fx_mk σ6 b (fx_Q F 4 ((F.2.2.2.2 4).set N.length (some (rb_n σ))))) := hsr
          simp only [↓fx_bc, ↓cR_of hfind]
          rw [if_pos (show Option.map ad none = none from rfl)]
          rw [h.1, if_neg (show ¬ nI N.length = 32 by rw [u_l32, u_eq (by omega) (by omega)]; exact hfull)]
          simp only [↓t_b ho, ↓cI_of hisn]
          rw [if_neg (show ¬ nI 1 = 0 by decide), hg1, hg2, cR_of hcut, cV_of hinit']
          simp only [↓fx_bc, h.1]
          rw [hsr', Option.bind_some]
          subst hF1
          have hbb6 : rb_b σ6 ≤ b := by omega
          simp (disch := omega) only [↓fx_bc, ↓fx_vc hbb6, fx_Q_1, h.1, ↓reduceIte, n_ltT, n_ltF, n_leT, n_leF, n_eqT, n_eqF, nI_1, u_lt, u_le, u_eq, u_add, u_ix, u_ixL, u_ixR, u_cl, u_nm1, u_nm1', u_m1l, u_m1n, u_l0, Option.bind_some, Option.map_some, not_true_eq_false, not_false_eq_true, true_and, and_true, Nat.add_sub_cancel, Bool.false_eq_true, u_nar2]
          rw [up1_eq]
          rfl
        · subst hF1
          rw [fx_I_1, if_pos rfl, List.length_append, List.length_cons, List.length_nil]
        · rw [List.length_append, List.length_cons, List.length_nil] at hk
          by_cases e : k = N.length
          · subst e
            rw [up1_eq, up1_eq, up1_eq, getD_app_r]
            refine ⟨?_, hA, by omega, by omega, rfl, s, c6, hsx6⟩
            subst hF1
            rw [fx_I_Q, fx_Q_Q, if_pos rfl, set_get (by omega), if_pos rfl]
          · rw [up1_ne e, up1_ne e, up1_ne e, getD_app_l (by omega)]
            obtain ⟨k1, k2, k3, k4, k5, k6⟩ := hx6.2.1 k (by omega)
            refine ⟨?_, k2, k3, k4, k5, k6⟩
            subst hF1
            rw [fx_I_Q, fx_Q_Q, if_pos rfl, set_get (by omega), if_neg e]
            exact k1
        · rw [List.length_append, List.length_cons, List.length_nil] at hi hj
          by_cases ei : i = N.length
          · by_cases ej : j = N.length
            · omega
            · rw [ei, up1_eq, up1_ne ej] at hij
              have := (h.2.1 j (by omega)).2.2.2.1
              omega
          · by_cases ej : j = N.length
            · rw [ej, up1_eq, up1_ne ei] at hij
              have := (h.2.1 i (by omega)).2.2.2.1
              omega
            · rw [up1_ne ei, up1_ne ej] at hij
              exact h.2.2 i j (by omega) (by omega) hij
        · rw [List.length_append]
          omega
        · have e : k ≠ N.length := by omega
          rw [up1_ne e, up1_ne e, up1_ne e, getD_app_l hk]
          exact ⟨rfl, rfl, rfl, rfl⟩
        · rw [List.length_append, List.length_cons, List.length_nil] at hk2
          rw [show k = N.length by omega, up1_eq, up1_eq]
          exact ⟨rfl, rfl⟩
        · have := a4.1
          rw [List.length_append, List.length_cons, List.length_nil]
          omega
        · have := a4.2
          rw [List.length_append, List.length_cons, List.length_nil]
          omega
      · rw [if_neg (fun h => hsn h.1)]
        rw [Bool.eq_false_iff.mpr hsn, b2_f] at hisn
        refine ⟨σ, F, ad, I, src, ?_, h, nxt_refl _ _ _ _, hn_refl _, gw_mono (gw_refl _) (Nat.zero_le _) (Nat.zero_le _), nch_refl _, hF⟩
        simp only [↓fx_bc, ↓cR_of hfind]
        rw [if_pos (show Option.map ad none = none from rfl)]
        simp (disch := omega) only [↓fx_bc, h.1, u_l32, ↓t_b ho, ↓cI_of hisn, ↓reduceIte, n_ltT, n_ltF, n_leT, n_leF, n_eqT, n_eqF, nI_1, u_lt, u_le, u_eq, u_add, u_ix, u_ixL, u_ixR, u_cl, u_nm1, u_nm1', u_m1l, u_m1n, u_l0, Option.bind_some, Option.map_some, not_true_eq_false, not_false_eq_true, true_and, and_true, Nat.add_sub_cancel, Bool.false_eq_true, u_nar2]
end
