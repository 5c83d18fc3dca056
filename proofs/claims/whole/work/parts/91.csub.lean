/-! the class: substrings -/
section
variable {σ : rb_St} {b : Nat} {F : fx_F}
theorem c_sub2 (hk : kx σ b) {a : Nat} {s : List Nat} (hs : sx σ b a s) {p q : Nat} (hpq : p ≤ q) (hq : q ≤ s.length) : ∃ σ' a', f_Str_substring2 (some a) (nI p) (nI q) (fx_mk σ b F) = some (some (va_rf (some a')), fx_mk σ' b F) ∧ sx σ' b a' (slc s p q) ∧ hn σ σ' ∧ gw 2 (s.length + 4) σ σ' := by
  have hs0 := hs
  obtain ⟨h1, h2, v, rest, h3, h4, h5, h6, h7, h8⟩ := hs
  have hlen := c_len (F := F) hs0
  have g2 := fo_fk (F := F) h1 h5
  have g0 : rb_gR (fx_mk σ b F) (some a) 14 0 = some (some v) := fo_gR (r := some v) h1 h5 rfl
  have g1 : rb_gI (fx_mk σ b F) (some a) 14 1 = some 0 := fo_gI h1 h5 rfl
  have g7 : f_Str_isLatin1 (some a) (fx_mk σ b F) = some (some (.int (1 : Int32)), fx_mk σ b F) := by
    unfold f_Str_isLatin1
    rw [if_neg (show ¬ (1 : Int32) = 0 by decide), g1, Option.bind_some, if_pos rfl]
  have hbe : f_Str_checkBoundsBeginEnd (nI p) (nI q) (nI s.length) (fx_mk σ b F) = some (none, fx_mk σ b F) := by
    unfold f_Str_checkBoundsBeginEnd f_Pre_checkFromToIndex
    simp (disch := omega) only [↓reduceIte, n_ltT, n_ltF, n_leT, n_leF, n_eqT, n_eqF, nI_1, u_lt, u_le, u_eq, u_add, u_ix, u_ixL, u_ixR, u_cl, u_nm1, u_nm1', u_m1l, u_m1n, u_l0, Option.bind_some, Option.map_some, not_true_eq_false, not_false_eq_true, true_and, and_true, Nat.add_sub_cancel, Bool.false_eq_true, u_nar2]
    rfl
  have hsl := slc_len (p := p) hq
  have hw128 : ∀ c, c ∈ slc s p q → c < 128 := fun c hcm => by
    obtain ⟨i, _, _, e⟩ := slc_mem hq hcm
    rw [← e]
    exact h7 _ (getD_mem (by omega))
  by_cases hfull : p = 0 ∧ q = s.length
  · refine ⟨σ, a, ?_, ?_, hn_refl _, gw_mono (gw_refl _) (by omega) (by omega)⟩
    · unfold f_Str_substring2
      rw [g2, Option.bind_some, cI_of hlen, cV_of hbe, hfull.1, hfull.2, if_pos (show nI 0 = 0 from rfl), if_pos rfl]
    · rw [hfull.1, hfull.2]
      unfold slc
      rw [List.drop_zero, Nat.sub_zero, List.take_length]
      exact hs0
  · have hgo : f_Str_substring2 (some a) (nI p) (nI q) (fx_mk σ b F) = rb_cR (f_SL_newString (some v) (nI p) (nI (q - p)) (fx_mk σ b F)) fun r_8 σ_9 => some (some (va_rf r_8), σ_9) := by
      unfold f_Str_substring2 f_Str_substring2_j22
      rw [g2, Option.bind_some, cI_of hlen, cV_of hbe]
      have hj : ((some (fx_row b F 0) : Option (List Value)).bind fun _ => rb_cI (f_Str_isLatin1 (some a) (fx_mk σ b F)) fun x_4 σ_5 => if x_4 = 0 then ((rb_gR σ_5 (some a) 14 0).bind fun r_6 => none) else ((rb_gR σ_5 (some a) 14 0).bind fun r_7 => rb_cR (f_SL_newString (r_7) (nI p) ((nI q - nI p)) σ_5) fun r_8 σ_9 => some (some (va_rf r_8), σ_9))) = rb_cR (f_SL_newString (some v) (nI p) (nI (q - p)) (fx_mk σ b F)) fun r_8 σ_9 => some (some (va_rf r_8), σ_9) := by
        rw [Option.bind_some, cI_of g7, if_neg (show ¬ (1 : Int32) = 0 by decide), g0, Option.bind_some, u_sub hpq]
      have hj' : ((rb_fc (fx_mk σ b F) (some a) 14).bind fun _ => rb_cI (f_Str_isLatin1 (some a) (fx_mk σ b F)) fun x_4 σ_5 => if x_4 = 0 then ((rb_gR σ_5 (some a) 14 0).bind fun r_6 => none) else ((rb_gR σ_5 (some a) 14 0).bind fun r_7 => rb_cR (f_SL_newString (r_7) (nI p) ((nI q - nI p)) σ_5) fun r_8 σ_9 => some (some (va_rf r_8), σ_9))) = rb_cR (f_SL_newString (some v) (nI p) (nI (q - p)) (fx_mk σ b F)) fun r_8 σ_9 => some (some (va_rf r_8), σ_9) := by
        rw [g2]
        exact hj
      rw [← hj']
      by_cases hp0 : p = 0
      · rw [if_pos (show nI p = 0 by rw [hp0]; rfl), if_neg (show ¬ nI q = nI s.length by rw [u_eq (by omega) (by omega)]; exact fun e => hfull ⟨hp0, e⟩)]
      · rw [if_neg (show ¬ nI p = 0 by rw [u_l0, u_eq (by omega) (by omega)]; exact hp0)]
    rw [hgo]
    by_cases hz : q - p = 0
    · have hz2 : slc s p q = [] := List.eq_nil_of_length_eq_zero (by omega)
      rw [hz2]
      refine ⟨σ, rb_k σ 0, ?_, hk.2.2 0 (by decide), hn_refl _, gw_mono (gw_refl _) (by omega) (by omega)⟩
      have hn : f_SL_newString (some v) (nI p) (nI (q - p)) (fx_mk σ b F) = some (some (va_rf (some (rb_k σ 0))), fx_mk σ b F) := by
        unfold f_SL_newString
        rw [hz, if_pos (show nI 0 = 0 from rfl)]
        rfl
      rw [cR_of hn]
    · -- a new one
      have hkb := hk.1
      have hkn := hk.2.1
      have hN : wx b (rb_n σ) := fun h => by omega
      generalize hσ1 : nwc σ (14, rb_df 14) (rb_nS 14) = σ1
      have hn1 : rb_n σ1 = rb_n σ + 1 := by subst hσ1; rfl
      have hs1 : rb_s σ1 = rb_s σ + 4 := by subst hσ1; rfl
      have hb1 : rb_b σ1 = rb_b σ := by subst hσ1; rfl
      have hh1 : hn σ σ1 := by subst hσ1; exact hn_nwc _ _ _
      have c1 : σ1.1 (rb_n σ) = (14, rb_df 14) := by subst hσ1; exact nwc_at _ _
      have cv1 : σ1.1 v = (105, s.map (fun c => Value.int (nI c))) := by subst hσ1; rw [nwc_ne (by omega)]; exact h6
      generalize hσ2 : nwc σ1 (105, List.replicate (q - p) (defaultValue (rb_aty 105))) (q - p) = σ2
      have hn2 : rb_n σ2 = rb_n σ + 2 := by subst hσ2; show rb_n σ1 + 1 = _; omega
      have hs2 : rb_s σ2 = rb_s σ + 4 + (q - p) := by subst hσ2; show rb_s σ1 + (q - p) = _; omega
      have hb2 : rb_b σ2 = rb_b σ := by subst hσ2; exact hb1
      have hh2 : hn σ1 σ2 := by subst hσ2; exact hn_nwc _ _ _
      have hD : wx b (rb_n σ1) := fun h => by omega
      have c2 : σ2.1 (rb_n σ1) = (105, List.replicate (q - p) (defaultValue (rb_aty 105))) := by subst hσ2; exact nwc_at _ _
      have cv2 : σ2.1 v = (105, s.map (fun c => Value.int (nI c))) := by subst hσ2; rw [nwc_ne (by omega)]; exact cv1
      have cN2 : σ2.1 (rb_n σ) = (14, rb_df 14) := by subst hσ2; rw [nwc_ne (by omega)]; exact c1
      have hlen2 := fo_len (F := F) h3 cv2
      have hlen1 := fo_len (F := F) h3 cv1
      rw [List.length_map] at hlen2 hlen1
      have hpick : rb_pick (s.map (fun c => Value.int (nI c))) p (q - p) = (slc s p q).map (fun c => Value.int (nI c)) := by
        have := pick_map (row := s.map nI) (p := p) (n := q - p) (by rw [List.length_map]; omega)
        rw [List.map_map] at this
        refine Eq.trans this ?_
        unfold slc
        rw [← List.map_drop, ← List.map_take, List.map_map]
        rfl
      have hfit : ((slc s p q).map (fun c => Value.int (nI c))).all (fun v => fits (rb_aty 105) v) = true := by
        rw [List.all_eq_true]
        intro x hx
        obtain ⟨c, hcm, rfl⟩ := List.mem_map.mp hx
        have hc := hw128 c hcm
        show (decide (-128 ≤ nI c) && decide (nI c ≤ 127)) = true
        have q1 : (-128 : Int32) ≤ nI c := by
          have : ∀ c, c < 128 → (-128 : Int32) ≤ nI c := by decide
          exact this c hc
        have q2 : nI c ≤ (127 : Int32) := by
          rw [show (127 : Int32) = nI 127 from rfl]
          exact nI_le (by omega) (by omega)
        rw [decide_eq_true q1, decide_eq_true q2]
        rfl
      have hcp : rb_cp (fx_mk σ2 b F) (some v) (some (rb_n σ1)) 105 (nI p) (0 : Int32) (nI (q - p)) = some (fx_mk (upc σ2 (rb_n σ1) (105, (slc s p q).map (fun c => Value.int (nI c)))) b F) := by
        unfold rb_cp
        rw [fo_fk h3 cv2]
        simp only [Option.bind_some]
        have hx1 : (fx_mk σ2 b F).1 (rb_n σ1) = σ2.1 (rb_n σ1) := fx_out hD
        rw [hx1, c2, u_cl (by omega), u_cl (by omega), show (0 : Int32).toNatClampNeg = 0 from rfl, hpick]
        rw [if_pos ⟨rfl, by show rb_b σ2 ≤ _; omega, by rw [u_l0, u_lt (by omega) (by omega)]; omega, by decide, by rw [u_l0, u_lt (by omega) (by omega)]; omega, by rw [List.length_map]; omega, by rw [List.length_replicate]; omega, hfit⟩]
        rw [fx_set_out hD, c2]
        have hwr := wr_all ((slc s p q).map (fun c => Value.int (nI c))) [] (List.replicate (q - p) (defaultValue (rb_aty 105))) (by rw [List.length_replicate, List.length_map]; omega)
        rw [List.nil_append, List.nil_append] at hwr
        rw [show ([] : List Value).length = 0 from rfl] at hwr
        rw [hwr]
      generalize hσ3 : upc σ2 (rb_n σ1) (105, (slc s p q).map (fun c => Value.int (nI c))) = σ3 at hcp
      have hn3 : rb_n σ3 = rb_n σ + 2 := by subst hσ3; exact hn2
      have hb3 : rb_b σ3 = rb_b σ := by subst hσ3; exact hb2
      have hs3 : rb_s σ3 = rb_s σ + 4 + (q - p) := by subst hσ3; exact hs2
      have cN3 : σ3.1 (rb_n σ) = (14, rb_df 14) := by subst hσ3; rw [upc_ne (by omega)]; exact cN2
      have c3 : σ3.1 (rb_n σ1) = (105, (slc s p q).map (fun c => Value.int (nI c))) := by subst hσ3; exact upc_at _ _
      have hmn : rb_mn (nI s.length - nI p) (nI q - nI p) = nI (q - p) := by
        rw [u_sub (by omega), u_sub hpq]
        unfold rb_mn
        by_cases e : q - p < s.length - p
        · rw [if_pos (show nI (q - p) < nI (s.length - p) by rw [u_lt (by omega) (by omega)]; exact e)]
        · rw [if_neg (show ¬ nI (q - p) < nI (s.length - p) by rw [u_lt (by omega) (by omega)]; exact e)]
          congr 1
          omega
      have hcl : f_Arr_checkLength (nI p) (nI q) (fx_mk σ1 b F) = some (none, fx_mk σ1 b F) := by
        unfold f_Arr_checkLength
        simp (disch := omega) only [u_sub, ↓reduceIte, n_ltT, n_ltF, n_leT, n_leF, n_eqT, n_eqF, nI_1, u_lt, u_le, u_eq, u_add, u_ix, u_ixL, u_ixR, u_cl, u_nm1, u_nm1', u_m1l, u_m1n, u_l0, Option.bind_some, Option.map_some, not_true_eq_false, not_false_eq_true, true_and, and_true, Nat.add_sub_cancel, Bool.false_eq_true, u_nar2]
      have hcr : f_Arr_copyOfRange (some v) (nI p) (nI p + nI (q - p)) (fx_mk σ1 b F) = some (some (va_rf (some (rb_n σ1))), fx_mk σ3 b F) := by
        rw [u_add, show p + (q - p) = q by omega]
        have hbyte : f_Arr_copyOfRangeByte (some v) (nI p) (nI q) (fx_mk σ1 b F) = some (some (va_rf (some (rb_n σ1))), fx_mk σ3 b F) := by
          unfold f_Arr_copyOfRangeByte
          rw [cV_of hcl, u_sub hpq, fx_nA (by omega) (by omega), hσ2, Option.bind_some, hlen2, Option.bind_some]
          rw [u_sub hpq] at hmn
          rw [hmn]
          have hcp' : rb_cp (fx_mk σ2 b F) (some v) (some (rb_n (fx_mk σ1 b F))) 105 (nI p) (0 : Int32) (nI (q - p)) = some (fx_mk σ3 b F) := hcp
          rw [hcp', Option.bind_some]
          rfl
        unfold f_Arr_copyOfRange f_Arr_copyOfRange_j10
        rw [cR_of hbyte]
        by_cases hp0 : p = 0
        · rw [if_pos (show nI p = 0 by rw [hp0]; rfl), hlen1, Option.bind_some, if_neg (show ¬ nI q = nI s.length by rw [u_eq (by omega) (by omega)]; exact fun e => hfull ⟨hp0, e⟩)]
        · rw [if_neg (show ¬ nI p = 0 by rw [u_l0, u_eq (by omega) (by omega)]; exact hp0)]
      have p1 := fo_pR (F := F) (k := 0) (r := some (rb_n σ1)) hN (show rb_b σ3 ≤ rb_n σ by omega) cN3 (by decide)
      generalize hσ4 : upc σ3 (rb_n σ) (14, (rb_df 14).set 0 (va_rf (some (rb_n σ1)))) = σ4 at p1
      have cN4 : σ4.1 (rb_n σ) = (14, (rb_df 14).set 0 (va_rf (some (rb_n σ1)))) := by subst hσ4; exact upc_at _ _
      have p2 := fo_pB (F := F) (k := 1) hN (show rb_b σ4 ≤ rb_n σ by subst hσ4; show rb_b σ3 ≤ _; omega) cN4 (by rw [List.length_set]; decide)
      refine ⟨upc σ4 (rb_n σ) (14, ((rb_df 14).set 0 (va_rf (some (rb_n σ1)))).set 1 (.int (nI 0))), rb_n σ, ?_, ?_, ?_, ?_⟩
      · have hi3 : f_Str_init3 (rb_n σ) (some (rb_n σ1)) (0 : Int32) (fx_mk σ3 b F) = some (none, fx_mk (upc σ4 (rb_n σ) (14, ((rb_df 14).set 0 (va_rf (some (rb_n σ1)))).set 1 (.int (nI 0)))) b F) := by
          unfold f_Str_init3
          have p2' : rb_pB (fx_mk σ4 b F) (some (rb_n σ)) 14 1 (0 : Int32) = _ := p2
          rw [p1, Option.bind_some, p2', Option.bind_some]
        have hns : f_SL_newString (some v) (nI p) (nI (q - p)) (fx_mk σ b F) = some (some (va_rf (some (rb_n σ))), fx_mk (upc σ4 (rb_n σ) (14, ((rb_df 14).set 0 (va_rf (some (rb_n σ1)))).set 1 (.int (nI 0)))) b F) := by
          unfold f_SL_newString
          rw [if_neg (show ¬ nI (q - p) = 0 by rw [u_l0, u_eq (by omega) (by omega)]; exact hz), fx_nO hkn, hσ1, cR_of hcr]
          have hi3' : f_Str_init3 (rb_n (fx_mk σ b F)) (some (rb_n σ1)) (0 : Int32) (fx_mk σ3 b F) = _ := hi3
          rw [cV_of hi3']
          rfl
        rw [cR_of hns]
      · refine ⟨hN, ?_, rb_n σ1, [.int 0, .int 0], hD, ?_, ?_, ?_, hw128, by omega⟩
        · subst hσ4
          show rb_n σ < rb_n σ3
          omega
        · subst hσ4
          show rb_n σ1 < rb_n σ3
          omega
        · rw [upc_at]
          rfl
        · rw [upc_ne (by omega)]
          subst hσ4
          rw [upc_ne (by omega)]
          exact c3
      · have hh3 : hn σ σ3 := by
          subst hσ3
          exact hn_upc (hn_trans hh1 hh2) (by omega)
        subst hσ4
        exact hn_upc (hn_upc hh3 (Nat.le_refl _)) (Nat.le_refl _)
      · subst hσ4
        refine ⟨?_, ?_⟩
        · show rb_n σ3 ≤ _
          omega
        · show rb_s σ3 ≤ _
          omega
theorem c_sub (hk : kx σ b) {a : Nat} {s : List Nat} (hs : sx σ b a s) {p : Nat} (hp : p ≤ s.length) : ∃ σ' a', f_Str_substring (some a) (nI p) (fx_mk σ b F) = some (some (va_rf (some a')), fx_mk σ' b F) ∧ sx σ' b a' (s.drop p) ∧ hn σ σ' ∧ gw 2 (s.length + 4) σ σ' := by
  obtain ⟨σ', a', e1, e2, e3, e4⟩ := c_sub2 (F := F) hk hs hp (Nat.le_refl _)
  have hd : slc s p s.length = s.drop p := by
    unfold slc
    rw [List.take_of_length_le (by rw [List.length_drop]; omega)]
  rw [hd] at e2
  refine ⟨σ', a', ?_, e2, e3, e4⟩
  have hlen := c_len (F := F) hs
  obtain ⟨v, rest, k1, k2, k3, k4, k5, k6⟩ := hs.2.2
  have hfc := fo_fk (F := F) hs.1 k3
  unfold f_Str_substring
  rw [hfc, Option.bind_some, cI_of hlen, hfc, Option.bind_some, cR_of e1]
end
