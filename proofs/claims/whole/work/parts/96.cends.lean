/-! the class: ends of words are changed -/
theorem neg_lt {a b k : Nat} (h : a < b) (hb : b < 2147483648) (hk : k < 2147483648) : nI a - nI b < nI k := by
  have h1 := u_negl h hb
  rw [Int32.lt_iff_toInt_lt] at h1 ⊢
  have h2 : (0 : Int32).toInt = 0 := rfl
  have h3 : (0 : Int32) ≤ nI k := by
    rw [u_l0]
    exact nI_le (Nat.zero_le _) hk
  rw [Int32.le_iff_toInt_le] at h3
  omega
section
variable {σ : rb_St} {b : Nat} {F : fx_F}
/-- the end of a word stands before y -/
theorem c_wordEnd (hb : rb_b σ ≤ b) {a : Nat} {s : List Nat} (hs : sx σ b a s) (hs1 : s.length ≤ 1000) {i e cl : Nat} (hie : i ≤ e) (hec : e + 1 ≤ cl) (hcl : cl ≤ s.length) {O w y : List Nat} (hF : fx_ln F) (h : tw F 14 (O ++ w ++ y)) (hc : ∀ c, c ∈ O ++ w ++ y → c < 128) {r : Nat} (hr : r = y.length) : ∃ F', (O.length + (fw (slc s i e) (slc s (e + 1) cl) w).length + y.length ≤ 120 → f_Exp_replaceEnds_j53 (some (fx_ad b 13)) (some a) (nI i) (nI e) (nI cl) (nI O.length) (nI r) (nI (O.length + w.length)) (fx_mk σ b F) = some (.inl (nI (O.length + (fw (slc s i e) (slc s (e + 1) cl) w).length) + (1 : Int32), nI r + (-1), fx_mk σ b F')) ∧ tw F' 14 (O ++ fw (slc s i e) (slc s (e + 1) cl) w ++ y)) ∧ (¬ O.length + (fw (slc s i e) (slc s (e + 1) cl) w).length + y.length ≤ 120 → f_Exp_replaceEnds_j53 (some (fx_ad b 13)) (some a) (nI i) (nI e) (nI cl) (nI O.length) (nI r) (nI (O.length + w.length)) (fx_mk σ b F) = some (.inr (some (.int (nI 0)), fx_mk σ b F'))) ∧ fx_ln F' ∧ fr [1401] [15] [] F F' := by
  have ho : tO 14 := Or.inr (Or.inl rfl)
  have hcap : tcap 14 = 120 := rfl
  have hl := tw_len hF h
  rw [hcap] at hl
  simp only [List.length_append] at hl
  have hul := slc_len (p := i) (q := e) (l := s) (by omega)
  have hvl := slc_len (p := e + 1) (q := cl) (l := s) hcl
  have hc2 : ∀ c, c ∈ O ++ w ++ y → c < 65536 := fun c h => Nat.lt_trans (hc c h) (by decide)
  -- nothing is changed
  have hstay : fw (slc s i e) (slc s (e + 1) cl) w = w → f_Exp_replaceEnds_j53 (some (fx_ad b 13)) (some a) (nI i) (nI e) (nI cl) (nI O.length) (nI r) (nI (O.length + w.length)) (fx_mk σ b F) = f_Exp_replaceEnds_j117 (some (fx_ad b 13)) (some a) (nI i) (nI e) (nI cl) (nI r) (fx_mk σ b F) → ∃ F', (O.length + (fw (slc s i e) (slc s (e + 1) cl) w).length + y.length ≤ 120 → f_Exp_replaceEnds_j53 (some (fx_ad b 13)) (some a) (nI i) (nI e) (nI cl) (nI O.length) (nI r) (nI (O.length + w.length)) (fx_mk σ b F) = some (.inl (nI (O.length + (fw (slc s i e) (slc s (e + 1) cl) w).length) + (1 : Int32), nI r + (-1), fx_mk σ b F')) ∧ tw F' 14 (O ++ fw (slc s i e) (slc s (e + 1) cl) w ++ y)) ∧ (¬ O.length + (fw (slc s i e) (slc s (e + 1) cl) w).length + y.length ≤ 120 → f_Exp_replaceEnds_j53 (some (fx_ad b 13)) (some a) (nI i) (nI e) (nI cl) (nI O.length) (nI r) (nI (O.length + w.length)) (fx_mk σ b F) = some (.inr (some (.int (nI 0)), fx_mk σ b F'))) ∧ fx_ln F' ∧ fr [1401] [15] [] F F' := by
    intro hfw hj
    refine ⟨F, fun _ => ⟨?_, ?_⟩, fun hn => absurd ?_ hn, hF, fr_refl _ _ _ _⟩
    · rw [hj, hfw]
      unfold f_Exp_replaceEnds_j117
      have hlen := c_tlen (σ := σ) (b := b) ho h
      simp (disch := omega) only [↓fx_bc, ↓cI_of hlen]
      rw [show nI (O ++ w ++ y).length - nI r = nI (O.length + w.length) by
        rw [u_sub (by simp only [List.length_append]; omega)]
        congr 1
        simp only [List.length_append]
        omega]
    · rw [hfw]
      exact h
    · rw [hfw]
      omega
  by_cases hw0 : w = []
  · refine hstay ?_ ?_
    · rw [hw0]
      exact fw_nil _ _
    · unfold f_Exp_replaceEnds_j53
      rw [hw0, List.length_nil, Nat.add_zero, if_pos (nI_le (Nat.le_refl _) (by omega))]
  · have hwl : 0 < w.length := List.length_pos_iff.mpr hw0
    have hg1 : ¬ nI (O.length + w.length) ≤ nI O.length := by
      rw [u_le (by omega) (by omega)]
      omega
    by_cases hsm : w.length < e - i
    · refine hstay ?_ ?_
      · unfold fw
        rw [if_neg]
        rintro ⟨_, h2⟩
        unfold sfx at h2
        rw [decide_eq_false (by omega), Bool.false_and] at h2
        cases h2
      · unfold f_Exp_replaceEnds_j53
        rw [if_neg hg1, u_sub hie]
        rw [if_pos]
        by_cases h3 : O.length + w.length < e - i
        · exact neg_lt h3 (by omega) (by omega)
        · rw [u_sub (by omega), u_lt (by omega) (by omega)]
          omega
    · have hp : (nI (O.length + w.length) - (nI e - nI i)) = nI (O.length + w.length - (e - i)) := by
        rw [u_sub hie, u_sub (by omega)]
      have hsl : slc (O ++ w ++ y) (O.length + w.length - (e - i)) (O.length + w.length) = w.drop (w.length - (e - i)) := by
        unfold slc
        rw [List.append_assoc, List.drop_append, List.drop_eq_nil_of_le (by omega), List.nil_append, List.drop_append, List.take_append, show O.length + w.length - (e - i) - O.length = w.length - (e - i) by omega, List.take_of_length_le (by rw [List.length_drop]; omega), show O.length + w.length - (O.length + w.length - (e - i)) - (w.drop (w.length - (e - i))).length = 0 by rw [List.length_drop]; omega, List.take_zero, List.append_nil]
      have hh := c_holds2 (σ := σ) (b := b) ho hF h hc2 hs (p := O.length + w.length - (e - i)) (q := O.length + w.length) (i := i) (j := e) (by omega) (by simp only [List.length_append]; omega) hie (by omega) (by omega)
      rw [hsl] at hh
      have hsfx : sfx (slc s i e) w = decide (w.drop (w.length - (e - i)) = slc s i e) := by
        unfold sfx
        rw [hul, decide_eq_true (by omega), Bool.true_and]
      by_cases hm : w.drop (w.length - (e - i)) = slc s i e
      · rw [decide_eq_true hm, b2_t] at hh
        have hfw : fw (slc s i e) (slc s (e + 1) cl) w = w.take (w.length - (e - i)) ++ slc s (e + 1) cl := by
          unfold fw
          rw [if_pos ⟨hw0, by rw [hsfx]; exact decide_eq_true hm⟩, hul]
        rw [hfw]
        obtain ⟨F', a1, a2, a3, a4⟩ := c_replace (σ := σ) (b := b) ho hb hF h hc2 hs (p := O.length + w.length - (e - i)) (q := O.length + w.length) (i := e + 1) (j := cl) (by omega) (by simp only [List.length_append]; omega) hec hcl hs1
        have hlw : (w.take (w.length - (e - i)) ++ slc s (e + 1) cl).length = w.length - (e - i) + (cl - (e + 1)) := by
          rw [List.length_append, List.length_take, hvl]
          omega
        have hsum : (O ++ w ++ y).length + (cl - (e + 1)) - (O.length + w.length - (O.length + w.length - (e - i))) = O.length + (w.length - (e - i) + (cl - (e + 1))) + y.length := by
          simp only [List.length_append]
          omega
        rw [hsum, hcap] at a1 a2
        have hnew : (O ++ w ++ y).take (O.length + w.length - (e - i)) ++ slc s (e + 1) cl ++ (O ++ w ++ y).drop (O.length + w.length) = O ++ (w.take (w.length - (e - i)) ++ slc s (e + 1) cl) ++ y := by
          have t1 : (O ++ w ++ y).take (O.length + w.length - (e - i)) = O ++ w.take (w.length - (e - i)) := by
            rw [List.append_assoc, List.take_append, List.take_of_length_le (by omega), List.take_append, show O.length + w.length - (e - i) - O.length = w.length - (e - i) by omega, show w.length - (e - i) - w.length = 0 by omega, List.take_zero, List.append_nil]
          have t2 : (O ++ w ++ y).drop (O.length + w.length) = y := by
            rw [← List.length_append, List.drop_left]
          rw [t1, t2]
          simp only [List.append_assoc]
        rw [hnew] at a2
        rw [hlw]
        have a1' : f_Text_replace (some (fx_ad b 14)) (nI (O.length + w.length) - (nI e - nI i)) (nI (O.length + w.length)) (some a) (nI e + (1 : Int32)) (nI cl) (fx_mk σ b F) = some (some (.int (nI (b2 (decide (O.length + (w.length - (e - i) + (cl - (e + 1))) + y.length ≤ 120))))), fx_mk σ b F') := by
          rw [hp, u_l1, u_add]
          exact a1
        have hh' : f_Text_holds (some (fx_ad b 14)) (nI (O.length + w.length) - (nI e - nI i)) (nI (O.length + w.length)) (some a) (nI i) (nI e) (fx_mk σ b F) = some (some (.int (nI 1)), fx_mk σ b F) := by
          rw [hp]
          exact hh
        have hno : ¬ nI (O.length + w.length) - (nI e - nI i) < nI O.length := by
          rw [hp, u_lt (by omega) (by omega)]
          omega
        refine ⟨F', fun hfit => ⟨?_, a2 hfit⟩, fun hnf => ?_, a3, a4⟩
        · rw [decide_eq_true hfit, b2_t] at a1'
          have hlen' := c_tlen (σ := σ) (b := b) ho (a2 hfit)
          unfold f_Exp_replaceEnds_j53
          rw [if_neg hg1, if_neg hno]
          simp (disch := omega) only [↓fx_bc, ↓cI_of hh', ↓cI_of a1', show (nI 1 = 0) = False from eq_false (by decide), ↓reduceIte]
          unfold f_Exp_replaceEnds_j117
          simp (disch := omega) only [↓fx_bc, ↓cI_of hlen']
          rw [show nI (O ++ (w.take (w.length - (e - i)) ++ slc s (e + 1) cl) ++ y).length - nI r = nI (O.length + (w.length - (e - i) + (cl - (e + 1)))) by
            rw [u_sub (by rw [List.length_append]; omega)]
            congr 1
            rw [List.length_append, List.length_append, hlw]
            omega]
        · rw [decide_eq_false hnf, b2_f] at a1'
          unfold f_Exp_replaceEnds_j53
          rw [if_neg hg1, if_neg hno]
          simp (disch := omega) only [↓fx_bc, ↓cI_of hh', ↓cI_of a1', show (nI 1 = 0) = False from eq_false (by decide), show (nI 0 = 0) = True from eq_true rfl, ↓reduceIte]
          rfl
      · refine hstay ?_ ?_
        · unfold fw
          rw [if_neg]
          rintro ⟨_, h2⟩
          rw [hsfx] at h2
          exact hm (of_decide_eq_true h2)
        · rw [decide_eq_false hm, b2_f] at hh
          have hh' : f_Text_holds (some (fx_ad b 14)) (nI (O.length + w.length) - (nI e - nI i)) (nI (O.length + w.length)) (some a) (nI i) (nI e) (fx_mk σ b F) = some (some (.int (nI 0)), fx_mk σ b F) := by
            rw [hp]
            exact hh
          have hno : ¬ nI (O.length + w.length) - (nI e - nI i) < nI O.length := by
            rw [hp, u_lt (by omega) (by omega)]
            omega
          unfold f_Exp_replaceEnds_j53
          rw [if_neg hg1, if_neg hno]
          simp (disch := omega) only [↓fx_bc, ↓cI_of hh', show (nI 0 = 0) = True from eq_true rfl, ↓reduceIte]
end
