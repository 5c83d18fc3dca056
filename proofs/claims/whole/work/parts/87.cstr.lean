/-! the class: strings -/
/-- a string stands at a, with these characters -/
def sx (σ : rb_St) (b a : Nat) (l : List Nat) : Prop := wx b a ∧ a < rb_n σ ∧ ∃ v rest, wx b v ∧ v < rb_n σ ∧ σ.1 a = (14, .ref v :: .int 0 :: rest) ∧ σ.1 v = (105, l.map (fun c => Value.int (nI c))) ∧ (∀ c, c ∈ l → c < 128) ∧ l.length ≤ 100000
theorem sx_hx {σ σ' : rb_St} {b a : Nat} {l : List Nat} (h : sx σ b a l) (hh : hx σ σ') : sx σ' b a l := by
  obtain ⟨h1, h2, v, rest, h3, h4, h5, h6, h7⟩ := h
  exact ⟨h1, Nat.lt_of_lt_of_le h2 hh.1, v, rest, h3, Nat.lt_of_lt_of_le h4 hh.1, by rw [hh.2.2.2 a h2 (by rw [h5]; show 14 ≠ 12; decide)]; exact h5, by rw [hh.2.2.2 v h4 (by rw [h6]; show 105 ≠ 12; decide)]; exact h6, h7⟩
theorem sx_inj {σ : rb_St} {b a : Nat} {l m : List Nat} (h : sx σ b a l) (h2 : sx σ b a m) : l = m := by
  obtain ⟨-, -, v, rest, -, -, h5, h6, h7, h8⟩ := h
  obtain ⟨-, -, v', rest', -, -, h5', h6', h7', h8'⟩ := h2
  rw [h5] at h5'
  injection h5' with _ h5'
  injection h5' with h5' _
  injection h5' with h5'
  subst h5'
  rw [h6] at h6'
  injection h6' with _ h6'
  have hl : l.length = m.length := by simpa using congrArg List.length h6'
  refine getD_ext hl (fun i hi => ?_)
  have h9 := congrArg (fun q : List Value => q[i]?) h6'
  simp only [List.getElem?_map, List.getElem?_eq_getElem hi, List.getElem?_eq_getElem (show i < m.length by omega), Option.map_some] at h9
  injection h9 with h9
  injection h9 with h9
  rw [getD_get hi, getD_get (show i < m.length by omega)]
  have c1 := h7 _ (List.getElem_mem hi)
  have c2 := h7' _ (List.getElem_mem (show i < m.length by omega))
  exact (nI_eq (by omega) (by omega)).mp h9
theorem sh0 (x : Int32) : x >>> ((0 : Int32) &&& 31) = x := by
  apply Int32.toBitVec_inj.mp
  rw [Int32.toBitVec_shiftRight]
  show BitVec.sshiftRight x.toBitVec _ = _
  rw [show (((0 : Int32) &&& 31).toBitVec.smod 32).toNat = 0 from rfl]
  simp
theorem by_c : ∀ c, c < 128 → (((nI c &&& (255 : Int32)).toUInt32 % 65536).toInt32) = nI c := by decide
theorem isC_n {c : Nat} (h : c < 65536) : rb_isC (nI c) := ⟨by rw [u_l0]; exact nI_le (Nat.zero_le _) (by omega), by rw [show (65535 : Int32) = nI 65535 from rfl]; exact nI_le (by omega) (by omega)⟩
section
variable {σ : rb_St} {b : Nat} {F : fx_F}
theorem c_len {a : Nat} {l : List Nat} (h : sx σ b a l) : f_Str_length (some a) (fx_mk σ b F) = some (some (.int (nI l.length)), fx_mk σ b F) := by
  obtain ⟨h1, h2, v, rest, h3, h4, h5, h6, h7⟩ := h
  have g0 : rb_gR (fx_mk σ b F) (some a) 14 0 = some (some v) := fo_gR (r := some v) h1 h5 rfl
  have g1 : rb_gI (fx_mk σ b F) (some a) 14 1 = some 0 := fo_gI h1 h5 rfl
  have g2 := fo_fk (F := F) h1 h5
  have g3 := fo_len (F := F) h3 h6
  rw [List.length_map] at g3
  unfold f_Str_length f_Str_coder
  rw [g0, Option.bind_some, g3, Option.bind_some, g2, Option.bind_some, if_neg (show ¬ (1 : Int32) = 0 by decide), g1, Option.bind_some, if_pos (show rb_isB (0 : Int32) from Or.inl rfl)]
  show some (some (Value.int (nI l.length >>> ((0 : Int32) &&& 31))), _) = _
  rw [sh0]
theorem c_charAt {a : Nat} {l : List Nat} (h : sx σ b a l) {i : Nat} (hi : i < l.length) : f_Str_charAt (some a) (nI i) (fx_mk σ b F) = some (some (.int (nI (l.getD i 0))), fx_mk σ b F) := by
  obtain ⟨h1, h2, v, rest, h3, h4, h5, h6, h7, h8⟩ := h
  have g0 : rb_gR (fx_mk σ b F) (some a) 14 0 = some (some v) := fo_gR (r := some v) h1 h5 rfl
  have g1 : rb_gI (fx_mk σ b F) (some a) 14 1 = some 0 := fo_gI h1 h5 rfl
  have g2 := fo_fk (F := F) h1 h5
  have g3 := fo_len (F := F) h3 h6
  rw [List.length_map] at g3
  have hc := h7 _ (getD_mem (d := 0) hi)
  have g4 : rb_aI (fx_mk σ b F) (some v) 105 (nI i) = some (nI (l.getD i 0)) := fo_aI h3 h6 (by omega) (by rw [List.getElem?_map, List.getElem?_eq_getElem hi, getD_get hi]; rfl)
  have g5 : f_Str_checkIndex (nI i) (nI l.length) (fx_mk σ b F) = some (none, fx_mk σ b F) := by
    unfold f_Str_checkIndex f_Pre_checkIndex
    simp (disch := omega) only [↓reduceIte, n_ltT, n_ltF, n_leT, n_leF, n_eqT, n_eqF, nI_1, u_lt, u_le, u_eq, u_add, u_ix, u_ixL, u_ixR, u_cl, u_nm1, u_nm1', u_m1l, u_m1n, u_l0, Option.bind_some, Option.map_some, not_true_eq_false, not_false_eq_true, true_and, and_true, Nat.add_sub_cancel, Bool.false_eq_true, u_nar2]
    rfl
  have g6 : f_SL_charAt (some v) (nI i) (fx_mk σ b F) = some (some (.int (nI (l.getD i 0))), fx_mk σ b F) := by
    unfold f_SL_charAt
    rw [g3, Option.bind_some, cV_of g5, g4, Option.bind_some, by_c _ hc, if_pos (isC_n (by omega))]
  have g7 : f_Str_isLatin1 (some a) (fx_mk σ b F) = some (some (.int (1 : Int32)), fx_mk σ b F) := by
    unfold f_Str_isLatin1
    rw [if_neg (show ¬ (1 : Int32) = 0 by decide), g1, Option.bind_some, if_pos rfl]
  unfold f_Str_charAt
  rw [g2, Option.bind_some, cI_of g7, if_neg (show ¬ (1 : Int32) = 0 by decide), g0, Option.bind_some, cI_of g6, if_pos (isC_n (by omega))]
theorem c_equals {a a' : Nat} {l m : List Nat} (h : sx σ b a l) (h' : sx σ b a' m) : f_Str_equals (some a) (some a') (fx_mk σ b F) = some (some (.int (nI (b2 (decide (l = m))))), fx_mk σ b F) := by
  have hh := h
  have hh' := h'
  obtain ⟨h1, h2, v, rest, h3, h4, h5, h6, h7, h8⟩ := h
  obtain ⟨h1', h2', v', rest', h3', h4', h5', h6', h7', h8'⟩ := h'
  unfold f_Str_equals
  by_cases e : (some a : Option Nat) = some a'
  · rw [if_pos e]
    injection e with e
    subst e
    rw [decide_eq_true (sx_inj hh hh')]
    rfl
  · rw [if_neg e]
    have g0 : rb_gR (fx_mk σ b F) (some a) 14 0 = some (some v) := fo_gR (r := some v) h1 h5 rfl
    have g0' : rb_gR (fx_mk σ b F) (some a') 14 0 = some (some v') := fo_gR (r := some v') h1' h5' rfl
    have g1 : rb_gI (fx_mk σ b F) (some a) 14 1 = some 0 := fo_gI h1 h5 rfl
    have g1' : rb_gI (fx_mk σ b F) (some a') 14 1 = some 0 := fo_gI h1' h5' rfl
    have g2' := fo_fk (F := F) h1' h5'
    have g3 := fo_len (F := F) h3 h6
    have g3' := fo_len (F := F) h3' h6'
    rw [List.length_map] at g3 g3'
    have heq : f_SL_equals (some v) (some v') (fx_mk σ b F) = some (some (.int (nI (b2 (decide (l = m))))), fx_mk σ b F) := by
      unfold f_SL_equals
      rw [g3, Option.bind_some, g3', Option.bind_some]
      by_cases el : l.length = m.length
      · rw [if_pos (by rw [el])]
        have hloop := it_sr (body := fun z : Int32 => f_SL_equals_b9 (some v) (some v') z (fx_mk σ b F)) (n := l.length) (fun k => decide (¬ l.getD k 0 = m.getD k 0)) (fun _ => (some (.int (nI 0)), fx_mk σ b F)) (some (.int (nI 1)), fx_mk σ b F) ?_ ?_ l.length 0 (by omega)
        · refine Eq.trans hloop ?_
          cases hs : sr (fun k => decide (¬ l.getD k 0 = m.getD k 0)) l.length 0 with
          | some j =>
            have hj := of_decide_eq_true (sr_some hs).2.2
            rw [decide_eq_false (fun e => hj (by rw [e]))]
            rfl
          | none =>
            have hn := sr_none hs
            rw [decide_eq_true (getD_ext el (fun i hi => by
              have := hn i (Nat.zero_le _) (by omega)
              simpa using this))]
            rfl
        · intro k hk
          have g4 : rb_aI (fx_mk σ b F) (some v) 105 (nI k) = some (nI (l.getD k 0)) := fo_aI h3 h6 (by omega) (by rw [List.getElem?_map, List.getElem?_eq_getElem hk, getD_get hk]; rfl)
          have g4' : rb_aI (fx_mk σ b F) (some v') 105 (nI k) = some (nI (m.getD k 0)) := fo_aI h3' h6' (by omega) (by rw [List.getElem?_map, List.getElem?_eq_getElem (show k < m.length by omega), getD_get (show k < m.length by omega)]; rfl)
          have c1 := h7 _ (getD_mem (d := 0) hk)
          have c2 := h7' _ (getD_mem (d := 0) (show k < m.length by omega))
          show f_SL_equals_b9 _ _ _ _ = _
          unfold f_SL_equals_b9
          rw [g3, Option.bind_some, g4, Option.bind_some, g4', Option.bind_some]
          by_cases ec : l.getD k 0 = m.getD k 0
          · simp (disch := omega) only [ec, ↓reduceIte, n_ltT, n_ltF, n_leT, n_leF, n_eqT, n_eqF, nI_1, u_lt, u_le, u_eq, u_add, u_ix, u_ixL, u_ixR, u_cl, u_nm1, u_nm1', u_m1l, u_m1n, u_l0, Option.bind_some, Option.map_some, not_true_eq_false, not_false_eq_true, true_and, and_true, Nat.add_sub_cancel, Bool.false_eq_true, u_nar2, decide_false]
          · simp (disch := omega) only [ec, ↓reduceIte, n_ltT, n_ltF, n_leT, n_leF, n_eqT, n_eqF, nI_1, u_lt, u_le, u_eq, u_add, u_ix, u_ixL, u_ixR, u_cl, u_nm1, u_nm1', u_m1l, u_m1n, u_l0, Option.bind_some, Option.map_some, not_true_eq_false, not_false_eq_true, true_and, and_true, Nat.add_sub_cancel, Bool.false_eq_true, u_nar2, decide_true]
        · show f_SL_equals_b9 _ _ _ _ = _
          unfold f_SL_equals_b9
          rw [g3, Option.bind_some, if_pos (nI_le (Nat.le_refl _) (by omega))]
          rfl
      · rw [if_neg (by rw [u_eq (by omega) (by omega)]; exact el), decide_eq_false (fun e => el (by rw [e]))]
        rfl
    have h36 : f_Str_equals_j36 (some a) (some a') (fx_mk σ b F) = some (some (.int (nI (b2 (decide (l = m))))), fx_mk σ b F) := by
      unfold f_Str_equals_j36
      rw [g0, Option.bind_some, g0', Option.bind_some, cI_of heq]
      cases decide (l = m) <;> rfl
    rw [g2', Option.bind_some, if_neg (show ¬ (1 : Int32) = 0 by decide), Option.bind_some, if_neg (show ¬ (1 : Int32) = 0 by decide), g1, Option.bind_some, g1', Option.bind_some, if_pos rfl, h36]
end
