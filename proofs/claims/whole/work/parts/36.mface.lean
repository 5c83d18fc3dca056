/-! the reference: its draft, and what it tells of itself -/
def ty (c : Nat) : Bool := decide ((32 ≤ c ∧ c ≤ 126) ∨ c = 9 ∨ c = 10)
def tk (l : List Nat) : Prop := ∀ c ∈ l, ty c = true
theorem ty_lt {c : Nat} (h : ty c = true) : 0 < c ∧ c < 127 := by
  unfold ty at h
  simp only [decide_eq_true_eq] at h
  omega
theorem tk_ok {l : List Nat} (h : tk l) : pq_ok l := fun c hc => by
  have := ty_lt (h c hc)
  omega
theorem tk_app {l m : List Nat} (h : tk l) (h2 : tk m) : tk (l ++ m) := fun c hc => by
  rcases List.mem_append.mp hc with q | q
  · exact h c q
  · exact h2 c q
theorem tk_take {l : List Nat} (h : tk l) (k : Nat) : tk (l.take k) := fun c hc => h c (List.mem_of_mem_take hc)
theorem tk_drop {l : List Nat} (h : tk l) (k : Nat) : tk (l.drop k) := fun c hc => h c (List.mem_of_mem_drop hc)
theorem getD_get {α : Type} {l : List α} {k : Nat} {d : α} (h : k < l.length) : l.getD k d = l[k] := by simp [List.getD, List.getElem?_eq_getElem h]
theorem getD_mem {α : Type} {l : List α} {k : Nat} {d : α} (h : k < l.length) : l.getD k d ∈ l := by
  rw [getD_get h]
  exact List.getElem_mem h
theorem tk_get {l : List Nat} (h : tk l) {k : Nat} (hk : k < l.length) : ty (l.getD k 0) = true := h _ (getD_mem hk)
theorem take_succ {α : Type} {l : List α} {k : Nat} {d : α} (h : k < l.length) : l.take (k + 1) = l.take k ++ [l.getD k d] := by
  rw [getD_get h]
  exact List.take_succ_eq_append_getElem h
theorem pq_div : ∀ (n : Nat) (w : List Nat), w.length = n → pq_ok w → ∀ j, j ≤ n → pq w / 128 ^ j = pq (w.take (n - j)) := by
  intro n w hw hok j
  induction j with
  | zero =>
    intro _
    rw [Nat.sub_zero, ← hw, List.take_length]
    simp
  | succ j ih =>
    intro hj
    rw [Nat.pow_succ, ← Nat.div_div_eq_div_mul, ih (by omega), show n - j = (n - (j + 1)) + 1 by omega, take_succ (d := 0) (by omega), pq_app]
    have := hok _ (getD_mem (l := w) (k := n - (j + 1)) (d := 0) (by omega))
    omega
theorem pq_digit {w : List Nat} (hl : w.length ≤ 9) (hok : pq_ok w) {i j : Nat} (hi : i + j + 1 = w.length) : ((lN (pq w) >>> ((nI (7 * j)).toInt64 &&& 63)) &&& (127 : Int64)).toInt32 = nI (w.getD i 0) := by
  have h1 := pq_lt63 hl hok
  rw [pq_shr h1 (by omega)]
  have e : pq w / 2 ^ (7 * j) = pq (w.take (i + 1)) := by
    rw [Nat.pow_mul, show (2 : Nat) ^ 7 = 128 from rfl, pq_div w.length w rfl hok j (by omega)]
    congr 2
    omega
  rw [e, pq_low (Nat.lt_of_le_of_lt (by rw [← e]; exact Nat.div_le_self _ _) h1), take_succ (d := 0) (by omega), pq_app]
  have := hok _ (getD_mem (l := w) (k := i) (d := 0) (by omega))
  congr 1
  omega
def m_draft (F : fx_F) (d : List Nat) : Prop := F.1 3401 = nI d.length ∧ rk (F.2.1 35) d
section
variable {σ : rb_St} {b : Nat} {F : fx_F}
theorem m_drafts {d : List Nat} (hd : d.length ≤ 320) (ht : pq_ok d) (hm : m_draft F d) : f_M_drafts (some (fx_ad b 34)) (fx_mk σ b F) = some (some (.long (pk d)), fx_mk σ b F) := by
  unfold f_M_drafts
  by_cases h : d.length ≤ 9
  · have key : ∀ m k, k + m = d.length → rb_it (fun z : (Int64 × Int32) => f_M_drafts_b19 (some (fx_ad b 34)) (z.1) (z.2) (fx_mk σ b F)) (lN (pq (d.take k)), nI k) = some (some (.long (lN (pq d))), fx_mk σ b F) := by
      intro m
      induction m with
      | zero =>
        intro k hk
        refine rb_it_r ?_
        unfold f_M_drafts_b19
        simp (disch := omega) only [fx_rm, Bool.false_eq_true, Option.bind_some, Option.map_some, rb_cI, rb_cL, rb_cR, rb_cV, reduceIte, ite_true, ite_false, not_true_eq_false, not_false_eq_true, true_and, and_true, Nat.reduceEqDiff, Nat.reduceAdd, Nat.reduceMul, Nat.add_sub_cancel, hm.1, nI_1, u_lt, u_le, u_eq, u_add, u_ix, u_ixL, u_ixR, u_cl, u_nm1, u_nm1', u_m1l, u_m1n, if_pos, if_neg, f_M_drafts_j55]
        rw [List.take_of_length_le (by omega)]
      | succ m ih =>
        intro k hk
        have hc := ht _ (getD_mem (l := d) (k := k) (d := 0) (by omega))
        have hp := pq_lt63 (l := d.take (k + 1)) (by simp; omega) (fun c hc => ht c (List.mem_of_mem_take hc))
        rw [take_succ (d := 0) (by omega), pq_app] at hp
        rw [← ih (k + 1) (by omega), take_succ (d := 0) (by omega), pq_app]
        refine rb_it_l ?_
        unfold f_M_drafts_b19
        simp (disch := omega) only [fx_rm, Bool.false_eq_true, Option.bind_some, Option.map_some, rb_cI, rb_cL, rb_cR, rb_cV, reduceIte, ite_true, ite_false, not_true_eq_false, not_false_eq_true, true_and, and_true, Nat.reduceEqDiff, Nat.reduceAdd, Nat.reduceMul, Nat.add_sub_cancel, hm.1, u_l9, nI_1, u_lt, u_le, u_eq, u_add, u_ix, u_ixL, u_ixR, u_cl, u_nm1, u_nm1', u_m1l, u_m1n, if_pos, if_neg, rk_getD hm.2 (i := k) (by omega), pq_push hp hc.2]
    simp (disch := omega) only [fx_rm, Bool.false_eq_true, Option.bind_some, Option.map_some, rb_cI, rb_cL, rb_cR, rb_cV, reduceIte, ite_true, ite_false, not_true_eq_false, not_false_eq_true, true_and, and_true, Nat.reduceEqDiff, Nat.reduceAdd, Nat.reduceMul, Nat.add_sub_cancel, hm.1, u_l9, u_l0, nI_1, u_lt, u_le, u_eq, u_add, u_ix, u_ixL, u_ixR, u_cl, u_nm1, u_nm1', u_m1l, u_m1n, if_pos, if_neg]
    have := key d.length 0 (by omega)
    rw [pk_of h]
    exact this
  · simp (disch := omega) only [fx_rm, Bool.false_eq_true, Option.bind_some, Option.map_some, rb_cI, rb_cL, rb_cR, rb_cV, reduceIte, ite_true, ite_false, not_true_eq_false, not_false_eq_true, true_and, and_true, Nat.reduceEqDiff, Nat.reduceAdd, Nat.reduceMul, Nat.add_sub_cancel, hm.1, u_l9, u_l0, nI_1, u_lt, u_le, u_eq, u_add, u_ix, u_ixL, u_ixR, u_cl, u_nm1, u_nm1', u_m1l, u_m1n, if_pos, if_neg]
    refine rb_it_r ?_
    unfold f_M_drafts_b19 pk
    simp (disch := omega) only [fx_rm, Bool.false_eq_true, Option.bind_some, Option.map_some, rb_cI, rb_cL, rb_cR, rb_cV, reduceIte, ite_true, ite_false, not_true_eq_false, not_false_eq_true, true_and, and_true, Nat.reduceEqDiff, Nat.reduceAdd, Nat.reduceMul, Nat.add_sub_cancel, hm.1, u_l9, u_l0, nI_1, u_lt, u_le, u_eq, u_add, u_ix, u_ixL, u_ixR, u_cl, u_nm1, u_nm1', u_m1l, u_m1n, if_pos, if_neg, f_M_drafts_j55]
theorem m_type (hb : rb_b σ ≤ b) (hF : fx_ln F) {d : List Nat} (hd : d.length ≤ 320) (hm : m_draft F d) {c : Nat} (hc : c < 65536) : ∃ F', f_M_type (some (fx_ad b 34)) (nI c) (fx_mk σ b F) = some (some (.int (if ty c = true ∧ d.length < 320 then nI 1 else nI 0)), fx_mk σ b F') ∧ m_draft F' (if ty c = true ∧ d.length < 320 then d ++ [c] else d) ∧ fx_ln F' ∧ fr [3401] [35] [] F F' := by
  have hL := hF.1 35
  simp only [fx_cI] at hL
  by_cases h : ty c = true
  · have e : f_M_type (some (fx_ad b 34)) (nI c) (fx_mk σ b F) = f_M_type_j24 (some (fx_ad b 34)) (nI c) (fx_mk σ b F) := by
      unfold ty at h
      simp only [decide_eq_true_eq] at h
      unfold f_M_type f_M_type_j12
      simp (disch := omega) only [u_l0, u_l1, u_l2, u_l3, u_l4, u_l6, u_l7, u_l8, u_l9, u_l10, u_l14, u_l16, u_l18, u_l26, u_l31, u_l32, u_l36, u_l37, u_l40, u_l41, u_l42, u_l46, u_l48, u_l57, u_l58, u_l60, u_l61, u_l62, u_l63, u_l64, u_l65, u_l80, u_l90, u_l92, u_l95, u_l97, u_l120, u_l122, u_l126, u_l127, u_l320, u_l400, nI_1, u_lt, u_le, u_eq, u_add, u_ix, u_ixL, u_ixR, u_cl, u_nm1, u_nm1', u_m1l, u_m1n, if_pos, if_neg]
      repeat' split
      all_goals first | rfl | (exfalso; omega)
    rw [e]
    unfold f_M_type_j24 f_M_type_j29
    by_cases h3 : d.length < 320
    · refine ⟨fx_I (fx_A F 35 ((F.2.1 35).set d.length (nI c))) 3401 (nI (d.length + 1)), ?_, ⟨?_, ?_⟩, ?_, ?_⟩
      · simp (disch := omega) only [fx_rm, fx_wm hb, Bool.false_eq_true, Option.bind_some, Option.map_some, rb_cI, rb_cL, rb_cR, rb_cV, reduceIte, ite_true, ite_false, not_true_eq_false, not_false_eq_true, true_and, and_true, Nat.reduceEqDiff, Nat.reduceAdd, Nat.reduceMul, Nat.add_sub_cancel, fx_II, fx_AA, fx_LL, fx_I_1, fx_I_A, fx_I_L, fx_I_R, fx_I_Q, fx_A_1, fx_A_A, fx_A_L, fx_A_R, fx_A_Q, fx_L_1, fx_L_A, fx_L_L, fx_L_R, fx_L_Q, fx_R_1, fx_R_A, fx_R_L, fx_R_R, fx_R_Q, fx_Q_1, fx_Q_A, fx_Q_L, fx_Q_R, fx_Q_Q, hm.1, u_l0, u_l1, u_l320, nI_1, u_lt, u_le, u_eq, u_add, u_ix, u_ixL, u_ixR, u_cl, u_nm1, u_nm1', u_m1l, u_m1n, if_pos, if_neg, u_nar2, h, h3]
      · simp [fx_II, fx_AA, fx_LL, fx_I_1, fx_I_A, fx_I_L, fx_I_R, fx_I_Q, fx_A_1, fx_A_A, fx_A_L, fx_A_R, fx_A_Q, fx_L_1, fx_L_A, fx_L_L, fx_L_R, fx_L_Q, fx_R_1, fx_R_A, fx_R_L, fx_R_R, fx_R_Q, fx_Q_1, fx_Q_A, fx_Q_L, fx_Q_R, fx_Q_Q, h, h3]
      · simp only [fx_II, fx_AA, fx_LL, fx_I_1, fx_I_A, fx_I_L, fx_I_R, fx_I_Q, fx_A_1, fx_A_A, fx_A_L, fx_A_R, fx_A_Q, fx_L_1, fx_L_A, fx_L_L, fx_L_R, fx_L_Q, fx_R_1, fx_R_A, fx_R_L, fx_R_R, fx_R_Q, fx_Q_1, fx_Q_A, fx_Q_L, fx_Q_R, fx_Q_Q, Bool.false_eq_true, Option.bind_some, Option.map_some, rb_cI, rb_cL, rb_cR, rb_cV, reduceIte, ite_true, ite_false, not_true_eq_false, not_false_eq_true, true_and, and_true, Nat.reduceEqDiff, Nat.reduceAdd, Nat.reduceMul, Nat.add_sub_cancel, h, h3]
        exact rk_push hm.2 (by omega) c
      · exact fx_lnI (fx_lnA hF (by rw [List.length_set]; exact hF.1 _))
      · exact fr_I (fr_A (fr_refl _ _ _ _) (by decide)) (by decide)
    · refine ⟨F, ?_, ?_, hF, fr_refl _ _ _ _⟩
      · simp (disch := omega) only [fx_rm, Bool.false_eq_true, Option.bind_some, Option.map_some, rb_cI, rb_cL, rb_cR, rb_cV, reduceIte, ite_true, ite_false, not_true_eq_false, not_false_eq_true, true_and, and_true, Nat.reduceEqDiff, Nat.reduceAdd, Nat.reduceMul, Nat.add_sub_cancel, hm.1, u_l0, u_l1, u_l320, nI_1, u_lt, u_le, u_eq, u_add, u_ix, u_ixL, u_ixR, u_cl, u_nm1, u_nm1', u_m1l, u_m1n, if_pos, if_neg, h, h3]
      · simp only [h3, and_false, if_false]
        exact hm
  · have e : f_M_type (some (fx_ad b 34)) (nI c) (fx_mk σ b F) = f_M_type_j29 (some (fx_ad b 34)) (nI c) 0 (fx_mk σ b F) := by
      unfold ty at h
      simp only [decide_eq_true_eq] at h
      unfold f_M_type f_M_type_j12
      simp (disch := omega) only [u_l0, u_l1, u_l2, u_l3, u_l4, u_l6, u_l7, u_l8, u_l9, u_l10, u_l14, u_l16, u_l18, u_l26, u_l31, u_l32, u_l36, u_l37, u_l40, u_l41, u_l42, u_l46, u_l48, u_l57, u_l58, u_l60, u_l61, u_l62, u_l63, u_l64, u_l65, u_l80, u_l90, u_l92, u_l95, u_l97, u_l120, u_l122, u_l126, u_l127, u_l320, u_l400, nI_1, u_lt, u_le, u_eq, u_add, u_ix, u_ixL, u_ixR, u_cl, u_nm1, u_nm1', u_m1l, u_m1n, if_pos, if_neg]
      repeat' split
      all_goals first | rfl | (exfalso; omega)
    rw [e]
    unfold f_M_type_j29
    refine ⟨F, ?_, ?_, hF, fr_refl _ _ _ _⟩
    · simp only [h, false_and, if_false, if_true]
      rfl
    · simp only [h, false_and, if_false]
      exact hm
theorem m_scrap (hb : rb_b σ ≤ b) (hF : fx_ln F) : ∃ F', f_M_scrap (some (fx_ad b 34)) (fx_mk σ b F) = some (none, fx_mk σ b F') ∧ m_draft F' [] ∧ fx_ln F' ∧ fr [3401] [] [] F F' := by
  refine ⟨fx_I F 3401 (nI 0), ?_, ⟨?_, rk_nil _⟩, fx_lnI hF, fr_I (fr_refl _ _ _ _) (by decide)⟩
  · unfold f_M_scrap
    simp only [fx_wm hb, Bool.false_eq_true, Option.bind_some, Option.map_some, rb_cI, rb_cL, rb_cR, rb_cV, reduceIte, ite_true, ite_false, not_true_eq_false, not_false_eq_true, true_and, and_true, Nat.reduceEqDiff, Nat.reduceAdd, Nat.reduceMul, Nat.add_sub_cancel, u_l0]
  · simp [fx_II, fx_AA, fx_LL, fx_I_1, fx_I_A, fx_I_L, fx_I_R, fx_I_Q, fx_A_1, fx_A_A, fx_A_L, fx_A_R, fx_A_Q, fx_L_1, fx_L_A, fx_L_L, fx_L_R, fx_L_Q, fx_R_1, fx_R_A, fx_R_L, fx_R_R, fx_R_Q, fx_Q_1, fx_Q_A, fx_Q_L, fx_Q_R, fx_Q_Q]
theorem m_namesF {N : List (List Nat)} (hm : m_names F N) : f_M_names (some (fx_ad b 34)) (fx_mk σ b F) = some (some (.int (nI N.length)), fx_mk σ b F) := by
  unfold f_M_names
  simp only [fx_rm, Bool.false_eq_true, Option.bind_some, Option.map_some, rb_cI, rb_cL, rb_cR, rb_cV, reduceIte, ite_true, ite_false, not_true_eq_false, not_false_eq_true, true_and, and_true, Nat.reduceEqDiff, Nat.reduceAdd, Nat.reduceMul, Nat.add_sub_cancel, hm.1]
/-- the character of a name, by the numbers of a call -/
def x_nameAt (N : List (List Nat)) (k i : Int32) : Int32 := if k < 0 then -1 else if nI N.length ≤ k then -1 else if i < 0 then -1 else if nI (N.getD k.toNatClampNeg []).length ≤ i then -1 else nI ((N.getD k.toNatClampNeg []).getD i.toNatClampNeg 0)
theorem m_nameAt {N : List (List Nat)} (hN : nok N) (hm : m_names F N) (k i : Int32) : f_M_nameAt (some (fx_ad b 34)) k i (fx_mk σ b F) = some (some (.int (x_nameAt N k i)), fx_mk σ b F) := by
  have hl := hN.1
  unfold f_M_nameAt x_nameAt
  by_cases h1 : k < 0
  · rw [if_pos h1, if_pos h1]
  · rw [if_neg h1, if_neg h1]
    obtain ⟨k, hk, rfl⟩ := nI_of h1
    simp (disch := omega) only [fx_rm, Bool.false_eq_true, Option.bind_some, Option.map_some, rb_cI, rb_cL, rb_cR, rb_cV, reduceIte, ite_true, ite_false, not_true_eq_false, not_false_eq_true, true_and, and_true, Nat.reduceEqDiff, Nat.reduceAdd, Nat.reduceMul, Nat.add_sub_cancel, hm.1, u_le, u_cl]
    by_cases h2 : N.length ≤ k
    · rw [if_pos h2, if_pos h2]
    · rw [if_neg h2, if_neg h2]
      obtain ⟨q1, q2, q3⟩ := nok_pq hN (k := k) (by omega)
      by_cases h3 : i < 0
      · rw [if_pos h3, if_pos h3]
      · rw [if_neg h3, if_neg h3]
        obtain ⟨i, hi, rfl⟩ := nI_of h3
        simp (disch := omega) only [fx_rm, Bool.false_eq_true, Option.bind_some, Option.map_some, rb_cI, rb_cL, rb_cR, rb_cV, reduceIte, ite_true, ite_false, not_true_eq_false, not_false_eq_true, true_and, and_true, Nat.reduceEqDiff, Nat.reduceAdd, Nat.reduceMul, Nat.add_sub_cancel, u_ixL, hm.2 k (by omega), m_length _ (show (N.getD k []).length ≤ 9 by omega) q3, u_lt, u_le, u_cl]
        by_cases h4 : i < (N.getD k []).length
        · rw [if_pos h4, if_neg (by omega), u_l7, u_l1, u_sub (by omega), u_sub (by omega), u_mul, pq_digit (by omega) q3 (i := i) (by omega)]
        · rw [if_neg h4, if_pos (by omega)]
/-- what a call with a number tells of a name -/
def x_at (n : Nat) (e : Int32) (g : Nat → Int32) (k : Int32) : Int32 := if k < 0 then e else if nI n ≤ k then e else g k.toNatClampNeg
theorem m_time {N : List (List Nat)} (hN : nok N) (hm : m_names F N) {f : Nat → Nat × Int32} {ck : Nat} (hf : m_files F f ck) (k : Int32) : f_M_time (some (fx_ad b 34)) k (fx_mk σ b F) = some (some (.int (x_at N.length (-1) (fun k => nI (f k).1) k)), fx_mk σ b F) := by
  have hl := hN.1
  unfold f_M_time x_at
  by_cases h1 : k < 0
  · rw [if_pos h1, if_pos h1]
  · rw [if_neg h1, if_neg h1]
    obtain ⟨k, hk, rfl⟩ := nI_of h1
    simp (disch := omega) only [fx_rm, Bool.false_eq_true, Option.bind_some, Option.map_some, rb_cI, rb_cL, rb_cR, rb_cV, reduceIte, ite_true, ite_false, not_true_eq_false, not_false_eq_true, true_and, and_true, Nat.reduceEqDiff, Nat.reduceAdd, Nat.reduceMul, Nat.add_sub_cancel, hm.1, u_le, u_lt, u_cl]
    by_cases h2 : k < N.length
    · simp (disch := omega) only [fx_rm, Bool.false_eq_true, Option.bind_some, Option.map_some, rb_cI, rb_cL, rb_cR, rb_cV, reduceIte, ite_true, ite_false, not_true_eq_false, not_false_eq_true, true_and, and_true, Nat.reduceEqDiff, Nat.reduceAdd, Nat.reduceMul, Nat.add_sub_cancel, nI_1, u_lt, u_le, u_eq, u_add, u_ix, u_ixL, u_ixR, u_cl, u_nm1, u_nm1', u_m1l, u_m1n, if_pos, if_neg, (hf.2 k (by omega)).2.1]
    · simp (disch := omega) only [nI_1, u_lt, u_le, u_eq, u_add, u_ix, u_ixL, u_ixR, u_cl, u_nm1, u_nm1', u_m1l, u_m1n, if_pos, if_neg]
theorem m_content {N : List (List Nat)} (hN : nok N) (hm : m_names F N) {f : Nat → Nat × Int32} {ck : Nat} (hf : m_files F f ck) (k : Int32) : f_M_content (some (fx_ad b 34)) k (fx_mk σ b F) = some (some (.int (x_at N.length 0 (fun k => (f k).2) k)), fx_mk σ b F) := by
  have hl := hN.1
  unfold f_M_content x_at
  by_cases h1 : k < 0
  · rw [if_pos h1, if_pos h1]
  · rw [if_neg h1, if_neg h1]
    obtain ⟨k, hk, rfl⟩ := nI_of h1
    simp (disch := omega) only [fx_rm, Bool.false_eq_true, Option.bind_some, Option.map_some, rb_cI, rb_cL, rb_cR, rb_cV, reduceIte, ite_true, ite_false, not_true_eq_false, not_false_eq_true, true_and, and_true, Nat.reduceEqDiff, Nat.reduceAdd, Nat.reduceMul, Nat.add_sub_cancel, hm.1, u_le, u_lt, u_cl]
    by_cases h2 : k < N.length
    · simp (disch := omega) only [fx_rm, Bool.false_eq_true, Option.bind_some, Option.map_some, rb_cI, rb_cL, rb_cR, rb_cV, reduceIte, ite_true, ite_false, not_true_eq_false, not_false_eq_true, true_and, and_true, Nat.reduceEqDiff, Nat.reduceAdd, Nat.reduceMul, Nat.add_sub_cancel, nI_1, u_lt, u_le, u_eq, u_add, u_ix, u_ixL, u_ixR, u_cl, u_nm1, u_nm1', u_m1l, u_m1n, if_pos, if_neg, (hf.2 k (by omega)).2.2]
    · simp (disch := omega) only [nI_1, u_lt, u_le, u_eq, u_add, u_ix, u_ixL, u_ixR, u_cl, u_nm1, u_nm1', u_m1l, u_m1n, if_pos, if_neg]
def m_fates (F : fx_F) (g : Nat → Nat) : Prop := ∀ k, k < 32 → (F.2.1 72)[k]? = some (nI (g k))
theorem m_fate {N : List (List Nat)} (hN : nok N) (hm : m_names F N) {g : Nat → Nat} (hf : m_fates F g) (k : Int32) : f_M_fate (some (fx_ad b 34)) k (fx_mk σ b F) = some (some (.int (x_at N.length (-1) (fun k => nI (g k)) k)), fx_mk σ b F) := by
  have hl := hN.1
  unfold f_M_fate x_at
  by_cases h1 : k < 0
  · rw [if_pos h1, if_pos h1]
  · rw [if_neg h1, if_neg h1]
    obtain ⟨k, hk, rfl⟩ := nI_of h1
    simp (disch := omega) only [fx_rm, Bool.false_eq_true, Option.bind_some, Option.map_some, rb_cI, rb_cL, rb_cR, rb_cV, reduceIte, ite_true, ite_false, not_true_eq_false, not_false_eq_true, true_and, and_true, Nat.reduceEqDiff, Nat.reduceAdd, Nat.reduceMul, Nat.add_sub_cancel, hm.1, u_le, u_lt, u_cl]
    by_cases h2 : k < N.length
    · simp (disch := omega) only [fx_rm, Bool.false_eq_true, Option.bind_some, Option.map_some, rb_cI, rb_cL, rb_cR, rb_cV, reduceIte, ite_true, ite_false, not_true_eq_false, not_false_eq_true, true_and, and_true, Nat.reduceEqDiff, Nat.reduceAdd, Nat.reduceMul, Nat.add_sub_cancel, nI_1, u_lt, u_le, u_eq, u_add, u_ix, u_ixL, u_ixR, u_cl, u_nm1, u_nm1', u_m1l, u_m1n, if_pos, if_neg, hf k (by omega)]
    · simp (disch := omega) only [nI_1, u_lt, u_le, u_eq, u_add, u_ix, u_ixL, u_ixR, u_cl, u_nm1, u_nm1', u_m1l, u_m1n, if_pos, if_neg]
def m_print (F : fx_F) (p : List Nat) : Prop := F.1 3472 = nI p.length ∧ rk (F.2.1 82) p
theorem m_done : f_M_done (some (fx_ad b 34)) (fx_mk σ b F) = some (some (.int (F.1 3470)), fx_mk σ b F) := by
  unfold f_M_done
  simp only [fx_rm, Bool.false_eq_true, Option.bind_some, Option.map_some, rb_cI, rb_cL, rb_cR, rb_cV, reduceIte, ite_true, ite_false, not_true_eq_false, not_false_eq_true, true_and, and_true, Nat.reduceEqDiff, Nat.reduceAdd, Nat.reduceMul, Nat.add_sub_cancel]
theorem m_printed {p : List Nat} (hp : m_print F p) : f_M_printed (some (fx_ad b 34)) (fx_mk σ b F) = some (some (.int (nI p.length)), fx_mk σ b F) := by
  unfold f_M_printed
  simp only [fx_rm, Bool.false_eq_true, Option.bind_some, Option.map_some, rb_cI, rb_cL, rb_cR, rb_cV, reduceIte, ite_true, ite_false, not_true_eq_false, not_false_eq_true, true_and, and_true, Nat.reduceEqDiff, Nat.reduceAdd, Nat.reduceMul, Nat.add_sub_cancel, hp.1]
theorem m_printedAt {p : List Nat} (h4 : p.length ≤ 400) (hp : m_print F p) (i : Int32) : f_M_printedAt (some (fx_ad b 34)) i (fx_mk σ b F) = some (some (.int (x_at p.length (-1) (fun k => nI (p.getD k 0)) i)), fx_mk σ b F) := by
  unfold f_M_printedAt x_at
  by_cases h1 : i < 0
  · rw [if_pos h1, if_pos h1]
  · rw [if_neg h1, if_neg h1]
    obtain ⟨k, hk, rfl⟩ := nI_of h1
    simp (disch := omega) only [fx_rm, Bool.false_eq_true, Option.bind_some, Option.map_some, rb_cI, rb_cL, rb_cR, rb_cV, reduceIte, ite_true, ite_false, not_true_eq_false, not_false_eq_true, true_and, and_true, Nat.reduceEqDiff, Nat.reduceAdd, Nat.reduceMul, Nat.add_sub_cancel, hp.1, u_le, u_lt, u_cl]
    by_cases h2 : k < p.length
    · simp (disch := omega) only [fx_rm, Bool.false_eq_true, Option.bind_some, Option.map_some, rb_cI, rb_cL, rb_cR, rb_cV, reduceIte, ite_true, ite_false, not_true_eq_false, not_false_eq_true, true_and, and_true, Nat.reduceEqDiff, Nat.reduceAdd, Nat.reduceMul, Nat.add_sub_cancel, nI_1, u_lt, u_le, u_eq, u_add, u_ix, u_ixL, u_ixR, u_cl, u_nm1, u_nm1', u_m1l, u_m1n, if_pos, if_neg, rk_getD hp.2 h2]
    · simp (disch := omega) only [nI_1, u_lt, u_le, u_eq, u_add, u_ix, u_ixL, u_ixR, u_cl, u_nm1, u_nm1', u_m1l, u_m1n, if_pos, if_neg]
end
