/-! load: what it means, and the reference's -/
/-- the draft's tokens: a character, and how many newlines it was -/
def tkn : List Nat → List (Nat × Nat)
  | [] => []
  | [c] => [(c, if c = 10 then 1 else 0)]
  | c :: e :: l => if c = 92 ∧ e = 10 then (32, 1) :: tkn l else (c, if c = 10 then 1 else 0) :: tkn (e :: l)
def x_read (gv : Nat → Option (List Nat)) : List (Nat × Nat) → List Nat → Nat → Nat → RS → Int32 × RS
  | [], line, _, nu, R => if (x_line gv R line).1 = true then (nI 0, (x_line gv R line).2) else (-(nI nu), r0 (rN (x_line gv R line).2))
  | (c, k) :: J, line, n, nu, R => if c = 10 then (if (x_line gv R line).1 = true then x_read gv J [] (n + k) (n + k + 1) (x_line gv R line).2 else (-(nI nu), r0 (rN (x_line gv R line).2))) else x_read gv J (line ++ [c]) (n + k) nu R
def x_load (gv : Nat → Option (List Nat)) (N : List (List Nat)) (d : List Nat) : Int32 × RS := x_read gv (tkn d) [] 0 1 (r0 N)
def cnt : Nat → List (Nat × Nat) → List Nat
  | n, [] => [n]
  | n, (_, k) :: J => n :: cnt (n + k) J
def smJ : List (Nat × Nat) → Nat
  | [] => 0
  | (_, k) :: J => k + smJ J
theorem cnt_len : ∀ (J : List (Nat × Nat)) (n : Nat), (cnt n J).length = J.length + 1
  | [], _ => rfl
  | (_, k) :: J, n => by
    unfold cnt
    rw [List.length_cons, List.length_cons, cnt_len J]
theorem cnt_0 (J : List (Nat × Nat)) (n : Nat) : (cnt n J).getD 0 0 = n := by
  cases J <;> rfl
theorem tkn_2 (c e : Nat) (l : List Nat) : tkn (c :: e :: l) = if c = 92 ∧ e = 10 then (32, 1) :: tkn l else (c, if c = 10 then 1 else 0) :: tkn (e :: l) := by rw [tkn]
theorem smJ_c (c k : Nat) (J : List (Nat × Nat)) : smJ ((c, k) :: J) = k + smJ J := (rfl)
theorem cnt_c (n c k : Nat) (J : List (Nat × Nat)) : cnt n ((c, k) :: J) = n :: cnt (n + k) J := (rfl)
theorem tkn_step {d : List Nat} {i : Nat} (h : i < d.length) : tkn (d.drop i) = if d.getD i 0 = 92 ∧ i + 1 < d.length ∧ d.getD (i + 1) 0 = 10 then (32, 1) :: tkn (d.drop (i + 2)) else (d.getD i 0, if d.getD i 0 = 10 then 1 else 0) :: tkn (d.drop (i + 1)) := by
  rw [List.drop_eq_getElem_cons h, getD_get h]
  by_cases h2 : i + 1 < d.length
  · rw [List.drop_eq_getElem_cons h2, getD_get h2]
    rw [tkn_2]
    by_cases e : d[i] = 92 ∧ d[i + 1] = 10
    · rw [if_pos e, if_pos ⟨e.1, h2, e.2⟩]
    · rw [if_neg e, if_neg (show ¬ (d[i] = 92 ∧ i + 1 < d.length ∧ d[i + 1] = 10) from fun h => e ⟨h.1, h.2.2⟩)]
  · rw [if_neg (fun h => h2 h.2.1), List.drop_eq_nil_of_le (as := d) (i := i + 1) (by omega)]
    rfl
theorem tkn_len : ∀ (m : Nat) (d : List Nat), d.length ≤ m → (tkn d).length ≤ d.length
  | 0, [], _ => Nat.le_refl _
  | 0, _ :: _, h => by simp at h
  | m + 1, [], _ => Nat.le_refl _
  | m + 1, [c], _ => Nat.le_refl _
  | m + 1, c :: e :: l, h => by
    have h' : l.length + 1 ≤ m := by simpa using h
    unfold tkn
    split
    · have := tkn_len m l (by omega)
      simp only [List.length_cons]
      omega
    · have := tkn_len m (e :: l) (by simpa using h')
      simp only [List.length_cons] at this ⊢
      omega
theorem tkn_tk : ∀ (m : Nat) (d : List Nat), d.length ≤ m → tk d → tk ((tkn d).map Prod.fst)
  | 0, [], _, _ => fun c hc => by simp [tkn] at hc
  | 0, _ :: _, h, _ => by simp at h
  | m + 1, [], _, _ => fun c hc => by simp [tkn] at hc
  | m + 1, [c], _, h => h
  | m + 1, c :: e :: l, hm, h => by
    have h' : l.length + 1 ≤ m := by simpa using hm
    unfold tkn
    split
    · have := tkn_tk m l (by omega) (fun x hx => h x (by simp [hx]))
      rw [List.map_cons]
      intro x hx
      rcases List.mem_cons.mp hx with hx | hx
      · subst hx
        decide
      · exact this x hx
    · have := tkn_tk m (e :: l) (by simpa using h') (fun x hx => h x (List.mem_cons_of_mem _ hx))
      rw [List.map_cons]
      intro x hx
      rcases List.mem_cons.mp hx with hx | hx
      · subst hx
        exact h _ (List.mem_cons_self ..)
      · exact this x hx
theorem x_read_seg (gv : Nat → Option (List Nat)) : ∀ (q : Nat) (J : List (Nat × Nat)) (line : List Nat) (n nu : Nat) (R : RS), q ≤ J.length → (∀ k, k < q → ¬ (J.getD k (0, 0)).1 = 10) → x_read gv J line n nu R = x_read gv (J.drop q) (line ++ (J.take q).map Prod.fst) (n + smJ (J.take q)) nu R
  | 0, J, line, n, nu, R, _, _ => by
    rw [List.drop_zero, List.take_zero, List.map_nil, List.append_nil]
    rfl
  | q + 1, [], line, n, nu, R, h, _ => by simp at h
  | q + 1, (c, k) :: J, line, n, nu, R, h, h2 => by
    have h0 : ¬ c = 10 := h2 0 (by omega)
    have ih := x_read_seg gv q J (line ++ [c]) (n + k) nu R (by simpa using h) (fun j hj => h2 (j + 1) (by omega))
    rw [x_read, if_neg h0, ih, List.drop_succ_cons, List.take_succ_cons, List.map_cons, List.append_assoc]
    rw [smJ_c, Nat.add_assoc]
    rfl
theorem cnt_drop : ∀ (q : Nat) (J : List (Nat × Nat)) (n : Nat), q ≤ J.length → (cnt n J).drop q = cnt (n + smJ (J.take q)) (J.drop q)
  | 0, J, n, _ => by
    rw [List.drop_zero, List.take_zero, List.drop_zero]
    rfl
  | q + 1, [], n, h => by simp at h
  | q + 1, (c, k) :: J, n, h => by
    have ih := cnt_drop q J (n + k) (by simpa using h)
    rw [cnt_c, List.drop_succ_cons, ih, List.take_succ_cons, List.drop_succ_cons, smJ_c, Nat.add_assoc]
section
variable {σ : rb_St} {b : Nat} {F : fx_F} {T : List Nat} {gv : Nat → Option (List Nat)}
theorem m_copyLoop (hb : rb_b σ ≤ b) {d : List Nat} (hd : d.length ≤ 320) (htk : tk d) : ∀ (m i : Nat) (F : fx_F) (T0 C : List Nat) (n : Nat), d.length - i ≤ m → i ≤ d.length → T0.length ≤ i → C.length = T0.length → n ≤ i → fx_ln F → m_draft F d → F.1 3416 = nI T0.length → rk (F.2.1 46) T0 → rk (F.2.1 47) C → ∃ F', rb_it (fun z : (Int32 × Int32 × rb_St) => f_M_copyText_b9 (some (fx_ad b 34)) (z.1) (z.2.1) z.2.2) (nI n, nI i, fx_mk σ b F) = some (none, fx_mk σ b F') ∧ rk (F'.2.1 46) (T0 ++ (tkn (d.drop i)).map Prod.fst) ∧ rk (F'.2.1 47) (C ++ cnt n (tkn (d.drop i))) ∧ F'.1 3416 = nI (T0.length + (tkn (d.drop i)).length) ∧ F'.1 3401 = nI 0 ∧ fx_ln F' ∧ fr [3401, 3416] [46, 47] [] F F' := by
  intro m
  induction m with
  | zero =>
    intro i F T0 C n hm hi hT hC hn hF hdr hs h46 h47
    have hl47 := hF.1 47
    simp only [fx_cI] at hl47
    rw [List.drop_eq_nil_of_le (by omega)]
    refine ⟨fx_I (fx_A F 47 ((F.2.1 47).set T0.length (nI n))) 3401 (nI 0), ?_, ?_, ?_, ?_, ?_, ?_, ?_⟩
    · refine rb_it_r ?_
      show f_M_copyText_b9 _ _ _ _ = _
      unfold f_M_copyText_b9
      simp (disch := omega) only [↓fx_bm, ↓fx_vm hb, hdr.1, hs, ↓reduceIte, n_ltT, n_ltF, n_leT, n_leF, n_eqT, n_eqF, nI_1, u_lt, u_le, u_eq, u_add, u_ix, u_ixL, u_ixR, u_cl, u_nm1, u_nm1', u_m1l, u_m1n, u_l0, Option.bind_some, Option.map_some, not_true_eq_false, not_false_eq_true, true_and, and_true, Nat.add_sub_cancel, Bool.false_eq_true, u_nar2, fx_II, fx_AA, fx_LL, fx_I_1, fx_I_A, fx_I_L, fx_I_R, fx_I_Q, fx_A_1, fx_A_A, fx_A_L, fx_A_R, fx_A_Q, fx_L_1, fx_L_A, fx_L_L, fx_L_R, fx_L_Q, fx_R_1, fx_R_A, fx_R_L, fx_R_R, fx_R_Q, fx_Q_1, fx_Q_A, fx_Q_L, fx_Q_R, fx_Q_Q]
    · simp only [fx_II, fx_AA, fx_LL, fx_I_1, fx_I_A, fx_I_L, fx_I_R, fx_I_Q, fx_A_1, fx_A_A, fx_A_L, fx_A_R, fx_A_Q, fx_L_1, fx_L_A, fx_L_L, fx_L_R, fx_L_Q, fx_R_1, fx_R_A, fx_R_L, fx_R_R, fx_R_Q, fx_Q_1, fx_Q_A, fx_Q_L, fx_Q_R, fx_Q_Q, Bool.false_eq_true, Option.bind_some, Option.map_some, rb_cI, rb_cL, rb_cR, rb_cV, reduceIte, ite_true, ite_false, not_true_eq_false, not_false_eq_true, true_and, and_true, Nat.reduceEqDiff, Nat.reduceAdd, Nat.reduceMul, Nat.add_sub_cancel, tkn, List.map_nil, List.append_nil]
      exact h46
    · simp only [fx_II, fx_AA, fx_LL, fx_I_1, fx_I_A, fx_I_L, fx_I_R, fx_I_Q, fx_A_1, fx_A_A, fx_A_L, fx_A_R, fx_A_Q, fx_L_1, fx_L_A, fx_L_L, fx_L_R, fx_L_Q, fx_R_1, fx_R_A, fx_R_L, fx_R_R, fx_R_Q, fx_Q_1, fx_Q_A, fx_Q_L, fx_Q_R, fx_Q_Q, Bool.false_eq_true, Option.bind_some, Option.map_some, rb_cI, rb_cL, rb_cR, rb_cV, reduceIte, ite_true, ite_false, not_true_eq_false, not_false_eq_true, true_and, and_true, Nat.reduceEqDiff, Nat.reduceAdd, Nat.reduceMul, Nat.add_sub_cancel, tkn, cnt]
      rw [← hC]
      exact rk_push h47 (by omega) n
    · simp only [fx_II, fx_AA, fx_LL, fx_I_1, fx_I_A, fx_I_L, fx_I_R, fx_I_Q, fx_A_1, fx_A_A, fx_A_L, fx_A_R, fx_A_Q, fx_L_1, fx_L_A, fx_L_L, fx_L_R, fx_L_Q, fx_R_1, fx_R_A, fx_R_L, fx_R_R, fx_R_Q, fx_Q_1, fx_Q_A, fx_Q_L, fx_Q_R, fx_Q_Q, Bool.false_eq_true, Option.bind_some, Option.map_some, rb_cI, rb_cL, rb_cR, rb_cV, reduceIte, ite_true, ite_false, not_true_eq_false, not_false_eq_true, true_and, and_true, Nat.reduceEqDiff, Nat.reduceAdd, Nat.reduceMul, Nat.add_sub_cancel, tkn, List.length_nil]
      exact hs
    · rw [fx_I_1, if_pos rfl]
    · exact fx_lnI (fx_lnA hF (by rw [List.length_set]; exact hF.1 _))
    · exact fr_I (fr_A (fr_refl _ _ _ _) (by decide)) (by decide)
  | succ m ih =>
    intro i F T0 C n hm hi hT hC hn hF hdr hs h46 h47
    by_cases hid : i = d.length
    · exact (by
        have hl47 := hF.1 47
        simp only [fx_cI] at hl47
        rw [List.drop_eq_nil_of_le (by omega)]
        refine ⟨fx_I (fx_A F 47 ((F.2.1 47).set T0.length (nI n))) 3401 (nI 0), ?_, ?_, ?_, ?_, ?_, ?_, ?_⟩
        · refine rb_it_r ?_
          show f_M_copyText_b9 _ _ _ _ = _
          unfold f_M_copyText_b9
          simp (disch := omega) only [↓fx_bm, ↓fx_vm hb, hdr.1, hs, ↓reduceIte, n_ltT, n_ltF, n_leT, n_leF, n_eqT, n_eqF, nI_1, u_lt, u_le, u_eq, u_add, u_ix, u_ixL, u_ixR, u_cl, u_nm1, u_nm1', u_m1l, u_m1n, u_l0, Option.bind_some, Option.map_some, not_true_eq_false, not_false_eq_true, true_and, and_true, Nat.add_sub_cancel, Bool.false_eq_true, u_nar2, fx_II, fx_AA, fx_LL, fx_I_1, fx_I_A, fx_I_L, fx_I_R, fx_I_Q, fx_A_1, fx_A_A, fx_A_L, fx_A_R, fx_A_Q, fx_L_1, fx_L_A, fx_L_L, fx_L_R, fx_L_Q, fx_R_1, fx_R_A, fx_R_L, fx_R_R, fx_R_Q, fx_Q_1, fx_Q_A, fx_Q_L, fx_Q_R, fx_Q_Q]
        · simp only [fx_II, fx_AA, fx_LL, fx_I_1, fx_I_A, fx_I_L, fx_I_R, fx_I_Q, fx_A_1, fx_A_A, fx_A_L, fx_A_R, fx_A_Q, fx_L_1, fx_L_A, fx_L_L, fx_L_R, fx_L_Q, fx_R_1, fx_R_A, fx_R_L, fx_R_R, fx_R_Q, fx_Q_1, fx_Q_A, fx_Q_L, fx_Q_R, fx_Q_Q, Bool.false_eq_true, Option.bind_some, Option.map_some, rb_cI, rb_cL, rb_cR, rb_cV, reduceIte, ite_true, ite_false, not_true_eq_false, not_false_eq_true, true_and, and_true, Nat.reduceEqDiff, Nat.reduceAdd, Nat.reduceMul, Nat.add_sub_cancel, tkn, List.map_nil, List.append_nil]
          exact h46
        · simp only [fx_II, fx_AA, fx_LL, fx_I_1, fx_I_A, fx_I_L, fx_I_R, fx_I_Q, fx_A_1, fx_A_A, fx_A_L, fx_A_R, fx_A_Q, fx_L_1, fx_L_A, fx_L_L, fx_L_R, fx_L_Q, fx_R_1, fx_R_A, fx_R_L, fx_R_R, fx_R_Q, fx_Q_1, fx_Q_A, fx_Q_L, fx_Q_R, fx_Q_Q, Bool.false_eq_true, Option.bind_some, Option.map_some, rb_cI, rb_cL, rb_cR, rb_cV, reduceIte, ite_true, ite_false, not_true_eq_false, not_false_eq_true, true_and, and_true, Nat.reduceEqDiff, Nat.reduceAdd, Nat.reduceMul, Nat.add_sub_cancel, tkn, cnt]
          rw [← hC]
          exact rk_push h47 (by omega) n
        · simp only [fx_II, fx_AA, fx_LL, fx_I_1, fx_I_A, fx_I_L, fx_I_R, fx_I_Q, fx_A_1, fx_A_A, fx_A_L, fx_A_R, fx_A_Q, fx_L_1, fx_L_A, fx_L_L, fx_L_R, fx_L_Q, fx_R_1, fx_R_A, fx_R_L, fx_R_R, fx_R_Q, fx_Q_1, fx_Q_A, fx_Q_L, fx_Q_R, fx_Q_Q, Bool.false_eq_true, Option.bind_some, Option.map_some, rb_cI, rb_cL, rb_cR, rb_cV, reduceIte, ite_true, ite_false, not_true_eq_false, not_false_eq_true, true_and, and_true, Nat.reduceEqDiff, Nat.reduceAdd, Nat.reduceMul, Nat.add_sub_cancel, tkn, List.length_nil]
          exact hs
        · rw [fx_I_1, if_pos rfl]
        · exact fx_lnI (fx_lnA hF (by rw [List.length_set]; exact hF.1 _))
        · exact fr_I (fr_A (fr_refl _ _ _ _) (by decide)) (by decide))
    · have hil : i < d.length := by omega
      have hl46 := hF.1 46
      have hl47 := hF.1 47
      simp only [fx_cI] at hl46 hl47
      have hg := rk_getD hdr.2 (i := i) hil
      have hty := ty_lt (tk_get htk (k := i) hil)
      -- one token (c, k), over to i'
      have key : ∀ (c k i' : Nat), c < 127 → k ≤ 1 → i < i' → i' ≤ d.length → i + k ≤ i' → tkn (d.drop i) = (c, k) :: tkn (d.drop i') → f_M_copyText_b9 (some (fx_ad b 34)) (nI n) (nI i) (fx_mk σ b F) = some (.inl (nI (n + k), nI i', fx_mk σ b (fx_I (fx_A (fx_A F 47 ((F.2.1 47).set T0.length (nI n))) 46 ((F.2.1 46).set T0.length (nI c))) 3416 (nI (T0.length + 1))))) → ∃ F', rb_it (fun z : (Int32 × Int32 × rb_St) => f_M_copyText_b9 (some (fx_ad b 34)) (z.1) (z.2.1) z.2.2) (nI n, nI i, fx_mk σ b F) = some (none, fx_mk σ b F') ∧ rk (F'.2.1 46) (T0 ++ (tkn (d.drop i)).map Prod.fst) ∧ rk (F'.2.1 47) (C ++ cnt n (tkn (d.drop i))) ∧ F'.1 3416 = nI (T0.length + (tkn (d.drop i)).length) ∧ F'.1 3401 = nI 0 ∧ fx_ln F' ∧ fr [3401, 3416] [46, 47] [] F F' := by
        intro c k i' hc hk hii hid' hik htn hstep
        generalize hF1 : fx_I (fx_A (fx_A F 47 ((F.2.1 47).set T0.length (nI n))) 46 ((F.2.1 46).set T0.length (nI c))) 3416 (nI (T0.length + 1)) = F1 at hstep
        have hfr1 : fr [3401, 3416] [46, 47] [] F F1 := by
          subst hF1
          exact fr_I (fr_A (fr_A (fr_refl _ _ _ _) (by decide)) (by decide)) (by decide)
        have hln1 : fx_ln F1 := by
          subst hF1
          exact fx_lnI (fx_lnA (fx_lnA hF (by rw [List.length_set]; exact hF.1 _)) (by rw [List.length_set]; exact hF.1 _))
        have hdr1 : m_draft F1 d := by
          subst hF1
          exact hdr
        have hs1 : F1.1 3416 = nI (T0 ++ [c]).length := by
          subst hF1
          rw [fx_I_1, if_pos rfl, List.length_append, List.length_cons, List.length_nil]
        have h461 : rk (F1.2.1 46) (T0 ++ [c]) := by
          subst hF1
          simp only [fx_II, fx_AA, fx_LL, fx_I_1, fx_I_A, fx_I_L, fx_I_R, fx_I_Q, fx_A_1, fx_A_A, fx_A_L, fx_A_R, fx_A_Q, fx_L_1, fx_L_A, fx_L_L, fx_L_R, fx_L_Q, fx_R_1, fx_R_A, fx_R_L, fx_R_R, fx_R_Q, fx_Q_1, fx_Q_A, fx_Q_L, fx_Q_R, fx_Q_Q, Bool.false_eq_true, Option.bind_some, Option.map_some, rb_cI, rb_cL, rb_cR, rb_cV, reduceIte, ite_true, ite_false, not_true_eq_false, not_false_eq_true, true_and, and_true, Nat.reduceEqDiff, Nat.reduceAdd, Nat.reduceMul, Nat.add_sub_cancel]
          exact rk_push h46 (by omega) c
        have h471 : rk (F1.2.1 47) (C ++ [n]) := by
          subst hF1
          simp only [fx_II, fx_AA, fx_LL, fx_I_1, fx_I_A, fx_I_L, fx_I_R, fx_I_Q, fx_A_1, fx_A_A, fx_A_L, fx_A_R, fx_A_Q, fx_L_1, fx_L_A, fx_L_L, fx_L_R, fx_L_Q, fx_R_1, fx_R_A, fx_R_L, fx_R_R, fx_R_Q, fx_Q_1, fx_Q_A, fx_Q_L, fx_Q_R, fx_Q_Q, Bool.false_eq_true, Option.bind_some, Option.map_some, rb_cI, rb_cL, rb_cR, rb_cV, reduceIte, ite_true, ite_false, not_true_eq_false, not_false_eq_true, true_and, and_true, Nat.reduceEqDiff, Nat.reduceAdd, Nat.reduceMul, Nat.add_sub_cancel]
          rw [← hC]
          exact rk_push h47 (by omega) n
        obtain ⟨F', e1, e2, e3, e4, e5, e6, e7⟩ := ih i' F1 (T0 ++ [c]) (C ++ [n]) (n + k) (by omega) hid' (by rw [List.length_append, List.length_cons, List.length_nil]; omega) (by simp only [List.length_append, List.length_cons, List.length_nil, hC]) (by omega) hln1 hdr1 hs1 h461 h471
        rw [htn]
        refine ⟨F', ?_, ?_, ?_, ?_, e5, e6, fr_trans hfr1 e7⟩
        · rw [← e1]
          exact rb_it_l hstep
        · rw [List.append_assoc] at e2
          exact e2
        · rw [List.append_assoc] at e3
          exact e3
        · rw [e4]
          simp only [List.length_append, List.length_cons, List.length_nil]
          congr 1
          omega
      have hts := tkn_step hil
      by_cases c1 : d.getD i 0 = 92
      · by_cases c2 : i + 1 < d.length
        · have hg2 := rk_getD hdr.2 (i := i + 1) c2
          have hty2 := ty_lt (tk_get htk (k := i + 1) c2)
          have hi1 : nI i + (1 : Int32) = nI (i + 1) := by rw [u_l1, u_add]
          by_cases c3 : d.getD (i + 1) 0 = 10
          · rw [if_pos ⟨c1, c2, c3⟩] at hts
            refine key 32 1 (i + 2) (by omega) (by omega) (by omega) (by omega) (by omega) hts ?_
            unfold f_M_copyText_b9
            simp (disch := omega) only [↓fx_bm, ↓fx_vm hb, hdr.1, hs, ↓reduceIte, n_ltT, n_ltF, n_leT, n_leF, n_eqT, n_eqF, nI_1, u_lt, u_le, u_eq, u_add, u_ix, u_ixL, u_ixR, u_cl, u_nm1, u_nm1', u_m1l, u_m1n, u_l0, Option.bind_some, Option.map_some, not_true_eq_false, not_false_eq_true, true_and, and_true, Nat.add_sub_cancel, Bool.false_eq_true, u_nar2, fx_II, fx_AA, fx_LL, fx_I_1, fx_I_A, fx_I_L, fx_I_R, fx_I_Q, fx_A_1, fx_A_A, fx_A_L, fx_A_R, fx_A_Q, fx_L_1, fx_L_A, fx_L_L, fx_L_R, fx_L_Q, fx_R_1, fx_R_A, fx_R_L, fx_R_R, fx_R_Q, fx_Q_1, fx_Q_A, fx_Q_L, fx_Q_R, fx_Q_Q, Nat.reduceEqDiff, hg, hg2, c1, c3, u_l92, u_l10, u_l1, u_l2, u_l32, f_M_copyText_j66, f_M_copyText_j90, f_M_copyText_j106, f_M_copyText_j113, f_M_copyText_j127]
          · rw [if_neg (fun h => c3 h.2.2), if_neg (by omega)] at hts
            refine key (d.getD i 0) 0 (i + 1) (by omega) (by omega) (by omega) (by omega) (by omega) hts ?_
            unfold f_M_copyText_b9
            simp (disch := omega) only [↓fx_bm, ↓fx_vm hb, hdr.1, hs, ↓reduceIte, n_ltT, n_ltF, n_leT, n_leF, n_eqT, n_eqF, nI_1, u_lt, u_le, u_eq, u_add, u_ix, u_ixL, u_ixR, u_cl, u_nm1, u_nm1', u_m1l, u_m1n, u_l0, Option.bind_some, Option.map_some, not_true_eq_false, not_false_eq_true, true_and, and_true, Nat.add_sub_cancel, Bool.false_eq_true, u_nar2, fx_II, fx_AA, fx_LL, fx_I_1, fx_I_A, fx_I_L, fx_I_R, fx_I_Q, fx_A_1, fx_A_A, fx_A_L, fx_A_R, fx_A_Q, fx_L_1, fx_L_A, fx_L_L, fx_L_R, fx_L_Q, fx_R_1, fx_R_A, fx_R_L, fx_R_R, fx_R_Q, fx_Q_1, fx_Q_A, fx_Q_L, fx_Q_R, fx_Q_Q, Nat.reduceEqDiff, hg, hg2, c1, c3, u_l92, u_l10, u_l1, u_l2, u_l32, f_M_copyText_j65, f_M_copyText_j66, f_M_copyText_j90, f_M_copyText_j106, f_M_copyText_j113, f_M_copyText_j127, Nat.add_zero]
        · rw [if_neg (fun h => c2 h.2.1), if_neg (by omega)] at hts
          refine key (d.getD i 0) 0 (i + 1) (by omega) (by omega) (by omega) (by omega) (by omega) hts ?_
          unfold f_M_copyText_b9
          simp (disch := omega) only [↓fx_bm, ↓fx_vm hb, hdr.1, hs, ↓reduceIte, n_ltT, n_ltF, n_leT, n_leF, n_eqT, n_eqF, nI_1, u_lt, u_le, u_eq, u_add, u_ix, u_ixL, u_ixR, u_cl, u_nm1, u_nm1', u_m1l, u_m1n, u_l0, Option.bind_some, Option.map_some, not_true_eq_false, not_false_eq_true, true_and, and_true, Nat.add_sub_cancel, Bool.false_eq_true, u_nar2, fx_II, fx_AA, fx_LL, fx_I_1, fx_I_A, fx_I_L, fx_I_R, fx_I_Q, fx_A_1, fx_A_A, fx_A_L, fx_A_R, fx_A_Q, fx_L_1, fx_L_A, fx_L_L, fx_L_R, fx_L_Q, fx_R_1, fx_R_A, fx_R_L, fx_R_R, fx_R_Q, fx_Q_1, fx_Q_A, fx_Q_L, fx_Q_R, fx_Q_Q, Nat.reduceEqDiff, hg, c1, u_l92, u_l10, u_l1, u_l2, u_l32, f_M_copyText_j65, f_M_copyText_j66, f_M_copyText_j90, f_M_copyText_j106, f_M_copyText_j113, f_M_copyText_j127, Nat.add_zero]
      · rw [if_neg (fun h => c1 h.1)] at hts
        by_cases c4 : d.getD i 0 = 10
        · rw [if_pos c4] at hts
          refine key (d.getD i 0) 1 (i + 1) (by omega) (by omega) (by omega) (by omega) (by omega) hts ?_
          unfold f_M_copyText_b9
          simp (disch := omega) only [↓fx_bm, ↓fx_vm hb, hdr.1, hs, ↓reduceIte, n_ltT, n_ltF, n_leT, n_leF, n_eqT, n_eqF, nI_1, u_lt, u_le, u_eq, u_add, u_ix, u_ixL, u_ixR, u_cl, u_nm1, u_nm1', u_m1l, u_m1n, u_l0, Option.bind_some, Option.map_some, not_true_eq_false, not_false_eq_true, true_and, and_true, Nat.add_sub_cancel, Bool.false_eq_true, u_nar2, fx_II, fx_AA, fx_LL, fx_I_1, fx_I_A, fx_I_L, fx_I_R, fx_I_Q, fx_A_1, fx_A_A, fx_A_L, fx_A_R, fx_A_Q, fx_L_1, fx_L_A, fx_L_L, fx_L_R, fx_L_Q, fx_R_1, fx_R_A, fx_R_L, fx_R_R, fx_R_Q, fx_Q_1, fx_Q_A, fx_Q_L, fx_Q_R, fx_Q_Q, Nat.reduceEqDiff, hg, c4, u_l92, u_l10, u_l1, u_l2, u_l32, f_M_copyText_j65, f_M_copyText_j66, f_M_copyText_j90, f_M_copyText_j106, f_M_copyText_j113, f_M_copyText_j127, Nat.add_zero]
        · rw [if_neg c4] at hts
          refine key (d.getD i 0) 0 (i + 1) (by omega) (by omega) (by omega) (by omega) (by omega) hts ?_
          unfold f_M_copyText_b9
          simp (disch := omega) only [↓fx_bm, ↓fx_vm hb, hdr.1, hs, ↓reduceIte, n_ltT, n_ltF, n_leT, n_leF, n_eqT, n_eqF, nI_1, u_lt, u_le, u_eq, u_add, u_ix, u_ixL, u_ixR, u_cl, u_nm1, u_nm1', u_m1l, u_m1n, u_l0, Option.bind_some, Option.map_some, not_true_eq_false, not_false_eq_true, true_and, and_true, Nat.add_sub_cancel, Bool.false_eq_true, u_nar2, fx_II, fx_AA, fx_LL, fx_I_1, fx_I_A, fx_I_L, fx_I_R, fx_I_Q, fx_A_1, fx_A_A, fx_A_L, fx_A_R, fx_A_Q, fx_L_1, fx_L_A, fx_L_L, fx_L_R, fx_L_Q, fx_R_1, fx_R_A, fx_R_L, fx_R_R, fx_R_Q, fx_Q_1, fx_Q_A, fx_Q_L, fx_Q_R, fx_Q_Q, Nat.reduceEqDiff, hg, c1, c4, u_l92, u_l10, u_l1, u_l2, u_l32, f_M_copyText_j65, f_M_copyText_j66, f_M_copyText_j90, f_M_copyText_j106, f_M_copyText_j113, f_M_copyText_j127, Nat.add_zero]
end
