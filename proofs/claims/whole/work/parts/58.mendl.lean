/-! the reference: a line that may be an ending rule -/
def eS (S : List (List Nat)) (w : List Nat) (f : Option Nat) : Int64 × Int64 := match f with | none => (lN 0, lN 0) | some k => (lN (pq (S.getD k [])), pk (w.drop (S.getD k []).length))
def eP (S : List (List Nat)) (w : List Nat) (k : Nat) : Bool := decide ((S.getD k []).length < w.length ∧ w.take (S.getD k []).length = S.getD k []) && (nf S (w.drop (S.getD k []).length)).isSome
theorem slc_tak {l : List Nat} {p q n : Nat} (h : p + n ≤ q) : (slc l p q).take n = slc l p (p + n) := by
  unfold slc
  rw [List.take_take]
  congr 1
  omega
section
variable {σ : rb_St} {b : Nat} {F : fx_F} {T : List Nat}
theorem m_endLoop {o : List Nat} (ho : o.length ≤ 120) (hto : tk o) (hmo : m_out F o) {p q : Nat} (hpq : p < q) (hq : q ≤ o.length) {S : List (List Nat)} (hS : sfk S) (hs : m_sf F S) : ∀ (c : Nat), c ≤ S.length → rb_it (fun z : (Int64 × Int64 × Int32 × rb_St) => f_M_endingLine_b27 (some (fx_ad b 34)) (nI p) (nI q) (z.1) (z.2.1) (z.2.2.1) z.2.2.2) ((eS S (slc o p q) (sr (eP S (slc o p q)) (S.length - c) c)).1, (eS S (slc o p q) (sr (eP S (slc o p q)) (S.length - c) c)).2, nI c + (-1), fx_mk σ b F) = rb_it (fun z : (Int64 × Int64 × Int32 × rb_St) => f_M_endingLine_b27 (some (fx_ad b 34)) (nI p) (nI q) (z.1) (z.2.1) (z.2.2.1) z.2.2.2) ((eS S (slc o p q) (sr (eP S (slc o p q)) S.length 0)).1, (eS S (slc o p q) (sr (eP S (slc o p q)) S.length 0)).2, (-1 : Int32), fx_mk σ b F) := by
  have h6 := hS.1
  intro c
  induction c with
  | zero =>
    intro _
    rw [u_0b1, Nat.sub_zero]
  | succ c ih =>
    intro hc
    have hw := slc_len (p := p) hq
    rw [← ih (by omega), u_b1]
    have hu := sp_name_ok (hS.2 c (by omega)).1
    have hu2 := (hS.2 c (by omega)).2.1
    have ha := hs.2 c (by omega)
    have hbh := m_behind (σ := σ) (b := b) ho hto hmo (Nat.le_of_lt hpq) hq hu.2.2 hu.1
    have hsr : sr (eP S (slc o p q)) (S.length - c) c = if eP S (slc o p q) c = true then some c else sr (eP S (slc o p q)) (S.length - (c + 1)) (c + 1) := by
      rw [show S.length - c = (S.length - (c + 1)) + 1 by omega]
      rfl
    rw [hsr]
    refine rb_it_l ?_
    show f_M_endingLine_b27 _ _ _ _ _ _ _ = _
    by_cases e1 : p + (S.getD c []).length ≤ q ∧ slc o p (p + (S.getD c []).length) = S.getD c []
    · rw [if_pos e1] at hbh
      by_cases e2 : p + (S.getD c []).length < q
      · have hpk := m_packed (F := F) (σ := σ) (b := b) ho hto hmo (p := p + (S.getD c []).length) (q := q) (by omega) hq
        have hsu := m_isSuffix (σ := σ) (b := b) ⟨hS.1, fun k hk => (hS.2 k hk).1⟩ hs (tk_ok (slc_tk hto (p + (S.getD c []).length) q))
        have hP : eP S (slc o p q) c = (nf S (slc o (p + (S.getD c []).length) q)).isSome := by
          unfold eP
          rw [slc_tak e1.1, slc_drop2, decide_eq_true ⟨by omega, e1.2⟩, Bool.true_and]
        rw [hP]
        unfold f_M_endingLine_b27
        cases hin : (nf S (slc o (p + (S.getD c []).length) q)).isSome
        · rw [hin, b2_f] at hsu
          simp (disch := omega) only [↓fx_bm, ↓bL_of rfl (show c < 2147483648 by omega) ha, ↓cI_of hbh, ↓cL_of hpk, ↓cI_of hsu, ↓reduceIte, n_ltT, n_ltF, n_leT, n_leF, n_eqT, n_eqF, nI_1, u_lt, u_le, u_eq, u_add, u_ix, u_ixL, u_ixR, u_cl, u_nm1, u_nm1', u_m1l, u_m1n, u_l0, Option.bind_some, Option.map_some, not_true_eq_false, not_false_eq_true, true_and, and_true, Nat.add_sub_cancel, Bool.false_eq_true, u_nar2]
        · rw [hin, b2_t] at hsu
          simp (disch := omega) only [↓fx_bm, ↓bL_of rfl (show c < 2147483648 by omega) ha, ↓cI_of hbh, ↓cL_of hpk, ↓cI_of hsu, ↓reduceIte, n_ltT, n_ltF, n_leT, n_leF, n_eqT, n_eqF, nI_1, u_lt, u_le, u_eq, u_add, u_ix, u_ixL, u_ixR, u_cl, u_nm1, u_nm1', u_m1l, u_m1n, u_l0, Option.bind_some, Option.map_some, not_true_eq_false, not_false_eq_true, true_and, and_true, Nat.add_sub_cancel, Bool.false_eq_true, u_nar2, eS, slc_drop2]
      · have hP : eP S (slc o p q) c = false := by
          unfold eP
          rw [decide_eq_false (fun h => e2 (by omega)), Bool.false_and]
        rw [hP]
        unfold f_M_endingLine_b27
        simp (disch := omega) only [↓fx_bm, ↓bL_of rfl (show c < 2147483648 by omega) ha, ↓cI_of hbh, ↓reduceIte, n_ltT, n_ltF, n_leT, n_leF, n_eqT, n_eqF, nI_1, u_lt, u_le, u_eq, u_add, u_ix, u_ixL, u_ixR, u_cl, u_nm1, u_nm1', u_m1l, u_m1n, u_l0, Option.bind_some, Option.map_some, not_true_eq_false, not_false_eq_true, true_and, and_true, Nat.add_sub_cancel, Bool.false_eq_true, u_nar2]
    · have hP : eP S (slc o p q) c = false := by
        unfold eP
        rw [decide_eq_false (fun h => e1 ⟨by omega, by rw [← slc_tak (q := q) (by omega)]; exact h.2⟩), Bool.false_and]
      rw [hP]
      rw [if_neg e1] at hbh
      unfold f_M_endingLine_b27
      simp (disch := omega) only [↓fx_bm, ↓bL_of rfl (show c < 2147483648 by omega) ha, ↓cI_of hbh, show ((-1 : Int32) ≤ nI 0) = True from eq_true (by decide), ↓reduceIte, n_ltT, n_ltF, n_leT, n_leF, n_eqT, n_eqF, nI_1, u_lt, u_le, u_eq, u_add, u_ix, u_ixL, u_ixR, u_cl, u_nm1, u_nm1', u_m1l, u_m1n, u_l0, Option.bind_some, Option.map_some, not_true_eq_false, not_false_eq_true, true_and, and_true, Nat.add_sub_cancel, Bool.false_eq_true, u_nar2]
/-- an ending rule -/
theorem m_endRule (hb : rb_b σ ≤ b) (hF : fx_ln F) {R : RS} (hR : rok R) (hE : eok R) (hm : m_rules F T R) (hk1 : rNu R 1 = 1) {r s : List Nat} (hr : sp_name r = true) (hs : s = [] ∨ sp_name s = true) : ∃ F', f_M_endingLine_j116 (some (fx_ad b 34)) (pk r) (pk s) (fx_mk σ b F) = some (some (.int (nI (b2 (x_end R (r, s)).1))), fx_mk σ b F') ∧ m_res T F F' (x_end R (r, s)) ∧ F'.1 3440 = nI 3 := by
  obtain ⟨g1, g2, g3, g4, g5, g6, g7, g8, g9, g10, g11, g12⟩ := hm
  obtain ⟨r1, r2, r3, r4⟩ := hR
  have o1 := sp_name_ok hr
  have o2 : pq_ok s ∧ s.length ≤ 8 := by
    rcases hs with h | h
    · rw [h]
      exact ⟨fun c hc => (by cases hc), Nat.zero_le _⟩
    · exact ⟨(sp_name_ok h).1, (sp_name_ok h).2.2⟩
  have e8 := r3.1
  have h59 := hF.2.1 59
  have h60 := hF.2.1 60
  have h61 := hF.1 61
  simp only [fx_cL] at h59 h60
  simp only [fx_cI] at h61
  have hz : ¬ lg_cmp (pk r) (0 : Int64) = nI 0 := by
    show ¬ lg_cmp (pk r) (0 : Int64) = 0
    rw [pk_of (by omega), pq_cmp0 (pq_lt63 (by omega) o1.1), pq_pos o1.1]
    intro h
    rw [h] at o1
    exact absurd o1.2.1 (by decide)
  have hfr1 : fr [3440, 3442] [] [] F (fx_I F 3440 (nI 3)) := fr_I (fr_refl _ _ _ _) (by decide)
  have heo := m_endingOf (σ := σ) (b := b) (F := fx_I F 3440 (nI 3)) e8 r3.2 hE (m_en_fr g3 hfr1 (by decide)) o1.1 o2.1
  unfold f_M_endingLine_j116
  cases hx : x_eidx (rEn R) (r, s) with
  | some k =>
    have hkl := sr_some hx
    have hke := of_decide_eq_true hkl.2.2
    rw [hx, oi_some] at heo
    have hxe : x_end R (r, s) = (true, wNu (wOp (wEn R ((rEn R).set k ((r, s), none))) (up1 (rOp R) 2 (some k))) (up1 (rNu R) 1 3)) := by
      unfold x_end
      rw [hx]
    rw [hxe]
    generalize hF2 : fx_A (fx_I (fx_I F 3440 (nI 3)) 3442 (nI k)) 61 ((F.2.1 61).set k (-1)) = F2
    have hfr2 : fr [3440, 3442] [61] [] F F2 := by
      subst hF2
      exact fr_A (fr_I (fr_I (fr_refl _ _ _ _) (by decide)) (by decide)) (by decide)
    have hln2 : fx_ln F2 := by
      subst hF2
      exact fx_lnA (fx_lnI (fx_lnI hF)) (by rw [List.length_set]; exact hF.1 _)
    have q1 : F2.1 3440 = nI 3 := by
      subst hF2
      simp only [fx_II, fx_AA, fx_LL, fx_I_1, fx_I_A, fx_I_L, fx_I_R, fx_I_Q, fx_A_1, fx_A_A, fx_A_L, fx_A_R, fx_A_Q, fx_L_1, fx_L_A, fx_L_L, fx_L_R, fx_L_Q, fx_R_1, fx_R_A, fx_R_L, fx_R_R, fx_R_Q, fx_Q_1, fx_Q_A, fx_Q_L, fx_Q_R, fx_Q_Q, Bool.false_eq_true, Option.bind_some, Option.map_some, rb_cI, rb_cL, rb_cR, rb_cV, reduceIte, ite_true, ite_false, not_true_eq_false, not_false_eq_true, true_and, and_true, Nat.reduceEqDiff, Nat.reduceAdd, Nat.reduceMul, Nat.add_sub_cancel]
    have q2 : F2.1 3442 = nI k := by
      subst hF2
      simp only [fx_II, fx_AA, fx_LL, fx_I_1, fx_I_A, fx_I_L, fx_I_R, fx_I_Q, fx_A_1, fx_A_A, fx_A_L, fx_A_R, fx_A_Q, fx_L_1, fx_L_A, fx_L_L, fx_L_R, fx_L_Q, fx_R_1, fx_R_A, fx_R_L, fx_R_R, fx_R_Q, fx_Q_1, fx_Q_A, fx_Q_L, fx_Q_R, fx_Q_Q, Bool.false_eq_true, Option.bind_some, Option.map_some, rb_cI, rb_cL, rb_cR, rb_cV, reduceIte, ite_true, ite_false, not_true_eq_false, not_false_eq_true, true_and, and_true, Nat.reduceEqDiff, Nat.reduceAdd, Nat.reduceMul, Nat.add_sub_cancel]
    have q3 : F2.2.1 61 = (F.2.1 61).set k (-1) := by
      subst hF2
      simp only [fx_II, fx_AA, fx_LL, fx_I_1, fx_I_A, fx_I_L, fx_I_R, fx_I_Q, fx_A_1, fx_A_A, fx_A_L, fx_A_R, fx_A_Q, fx_L_1, fx_L_A, fx_L_L, fx_L_R, fx_L_Q, fx_R_1, fx_R_A, fx_R_L, fx_R_R, fx_R_Q, fx_Q_1, fx_Q_A, fx_Q_L, fx_Q_R, fx_Q_Q, Bool.false_eq_true, Option.bind_some, Option.map_some, rb_cI, rb_cL, rb_cR, rb_cV, reduceIte, ite_true, ite_false, not_true_eq_false, not_false_eq_true, true_and, and_true, Nat.reduceEqDiff, Nat.reduceAdd, Nat.reduceMul, Nat.add_sub_cancel]
    refine ⟨F2, ?_, ⟨fun _ => ⟨m_names_fr g1 hfr2 (by decide), m_sf_fr g2 hfr2 (by decide), ⟨?_, fun j hj => ?_⟩, m_cm_fr g4 hfr2 (by decide), m_pr_fr g5 hfr2 (by decide), m_defd_fr g6 hfr2 (by decide), m_ow_fr g7 hfr2 (by decide), m_fl_fr g8 hfr2 (by decide), m_op_fr g9 hfr2 (by decide), m_bo_fr g10 hfr2 (by decide), ⟨(hfr2.1 3439 (by decide)).trans g11.1, q1⟩, ⟨fun _ => ⟨k, rfl, ?_, q2⟩, fun h => (by cases h)⟩⟩, m_names_fr g1 hfr2 (by decide), hln2, fr_mono hfr2 (by decide) (by decide) (by decide)⟩, q1⟩
    · subst hF2
      simp (disch := omega) only [hz, ↓fx_bm, ↓fx_vm hb, ↓cI_of heo, u_l3, fx_II, fx_AA, fx_LL, fx_I_1, fx_I_A, fx_I_L, fx_I_R, fx_I_Q, fx_A_1, fx_A_A, fx_A_L, fx_A_R, fx_A_Q, fx_L_1, fx_L_A, fx_L_L, fx_L_R, fx_L_Q, fx_R_1, fx_R_A, fx_R_L, fx_R_R, fx_R_Q, fx_Q_1, fx_Q_A, fx_Q_L, fx_Q_R, fx_Q_Q, Nat.reduceEqDiff, ↓reduceIte, n_ltT, n_ltF, n_leT, n_leF, n_eqT, n_eqF, nI_1, u_lt, u_le, u_eq, u_add, u_ix, u_ixL, u_ixR, u_cl, u_nm1, u_nm1', u_m1l, u_m1n, u_l0, Option.bind_some, Option.map_some, not_true_eq_false, not_false_eq_true, true_and, and_true, Nat.add_sub_cancel, Bool.false_eq_true, u_nar2, f_M_endingLine_j158, f_M_endingLine_j204, b2_t]
      rfl
    · rw [hfr2.1 3437 (by decide), List.length_set]
      exact g3.1
    · rw [List.length_set] at hj
      have a := g3.2 j hj
      rw [hfr2.2.2.1 59 (by decide), hfr2.2.2.1 60 (by decide), q3, set_get (by omega)]
      by_cases ej : j = k
      · subst ej
        rw [if_pos rfl, List.getD_eq_getElem?_getD, List.getElem?_set_self (by omega)]
        rw [hke] at a
        exact ⟨a.1, a.2.1, rfl⟩
      · rw [if_neg ej, List.getD_eq_getElem?_getD, List.getElem?_set_ne (fun h => ej h.symm), ← List.getD_eq_getElem?_getD]
        exact a
    · rw [List.length_set]
      omega
  | none =>
    rw [hx, oi_none] at heo
    by_cases hfull : (rEn R).length = 8
    · have hxe : x_end R (r, s) = (false, R) := by
        unfold x_end
        rw [hx]
        exact if_pos hfull
      rw [hxe]
      have hfr2 : fr [3440, 3442] [] [] F (fx_I (fx_I F 3440 (nI 3)) 3442 (-1)) := fr_I (fr_I (fr_refl _ _ _ _) (by decide)) (by decide)
      have q3 := g3.1
      rw [hfull] at q3
      refine ⟨fx_I (fx_I F 3440 (nI 3)) 3442 (-1), ?_, ⟨fun h => (by cases h), m_names_fr g1 hfr2 (by decide), fx_lnI (fx_lnI hF), fr_mono hfr2 (by decide) (by decide) (by decide)⟩, by simp only [fx_II, fx_AA, fx_LL, fx_I_1, fx_I_A, fx_I_L, fx_I_R, fx_I_Q, fx_A_1, fx_A_A, fx_A_L, fx_A_R, fx_A_Q, fx_L_1, fx_L_A, fx_L_L, fx_L_R, fx_L_Q, fx_R_1, fx_R_A, fx_R_L, fx_R_R, fx_R_Q, fx_Q_1, fx_Q_A, fx_Q_L, fx_Q_R, fx_Q_Q, Bool.false_eq_true, Option.bind_some, Option.map_some, rb_cI, rb_cL, rb_cR, rb_cV, reduceIte, ite_true, ite_false, not_true_eq_false, not_false_eq_true, true_and, and_true, Nat.reduceEqDiff, Nat.reduceAdd, Nat.reduceMul, Nat.add_sub_cancel]⟩
      simp (disch := omega) only [hz, ↓fx_bm, ↓fx_vm hb, ↓cI_of heo, u_l3, u_l8, q3, u_0m1, fx_II, fx_AA, fx_LL, fx_I_1, fx_I_A, fx_I_L, fx_I_R, fx_I_Q, fx_A_1, fx_A_A, fx_A_L, fx_A_R, fx_A_Q, fx_L_1, fx_L_A, fx_L_L, fx_L_R, fx_L_Q, fx_R_1, fx_R_A, fx_R_L, fx_R_R, fx_R_Q, fx_Q_1, fx_Q_A, fx_Q_L, fx_Q_R, fx_Q_Q, Nat.reduceEqDiff, ↓reduceIte, n_ltT, n_ltF, n_leT, n_leF, n_eqT, n_eqF, nI_1, u_lt, u_le, u_eq, u_add, u_ix, u_ixL, u_ixR, u_cl, u_nm1, u_nm1', u_m1l, u_m1n, u_l0, Option.bind_some, Option.map_some, not_true_eq_false, not_false_eq_true, true_and, and_true, Nat.add_sub_cancel, Bool.false_eq_true, u_nar2, b2_f]
    · have hxe : x_end R (r, s) = (true, wNu (wOp (wEn R (rEn R ++ [((r, s), none)])) (up1 (rOp R) 2 (some (rEn R).length))) (up1 (rNu R) 1 3)) := by
        unfold x_end
        rw [hx]
        exact if_neg hfull
      rw [hxe]
      generalize hF2 : fx_A (fx_I (fx_L (fx_L (fx_I (fx_I F 3440 (nI 3)) 3442 (nI (rEn R).length)) 59 ((F.2.2.1 59).set (rEn R).length (pk r))) 60 ((F.2.2.1 60).set (rEn R).length (pk s))) 3437 (nI ((rEn R).length + 1))) 61 ((F.2.1 61).set (rEn R).length (-1)) = F2
      have hfr2 : fr [3440, 3442, 3437] [61] [59, 60] F F2 := by
        subst hF2
        exact fr_A (fr_I (fr_L (fr_L (fr_I (fr_I (fr_refl _ _ _ _) (by decide)) (by decide)) (by decide)) (by decide)) (by decide)) (by decide)
      have hln2 : fx_ln F2 := by
        subst hF2
        exact fx_lnA (fx_lnI (fx_lnL (fx_lnL (fx_lnI (fx_lnI hF)) (by rw [List.length_set]; exact hF.2.1 _)) (by rw [List.length_set]; exact hF.2.1 _))) (by rw [List.length_set]; exact hF.1 _)
      have q1 : F2.1 3440 = nI 3 := by
        subst hF2
        simp only [fx_II, fx_AA, fx_LL, fx_I_1, fx_I_A, fx_I_L, fx_I_R, fx_I_Q, fx_A_1, fx_A_A, fx_A_L, fx_A_R, fx_A_Q, fx_L_1, fx_L_A, fx_L_L, fx_L_R, fx_L_Q, fx_R_1, fx_R_A, fx_R_L, fx_R_R, fx_R_Q, fx_Q_1, fx_Q_A, fx_Q_L, fx_Q_R, fx_Q_Q, Bool.false_eq_true, Option.bind_some, Option.map_some, rb_cI, rb_cL, rb_cR, rb_cV, reduceIte, ite_true, ite_false, not_true_eq_false, not_false_eq_true, true_and, and_true, Nat.reduceEqDiff, Nat.reduceAdd, Nat.reduceMul, Nat.add_sub_cancel]
      have q2 : F2.1 3442 = nI (rEn R).length := by
        subst hF2
        simp only [fx_II, fx_AA, fx_LL, fx_I_1, fx_I_A, fx_I_L, fx_I_R, fx_I_Q, fx_A_1, fx_A_A, fx_A_L, fx_A_R, fx_A_Q, fx_L_1, fx_L_A, fx_L_L, fx_L_R, fx_L_Q, fx_R_1, fx_R_A, fx_R_L, fx_R_R, fx_R_Q, fx_Q_1, fx_Q_A, fx_Q_L, fx_Q_R, fx_Q_Q, Bool.false_eq_true, Option.bind_some, Option.map_some, rb_cI, rb_cL, rb_cR, rb_cV, reduceIte, ite_true, ite_false, not_true_eq_false, not_false_eq_true, true_and, and_true, Nat.reduceEqDiff, Nat.reduceAdd, Nat.reduceMul, Nat.add_sub_cancel]
      have q3 : F2.2.1 61 = (F.2.1 61).set (rEn R).length (-1) := by
        subst hF2
        simp only [fx_II, fx_AA, fx_LL, fx_I_1, fx_I_A, fx_I_L, fx_I_R, fx_I_Q, fx_A_1, fx_A_A, fx_A_L, fx_A_R, fx_A_Q, fx_L_1, fx_L_A, fx_L_L, fx_L_R, fx_L_Q, fx_R_1, fx_R_A, fx_R_L, fx_R_R, fx_R_Q, fx_Q_1, fx_Q_A, fx_Q_L, fx_Q_R, fx_Q_Q, Bool.false_eq_true, Option.bind_some, Option.map_some, rb_cI, rb_cL, rb_cR, rb_cV, reduceIte, ite_true, ite_false, not_true_eq_false, not_false_eq_true, true_and, and_true, Nat.reduceEqDiff, Nat.reduceAdd, Nat.reduceMul, Nat.add_sub_cancel]
      have q4 : F2.2.2.1 59 = (F.2.2.1 59).set (rEn R).length (pk r) := by
        subst hF2
        simp only [fx_II, fx_AA, fx_LL, fx_I_1, fx_I_A, fx_I_L, fx_I_R, fx_I_Q, fx_A_1, fx_A_A, fx_A_L, fx_A_R, fx_A_Q, fx_L_1, fx_L_A, fx_L_L, fx_L_R, fx_L_Q, fx_R_1, fx_R_A, fx_R_L, fx_R_R, fx_R_Q, fx_Q_1, fx_Q_A, fx_Q_L, fx_Q_R, fx_Q_Q, Bool.false_eq_true, Option.bind_some, Option.map_some, rb_cI, rb_cL, rb_cR, rb_cV, reduceIte, ite_true, ite_false, not_true_eq_false, not_false_eq_true, true_and, and_true, Nat.reduceEqDiff, Nat.reduceAdd, Nat.reduceMul, Nat.add_sub_cancel]
      have q5 : F2.2.2.1 60 = (F.2.2.1 60).set (rEn R).length (pk s) := by
        subst hF2
        simp only [fx_II, fx_AA, fx_LL, fx_I_1, fx_I_A, fx_I_L, fx_I_R, fx_I_Q, fx_A_1, fx_A_A, fx_A_L, fx_A_R, fx_A_Q, fx_L_1, fx_L_A, fx_L_L, fx_L_R, fx_L_Q, fx_R_1, fx_R_A, fx_R_L, fx_R_R, fx_R_Q, fx_Q_1, fx_Q_A, fx_Q_L, fx_Q_R, fx_Q_Q, Bool.false_eq_true, Option.bind_some, Option.map_some, rb_cI, rb_cL, rb_cR, rb_cV, reduceIte, ite_true, ite_false, not_true_eq_false, not_false_eq_true, true_and, and_true, Nat.reduceEqDiff, Nat.reduceAdd, Nat.reduceMul, Nat.add_sub_cancel]
      have q6 : F2.1 3437 = nI ((rEn R).length + 1) := by
        subst hF2
        simp only [fx_II, fx_AA, fx_LL, fx_I_1, fx_I_A, fx_I_L, fx_I_R, fx_I_Q, fx_A_1, fx_A_A, fx_A_L, fx_A_R, fx_A_Q, fx_L_1, fx_L_A, fx_L_L, fx_L_R, fx_L_Q, fx_R_1, fx_R_A, fx_R_L, fx_R_R, fx_R_Q, fx_Q_1, fx_Q_A, fx_Q_L, fx_Q_R, fx_Q_Q, Bool.false_eq_true, Option.bind_some, Option.map_some, rb_cI, rb_cL, rb_cR, rb_cV, reduceIte, ite_true, ite_false, not_true_eq_false, not_false_eq_true, true_and, and_true, Nat.reduceEqDiff, Nat.reduceAdd, Nat.reduceMul, Nat.add_sub_cancel]
      refine ⟨F2, ?_, ⟨fun _ => ⟨m_names_fr g1 hfr2 (by decide), m_sf_fr g2 hfr2 (by decide), ⟨?_, fun j hj => ?_⟩, m_cm_fr g4 hfr2 (by decide), m_pr_fr g5 hfr2 (by decide), m_defd_fr g6 hfr2 (by decide), m_ow_fr g7 hfr2 (by decide), m_fl_fr g8 hfr2 (by decide), m_op_fr g9 hfr2 (by decide), m_bo_fr g10 hfr2 (by decide), ⟨(hfr2.1 3439 (by decide)).trans g11.1, q1⟩, ⟨fun _ => ⟨(rEn R).length, rfl, ?_, q2⟩, fun h => (by cases h)⟩⟩, m_names_fr g1 hfr2 (by decide), hln2, fr_mono hfr2 (by decide) (by decide) (by decide)⟩, q1⟩
      · subst hF2
        simp (disch := omega) only [hz, ↓fx_bm, ↓fx_vm hb, ↓cI_of heo, u_l3, u_l8, u_0m1, g3.1, fx_II, fx_AA, fx_LL, fx_I_1, fx_I_A, fx_I_L, fx_I_R, fx_I_Q, fx_A_1, fx_A_A, fx_A_L, fx_A_R, fx_A_Q, fx_L_1, fx_L_A, fx_L_L, fx_L_R, fx_L_Q, fx_R_1, fx_R_A, fx_R_L, fx_R_R, fx_R_Q, fx_Q_1, fx_Q_A, fx_Q_L, fx_Q_R, fx_Q_Q, Nat.reduceEqDiff, ↓reduceIte, n_ltT, n_ltF, n_leT, n_leF, n_eqT, n_eqF, nI_1, u_lt, u_le, u_eq, u_add, u_ix, u_ixL, u_ixR, u_cl, u_nm1, u_nm1', u_m1l, u_m1n, u_l0, Option.bind_some, Option.map_some, not_true_eq_false, not_false_eq_true, true_and, and_true, Nat.add_sub_cancel, Bool.false_eq_true, u_nar2, f_M_endingLine_j158, f_M_endingLine_j204, b2_t]
        rfl
      · rw [q6]
        show nI ((rEn R).length + 1) = nI (rEn R ++ [((r, s), none)]).length
        simp only [List.length_append, List.length_cons, List.length_nil]
      · rw [List.length_append, List.length_cons, List.length_nil] at hj
        rw [q3, q4, q5, set_get (by omega), set_get (by omega), set_get (by omega)]
        by_cases ej : j = (rEn R).length
        · subst ej
          rw [if_pos rfl, if_pos rfl, if_pos rfl, getD_app_r, pk_of (by omega), pk_of (by omega)]
          exact ⟨rfl, rfl, rfl⟩
        · rw [if_neg ej, if_neg ej, if_neg ej, getD_app_l (by omega)]
          exact g3.2 j (by omega)
      · rw [List.length_append, List.length_cons, List.length_nil]
        omega
theorem nf_sf {S : List (List Nat)} (hS : sfk S) {w : List Nat} (h : (nf S w).isSome = true) : sp_name w = true := by
  obtain ⟨k, hk⟩ := Option.isSome_iff_exists.mp h
  rw [← nf_is hk]
  exact (hS.2 k (nf_lt hk)).1
theorem m_endingLine (hb : rb_b σ ≤ b) (hF : fx_ln F) {R : RS} (hR : rok R) (hE : eok R) (hm : m_rules F T R) (hk1 : rNu R 1 = 1) {o : List Nat} (ho : o.length ≤ 120) (hto : tk o) {W : List (Nat × Nat)} (hwo : wok o W) (h1 : 1 ≤ W.length) (hmo : m_out F o) (hmw : m_words F W) : match x_from (rSf R) (wd o W 0) with
    | none => f_M_endingLine (some (fx_ad b 34)) (fx_mk σ b F) = some (some (.int (nI 0)), fx_mk σ b F)
    | some rs => ∃ F', f_M_endingLine (some (fx_ad b 34)) (fx_mk σ b F) = some (some (.int (nI (b2 (x_end R rs).1))), fx_mk σ b F') ∧ m_res T F F' (x_end R rs) ∧ F'.1 3440 = nI 3 := by
  have hw60 := hwo.1
  have hS : sfk (rSf R) := hR.2.1
  have hs := hm.2.1
  have h6 := hS.1
  obtain ⟨c1, c2⟩ := hmw.2 0 (by omega)
  obtain ⟨p1, p2⟩ := hwo.2 0 (by omega)
  have hword := m_word (F := F) (σ := σ) (b := b) ho hto hmo hwo hmw (k := 0) (by omega)
  have hsu := m_isSuffix (σ := σ) (b := b) ⟨hS.1, fun k hk => (hS.2 k hk).1⟩ hs (tk_ok (wd_tk hto W 0))
  have hgo : f_M_endingLine (some (fx_ad b 34)) (fx_mk σ b F) = if (nf (rSf R) (wd o W 0)).isSome = true then f_M_endingLine_j116 (some (fx_ad b 34)) (pk (wd o W 0)) (lN 0) (fx_mk σ b F) else f_M_endingLine_j116 (some (fx_ad b 34)) (eS (rSf R) (wd o W 0) (sr (eP (rSf R) (wd o W 0)) (rSf R).length 0)).1 (eS (rSf R) (wd o W 0) (sr (eP (rSf R) (wd o W 0)) (rSf R).length 0)).2 (fx_mk σ b F) := by
    have hl := m_endLoop (σ := σ) (b := b) ho hto hmo p1 p2 hS hs (rSf R).length (Nat.le_refl _)
    rw [Nat.sub_self] at hl
    have hst : f_M_endingLine (some (fx_ad b 34)) (fx_mk σ b F) = rb_it (fun z : (Int64 × Int64 × Int32 × rb_St) => f_M_endingLine_b27 (some (fx_ad b 34)) (nI (W.getD 0 (0, 0)).1) (nI (W.getD 0 (0, 0)).2) (z.1) (z.2.1) (z.2.2.1) z.2.2.2) (lN 0, lN 0, nI (rSf R).length + (-1), fx_mk σ b F) := by
      have hsb : nI (rSf R).length - (1 : Int32) = nI (rSf R).length + (-1) := by
        cases (rSf R).length with
        | zero => rfl
        | succ n => rw [u_b1, u_l1, u_sb1]
      unfold f_M_endingLine
      simp (disch := omega) only [↓fx_bm, ↓bx_of u_l0 (show 0 < 2147483648 by omega) c1, ↓bx_of u_l0 (show 0 < 2147483648 by omega) c2, hs.1, hsb]
      rfl
    rw [hst]
    refine Eq.trans hl ?_
    refine rb_it_m ?_
    show f_M_endingLine_b27 _ _ _ _ _ _ _ = _
    unfold f_M_endingLine_b27
    cases hin : (nf (rSf R) (wd o W 0)).isSome
    · rw [hin, b2_f] at hsu
      simp (disch := omega) only [↓fx_bm, u_m10, ↓cL_of hword, ↓cI_of hsu, ↓reduceIte, n_ltT, n_ltF, n_leT, n_leF, n_eqT, n_eqF, nI_1, u_lt, u_le, u_eq, u_add, u_ix, u_ixL, u_ixR, u_cl, u_nm1, u_nm1', u_m1l, u_m1n, u_l0, Option.bind_some, Option.map_some, not_true_eq_false, not_false_eq_true, true_and, and_true, Nat.add_sub_cancel, Bool.false_eq_true, u_nar2]
      rfl
    · rw [hin, b2_t] at hsu
      simp (disch := omega) only [↓fx_bm, u_m10, ↓cL_of hword, ↓cI_of hsu, ↓reduceIte, n_ltT, n_ltF, n_leT, n_leF, n_eqT, n_eqF, nI_1, u_lt, u_le, u_eq, u_add, u_ix, u_ixL, u_ixR, u_cl, u_nm1, u_nm1', u_m1l, u_m1n, u_l0, Option.bind_some, Option.map_some, not_true_eq_false, not_false_eq_true, true_and, and_true, Nat.add_sub_cancel, Bool.false_eq_true, u_nar2]
      rfl
  rw [hgo]
  have hxf : x_from (rSf R) (wd o W 0) = if (nf (rSf R) (wd o W 0)).isSome = true then some (wd o W 0, []) else match sr (eP (rSf R) (wd o W 0)) (rSf R).length 0 with
    | some k => some ((rSf R).getD k [], (wd o W 0).drop ((rSf R).getD k []).length)
    | none => none := rfl
  rw [hxf]
  by_cases hin : (nf (rSf R) (wd o W 0)).isSome = true
  · rw [if_pos hin, if_pos hin]
    have := m_endRule (σ := σ) (b := b) hb hF hR hE hm hk1 (nf_sf hS hin) (Or.inl rfl : ([] : List Nat) = [] ∨ sp_name [] = true)
    exact this
  · rw [if_neg hin, if_neg hin]
    cases hx : sr (eP (rSf R) (wd o W 0)) (rSf R).length 0 with
    | none =>
      show f_M_endingLine_j116 _ (lN 0) _ _ = _
      unfold f_M_endingLine_j116
      rw [if_pos (show lg_cmp (lN 0) (0 : Int64) = 0 from rfl)]
      rfl
    | some k =>
      obtain ⟨s1, s2, s3⟩ := sr_some hx
      unfold eP at s3
      rw [Bool.and_eq_true] at s3
      have hk := (hS.2 k (by omega)).1
      have := m_endRule (σ := σ) (b := b) hb hF hR hE hm hk1 hk (Or.inr (nf_sf hS s3.2))
      rw [pk_of (by have := sp_name_ok hk; omega)] at this
      exact this
end
