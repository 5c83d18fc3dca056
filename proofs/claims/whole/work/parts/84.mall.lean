/-! the whole state, the calls, and the reference's answers -/
/-- draft, (files, clock), given macros, rules with the names, fates, print, commands done -/
abbrev XS : Type := List Nat × ((Nat → Nat × Int32) × Nat) × (Nat → Option (List Nat)) × RS × (Nat → Nat) × List Nat × Nat
abbrev xD (X : XS) : List Nat := X.1
abbrev xF (X : XS) : Nat → Nat × Int32 := X.2.1.1
abbrev xC (X : XS) : Nat := X.2.1.2
abbrev xV (X : XS) : Nat → Option (List Nat) := X.2.2.1
abbrev xR (X : XS) : RS := X.2.2.2.1
abbrev xG (X : XS) : Nat → Nat := X.2.2.2.2.1
abbrev xP (X : XS) : List Nat := X.2.2.2.2.2.1
abbrev xN (X : XS) : Nat := X.2.2.2.2.2.2
def x0 : XS := ([], (fun _ => (0, 0), 0), fun _ => none, r0 [], fun _ => 0, [], 0)
def m_all (F : fx_F) (X : XS) : Prop := fx_ln F ∧ m_draft F (xD X) ∧ m_files F (xF X) (xC X) ∧ m_given F (xV X) ∧ (∃ T, T.length ≤ 320 ∧ tk T ∧ m_text F T ∧ m_rules F T (xR X)) ∧ m_fates F (xG X) ∧ m_print F (xP X) ∧ F.1 3470 = nI (xN X)
def xok (X : XS) : Prop := (xD X).length ≤ 320 ∧ tk (xD X) ∧ fok (xF X) (xC X) ∧ gok (xV X) ∧ rin (xR X) ∧ (∀ j, xG X j ≤ 3) ∧ (xP X).length ≤ 400
/-- the calls: answer and state -/
def c_type (c : Nat) (X : XS) : Int32 × XS := if ty c = true ∧ (xD X).length < 320 then (nI 1, (xD X ++ [c], X.2)) else (nI 0, X)
def c_scrap (X : XS) : XS := ([], X.2)
def c_set (X : XS) : Int32 × XS := if x_set (xD X) = true then (nI 1, ([], X.2.1, up1 (xV X) ((xD X).getD 0 0 - 65) (some ((xD X).drop 2)), X.2.2.2)) else (nI 0, X)
def c_load (X : XS) : Int32 × XS := ((x_load (xV X) (rN (xR X)) (xD X)).1, ([], X.2.1, xV X, (x_load (xV X) (rN (xR X)) (xD X)).2, fun _ => 0, xP X, xN X))
def c_edit (c : Int32) (X : XS) : Int32 × XS := match nmeet (rN (xR X)) (xD X) with
  | (none, N) => (-1, (xD X, X.2.1, xV X, wN (xR X) N, X.2.2.2.2))
  | (some k, N) => (nI k, ([], (up1 (xF X) k (xC X + 1, c), xC X + 1), xV X, wN (xR X) N, X.2.2.2.2))
def c_erase (X : XS) : Int32 × XS := match nf (rN (xR X)) (xD X) with
  | none => (nI 0, X)
  | some k => if (xF X k).1 = 0 then (nI 0, X) else (nI 1, ([], (up1 (xF X) k (0, 0), xC X), X.2.2))
def x_goal (X : XS) : Option Nat × List (List Nat) := if xD X = [] then (rOp (xR X) 1, rN (xR X)) else nmeet (rN (xR X)) (xD X)
def x_run (w t : Nat) (N : List (List Nat)) (X : XS) : BS := x_upd (xR X) (xV X) w 33 [] t ((N, xF X, xC X, []), 0, false, fun _ => 0)
def c_build (w : Int32) (X : XS) : Int32 × XS :=
  if w < 0 then (-1, X) else if ¬ w ≤ 63 then (-1, X) else match x_goal X with
  | (none, N) => (-1, (xD X, X.2.1, xV X, wN (xR X) N, X.2.2.2.2))
  | (some t, N) => ((if bG (x_run w.toNatClampNeg t N X) t = 3 then nI 2 else if op w.toNatClampNeg 8 = true ∧ (x_run w.toNatClampNeg t N X).2.2.1 = true then nI 1 else nI 0), ([], (pF (x_run w.toNatClampNeg t N X).1, pC (x_run w.toNatClampNeg t N X).1), xV X, wN (xR X) (pN (x_run w.toNatClampNeg t N X).1), bG (x_run w.toNatClampNeg t N X), pP (x_run w.toNatClampNeg t N X).1, (x_run w.toNatClampNeg t N X).2.1))
section
variable {σ : rb_St} {b : Nat} {F : fx_F} {X : XS}
theorem m_all_type (hb : rb_b σ ≤ b) (h : m_all F X) (hx : xok X) {c : Nat} (hc : c < 65536) : ∃ F', f_M_type (some (fx_ad b 34)) (nI c) (fx_mk σ b F) = some (some (.int (c_type c X).1), fx_mk σ b F') ∧ m_all F' (c_type c X).2 ∧ mF F F' := by
  obtain ⟨h1, h2, h3, h4, ⟨T, t1, t2, t3, t4⟩, h6, h7, h8⟩ := h
  obtain ⟨F', a1, a2, a3, a4⟩ := m_type (σ := σ) hb h1 hx.1 h2 hc
  have hr : ∀ d, m_draft F' d → m_all F' (d, X.2) := fun d hd => ⟨a3, hd, m_files_fr h3 a4 (by decide), m_given_fr h4 a4 (by decide), ⟨T, t1, t2, m_text_fr t3 a4 (by decide), m_rules_fr t4 a4 (by decide) (by decide) (by decide)⟩, m_fates_fr h6 a4 (by decide), m_print_fr h7 a4 (by decide), (a4.1 3470 (by decide)).trans h8⟩
  unfold c_type
  by_cases e : ty c = true ∧ (xD X).length < 320
  · rw [if_pos e] at a1 a2
    rw [if_pos e]
    exact ⟨F', a1, hr _ a2, mF_fr a4 (by decide) (by decide)⟩
  · rw [if_neg e] at a1 a2
    rw [if_neg e]
    exact ⟨F', a1, hr _ a2, mF_fr a4 (by decide) (by decide)⟩
theorem m_all_scrap (hb : rb_b σ ≤ b) (h : m_all F X) : ∃ F', f_M_scrap (some (fx_ad b 34)) (fx_mk σ b F) = some (none, fx_mk σ b F') ∧ m_all F' (c_scrap X) ∧ mF F F' := by
  obtain ⟨h1, h2, h3, h4, ⟨T, t1, t2, t3, t4⟩, h6, h7, h8⟩ := h
  obtain ⟨F', a1, a2, a3, a4⟩ := m_scrap (σ := σ) (b := b) hb h1
  exact ⟨F', a1, ⟨a3, a2, m_files_fr h3 a4 (by decide), m_given_fr h4 a4 (by decide), ⟨T, t1, t2, m_text_fr t3 a4 (by decide), m_rules_fr t4 a4 (by decide) (by decide) (by decide)⟩, m_fates_fr h6 a4 (by decide), m_print_fr h7 a4 (by decide), (a4.1 3470 (by decide)).trans h8⟩, mF_fr a4 (by decide) (by decide)⟩
theorem m_all_set (hb : rb_b σ ≤ b) (h : m_all F X) (hx : xok X) : ∃ F', f_M_set (some (fx_ad b 34)) (fx_mk σ b F) = some (some (.int (c_set X).1), fx_mk σ b F') ∧ m_all F' (c_set X).2 ∧ mF F F' := by
  obtain ⟨h1, h2, h3, h4, ⟨T, t1, t2, t3, t4⟩, h6, h7, h8⟩ := h
  obtain ⟨F', a1, a2, a3, a4, a5⟩ := m_set (σ := σ) (b := b) hb h1 hx.1 hx.2.1 h2 h4 hx.2.2.2.1
  have hr : ∀ d gv, m_draft F' d → m_given F' gv → m_all F' (d, X.2.1, gv, X.2.2.2) := fun d gv hd hg => ⟨a4, hd, m_files_fr h3 a5 (by decide), hg, ⟨T, t1, t2, m_text_fr t3 a5 (by decide), m_rules_fr t4 a5 (by decide) (by decide) (by decide)⟩, m_fates_fr h6 a5 (by decide), m_print_fr h7 a5 (by decide), (a5.1 3470 (by decide)).trans h8⟩
  unfold c_set
  by_cases e : x_set (xD X) = true
  · rw [if_pos e] at a1 a2 a3
    rw [if_pos e]
    exact ⟨F', a1, hr _ _ a2 a3, mF_fr a5 (by decide) (by decide)⟩
  · rw [if_neg e] at a1 a2 a3
    rw [if_neg e]
    exact ⟨F', a1, hr _ _ a2 a3, mF_fr a5 (by decide) (by decide)⟩
theorem m_all_load (hb : rb_b σ ≤ b) (h : m_all F X) (hx : xok X) : ∃ F', f_M_load (some (fx_ad b 34)) (fx_mk σ b F) = some (some (.int (c_load X).1), fx_mk σ b F') ∧ m_all F' (c_load X).2 ∧ mF F F' := by
  obtain ⟨h1, h2, h3, h4, ⟨T, t1, t2, t3, t4⟩, h6, h7, h8⟩ := h
  obtain ⟨F', a1, a2, a3, a4, a5, a6, a7, a8⟩ := m_load (σ := σ) (b := b) hb h1 hx.2.2.2.2.1.1.1 t4.1 hx.1 hx.2.1 h2 h4 hx.2.2.2.1
  have hl := tkn_len _ (xD X) (Nat.le_refl _)
  have h320 := hx.1
  exact ⟨F', a1, ⟨a7, a5, m_files_fr h3 a8 (by decide), m_given_fr h4 a8 (by decide), ⟨_, by rw [List.length_map]; omega, tkn_tk _ (xD X) (Nat.le_refl _) hx.2.1, a4, a2⟩, a6, m_print_fr h7 a8 (by decide), (a8.1 3470 (by decide)).trans h8⟩, mF_fr a8 (by decide) (by decide)⟩
theorem m_all_edit (hb : rb_b σ ≤ b) (h : m_all F X) (hx : xok X) (c : Int32) : ∃ F', f_M_edit (some (fx_ad b 34)) c (fx_mk σ b F) = some (some (.int (c_edit c X).1), fx_mk σ b F') ∧ m_all F' (c_edit c X).2 ∧ mF F F' := by
  obtain ⟨h1, h2, h3, h4, ⟨T, t1, t2, t3, t4⟩, h6, h7, h8⟩ := h
  have hN := hx.2.2.2.2.1.1.1
  have hdr := m_drafts (σ := σ) (b := b) hx.1 (tk_ok hx.2.1) h2
  obtain ⟨F1, a1, a2, a3, a4⟩ := m_meet (σ := σ) (b := b) hb h1 hN t4.1 (tk_ok hx.2.1)
  have hN' := nmeet_ok hN (xD X)
  have hlt := @nmeet_lt (rN (xR X)) (xD X)
  unfold c_edit
  rcases hm : nmeet (rN (xR X)) (xD X) with ⟨r, N⟩
  rw [hm] at a1 a2 hN' hlt
  have hr1 : m_rules F1 T (wN (xR X) N) := m_rules_nm t4 a2 a4 (by decide) (by decide) (by decide)
  unfold f_M_edit
  cases r with
  | none =>
    refine ⟨F1, ?_, ⟨a3, m_draft_fr h2 a4 (by decide), m_files_fr h3 a4 (by decide), m_given_fr h4 a4 (by decide), ⟨T, t1, t2, m_text_fr t3 a4 (by decide), hr1⟩, m_fates_fr h6 a4 (by decide), m_print_fr h7 a4 (by decide), (a4.1 3470 (by decide)).trans h8⟩, mF_fr a4 (by decide) (by decide)⟩
    simp only [oi_none] at a1
    simp (disch := omega) only [↓fx_bm, ↓cL_of hdr, ↓cI_of a1, u_m10, ↓reduceIte, n_ltT, n_ltF, n_leT, n_leF, n_eqT, n_eqF, nI_1, u_lt, u_le, u_eq, u_add, u_ix, u_ixL, u_ixR, u_cl, u_nm1, u_nm1', u_m1l, u_m1n, u_l0, Option.bind_some, Option.map_some, not_true_eq_false, not_false_eq_true, true_and, and_true, Nat.add_sub_cancel, Bool.false_eq_true, u_nar2]
  | some k =>
    have hk32 : k < 32 := Nat.lt_of_lt_of_le (hlt rfl) hN'.1
    obtain ⟨F2, c1, c2, c3, c4⟩ := m_write (σ := σ) (b := b) hb a3 (m_files_fr h3 a4 (by decide)) hk32 c
    have hfr3 : fr [3401] [] [] F2 (fx_I F2 3401 (nI 0)) := fr_I (fr_refl _ _ _ _) (by decide)
    refine ⟨fx_I F2 3401 (nI 0), ?_, ⟨fx_lnI c3, ⟨by rw [fx_I_1, if_pos rfl]; rfl, rk_nil _⟩, m_files_fr c2 hfr3 (by decide), m_given_fr (m_given_fr (m_given_fr h4 a4 (by decide)) c4 (by decide)) hfr3 (by decide), ⟨T, t1, t2, m_text_fr (m_text_fr (m_text_fr t3 a4 (by decide)) c4 (by decide)) hfr3 (by decide), m_rules_fr (m_rules_fr hr1 c4 (by decide) (by decide) (by decide)) hfr3 (by decide) (by decide) (by decide)⟩, m_fates_fr (m_fates_fr (m_fates_fr h6 a4 (by decide)) c4 (by decide)) hfr3 (by decide), m_print_fr (m_print_fr (m_print_fr h7 a4 (by decide)) c4 (by decide)) hfr3 (by decide), (hfr3.1 3470 (by decide)).trans ((c4.1 3470 (by decide)).trans ((a4.1 3470 (by decide)).trans h8))⟩, mF_trans (mF_fr a4 (by decide) (by decide)) (mF_trans (mF_fr c4 (by decide) (by decide)) (mF_fr hfr3 (by decide) (by decide)))⟩
    simp only [oi_some] at a1
    simp (disch := omega) only [↓fx_bm, ↓fx_vm hb, ↓cL_of hdr, ↓cI_of a1, ↓cV_of c1, ↓reduceIte, n_ltT, n_ltF, n_leT, n_leF, n_eqT, n_eqF, nI_1, u_lt, u_le, u_eq, u_add, u_ix, u_ixL, u_ixR, u_cl, u_nm1, u_nm1', u_m1l, u_m1n, u_l0, Option.bind_some, Option.map_some, not_true_eq_false, not_false_eq_true, true_and, and_true, Nat.add_sub_cancel, Bool.false_eq_true, u_nar2]
theorem m_all_erase (hb : rb_b σ ≤ b) (h : m_all F X) (hx : xok X) : ∃ F', f_M_erase (some (fx_ad b 34)) (fx_mk σ b F) = some (some (.int (c_erase X).1), fx_mk σ b F') ∧ m_all F' (c_erase X).2 ∧ mF F F' := by
  have h0 := h
  obtain ⟨h1, h2, h3, h4, ⟨T, t1, t2, t3, t4⟩, h6, h7, h8⟩ := h
  have hN := hx.2.2.2.2.1.1.1
  have hdr := m_drafts (σ := σ) (b := b) hx.1 (tk_ok hx.2.1) h2
  have hfind := m_find (σ := σ) (b := b) hN t4.1 (tk_ok hx.2.1)
  unfold c_erase f_M_erase
  cases hm : nf (rN (xR X)) (xD X) with
  | none =>
    rw [hm, oi_none] at hfind
    refine ⟨F, ?_, h0, mF_refl _⟩
    simp (disch := omega) only [↓fx_bm, ↓cL_of hdr, ↓cI_of hfind, u_m10, ↓reduceIte, n_ltT, n_ltF, n_leT, n_leF, n_eqT, n_eqF, nI_1, u_lt, u_le, u_eq, u_add, u_ix, u_ixL, u_ixR, u_cl, u_nm1, u_nm1', u_m1l, u_m1n, u_l0, Option.bind_some, Option.map_some, not_true_eq_false, not_false_eq_true, true_and, and_true, Nat.add_sub_cancel, Bool.false_eq_true, u_nar2]
  | some k =>
    rw [hm, oi_some] at hfind
    have hk32 : k < 32 := Nat.lt_of_lt_of_le (nf_lt hm) hN.1
    have hif := (h3.2 k hk32).1
    simp only
    by_cases e : (xF X k).1 = 0
    · rw [if_pos e] at hif
      rw [if_pos e]
      refine ⟨F, ?_, h0, mF_refl _⟩
      simp (disch := omega) only [↓fx_bm, ↓cL_of hdr, ↓cI_of hfind, ↓bx_of rfl (show k < 2147483648 by omega) hif, ↓reduceIte, n_ltT, n_ltF, n_leT, n_leF, n_eqT, n_eqF, nI_1, u_lt, u_le, u_eq, u_add, u_ix, u_ixL, u_ixR, u_cl, u_nm1, u_nm1', u_m1l, u_m1n, u_l0, Option.bind_some, Option.map_some, not_true_eq_false, not_false_eq_true, true_and, and_true, Nat.add_sub_cancel, Bool.false_eq_true, u_nar2]
    · rw [if_neg e] at hif
      rw [if_neg e]
      obtain ⟨F2, c1, c2, c3, c4⟩ := m_remove (σ := σ) (b := b) hb h1 h3 hk32
      have hfr3 : fr [3401] [] [] F2 (fx_I F2 3401 (nI 0)) := fr_I (fr_refl _ _ _ _) (by decide)
      refine ⟨fx_I F2 3401 (nI 0), ?_, ⟨fx_lnI c3, ⟨by rw [fx_I_1, if_pos rfl]; rfl, rk_nil _⟩, m_files_fr c2 hfr3 (by decide), m_given_fr (m_given_fr h4 c4 (by decide)) hfr3 (by decide), ⟨T, t1, t2, m_text_fr (m_text_fr t3 c4 (by decide)) hfr3 (by decide), m_rules_fr (m_rules_fr t4 c4 (by decide) (by decide) (by decide)) hfr3 (by decide) (by decide) (by decide)⟩, m_fates_fr (m_fates_fr h6 c4 (by decide)) hfr3 (by decide), m_print_fr (m_print_fr h7 c4 (by decide)) hfr3 (by decide), (hfr3.1 3470 (by decide)).trans ((c4.1 3470 (by decide)).trans h8)⟩, mF_trans (mF_fr c4 (by decide) (by decide)) (mF_fr hfr3 (by decide) (by decide))⟩
      simp (disch := omega) only [↓fx_bm, ↓fx_vm hb, ↓cL_of hdr, ↓cI_of hfind, ↓bx_of rfl (show k < 2147483648 by omega) hif, ↓cV_of c1, ↓reduceIte, n_ltT, n_ltF, n_leT, n_leF, n_eqT, n_eqF, nI_1, u_lt, u_le, u_eq, u_add, u_ix, u_ixL, u_ixR, u_cl, u_nm1, u_nm1', u_m1l, u_m1n, u_l0, Option.bind_some, Option.map_some, not_true_eq_false, not_false_eq_true, true_and, and_true, Nat.add_sub_cancel, Bool.false_eq_true, u_nar2, u_l1]
end
