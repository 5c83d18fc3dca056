/-! the reference: meeting names, writing files -/
def fr (zi za zl : List Nat) (F F' : fx_F) : Prop := (∀ z, z ∉ zi → F'.1 z = F.1 z) ∧ (∀ o, o ∉ za → F'.2.1 o = F.2.1 o) ∧ (∀ o, o ∉ zl → F'.2.2.1 o = F.2.2.1 o) ∧ F'.2.2.2 = F.2.2.2
theorem fr_refl (zi za zl : List Nat) (F : fx_F) : fr zi za zl F F := ⟨fun _ _ => rfl, fun _ _ => rfl, fun _ _ => rfl, rfl⟩
theorem fr_trans {zi za zl : List Nat} {F G H : fx_F} (h1 : fr zi za zl F G) (h2 : fr zi za zl G H) : fr zi za zl F H := ⟨fun z h => (h2.1 z h).trans (h1.1 z h), fun z h => (h2.2.1 z h).trans (h1.2.1 z h), fun z h => (h2.2.2.1 z h).trans (h1.2.2.1 z h), h2.2.2.2.trans h1.2.2.2⟩
theorem fr_mono {zi za zl zi' za' zl' : List Nat} {F G : fx_F} (h : fr zi za zl F G) (h1 : ∀ z, z ∈ zi → z ∈ zi') (h2 : ∀ z, z ∈ za → z ∈ za') (h3 : ∀ z, z ∈ zl → z ∈ zl') : fr zi' za' zl' F G := ⟨fun z q => h.1 z (fun r => q (h1 z r)), fun z q => h.2.1 z (fun r => q (h2 z r)), fun z q => h.2.2.1 z (fun r => q (h3 z r)), h.2.2.2⟩
theorem fr_I {zi za zl : List Nat} {F G : fx_F} (h : fr zi za zl F G) {z : Nat} {x : Int32} (hz : z ∈ zi) : fr zi za zl F (fx_I G z x) := ⟨fun y hy => by
  rw [fx_I_1, if_neg (fun (e : y = z) => hy (by rw [e]; exact hz))]
  exact h.1 y hy, h.2⟩
theorem fr_A {zi za zl : List Nat} {F G : fx_F} (h : fr zi za zl F G) {z : Nat} {x : List Int32} (hz : z ∈ za) : fr zi za zl F (fx_A G z x) := ⟨h.1, fun y hy => by
  rw [fx_A_A, if_neg (fun (e : y = z) => hy (by rw [e]; exact hz))]
  exact h.2.1 y hy, h.2.2⟩
theorem fr_L {zi za zl : List Nat} {F G : fx_F} (h : fr zi za zl F G) {z : Nat} {x : List Int64} (hz : z ∈ zl) : fr zi za zl F (fx_L G z x) := ⟨h.1, h.2.1, fun y hy => by
  rw [fx_L_L, if_neg (fun (e : y = z) => hy (by rw [e]; exact hz))]
  exact h.2.2.1 y hy, h.2.2.2⟩
theorem m_isName (σ : rb_St) {w : List Nat} (hw : pq_ok w) : f_M_isName (pk w) σ = some (some (.int (if sp_name w = true then nI 1 else nI 0)), σ) := by
  unfold pk
  by_cases h : w.length ≤ 9
  · rw [if_pos h]
    exact sp_M_isName σ h hw
  · rw [if_neg h, sp_M_isName_m1]
    have : ¬ sp_name w = true := fun q => by
      have := (sp_name_ok q).2.2
      omega
    rw [if_neg this]
    rfl
theorem m_length (σ : rb_St) {w : List Nat} (hl : w.length ≤ 9) (hw : pq_ok w) : f_M_length (lN (pq w)) σ = some (some (.int (nI w.length)), σ) := sp_M_length σ hl hw
theorem pk_of {w : List Nat} (hl : w.length ≤ 9) : pk w = lN (pq w) := if_pos hl
def nmeet (N : List (List Nat)) (w : List Nat) : Option Nat × List (List Nat) := match nf N w with
  | some k => (some k, N)
  | none => if sp_name w = true ∧ N.length < 32 then (some N.length, N ++ [w]) else (none, N)
theorem nf_name {N : List (List Nat)} (hN : nok N) {w : List Nat} {k : Nat} (h : nf N w = some k) : sp_name w = true := by
  have h1 := hN.2 k (nf_lt h)
  rw [nf_is h] at h1
  exact h1
theorem getD_app_l {α : Type} {l : List α} {x d : α} {k : Nat} (h : k < l.length) : (l ++ [x]).getD k d = l.getD k d := by simp [List.getD, List.getElem?_append_left h]
theorem getD_app_r {α : Type} {l : List α} {x d : α} : (l ++ [x]).getD l.length d = x := by simp [List.getD]
theorem nok_app {N : List (List Nat)} (hN : nok N) {w : List Nat} (hw : sp_name w = true) (hl : N.length < 32) : nok (N ++ [w]) := by
  refine ⟨by simp; omega, fun k hk => ?_⟩
  by_cases h : k < N.length
  · rw [getD_app_l h]
    exact hN.2 k h
  · have : k = N.length := by simp at hk; omega
    subst this
    rw [getD_app_r]
    exact hw
theorem nmeet_ok {N : List (List Nat)} (hN : nok N) (w : List Nat) : nok (nmeet N w).2 := by
  unfold nmeet
  split
  · exact hN
  · split
    · rename_i h
      exact nok_app hN h.1 h.2
    · exact hN
theorem nmeet_lt {N : List (List Nat)} {w : List Nat} {k : Nat} (h : (nmeet N w).1 = some k) : k < (nmeet N w).2.length := by
  unfold nmeet at *
  cases hf : nf N w with
  | some j =>
    rw [hf] at h
    simp only at h ⊢
    cases h
    exact nf_lt hf
  | none =>
    rw [hf] at h
    simp only at h ⊢
    split at h
    · rename_i hc
      rw [if_pos hc]
      cases h
      simp
    · cases h
section
variable {σ : rb_St} {b : Nat} {F : fx_F}
theorem m_meet (hb : rb_b σ ≤ b) (hF : fx_ln F) {N : List (List Nat)} (hN : nok N) (hm : m_names F N) {w : List Nat} (hw : pq_ok w) : ∃ F', f_M_meet (some (fx_ad b 34)) (pk w) (fx_mk σ b F) = some (some (.int (oi (nmeet N w).1)), fx_mk σ b F') ∧ m_names F' (nmeet N w).2 ∧ fx_ln F' ∧ fr [3402] [] [36] F F' := by
  have hl := hN.1
  have hL := hF.2.1 36
  simp only [fx_cL] at hL
  unfold f_M_meet
  rw [m_isName _ hw]
  simp only [rb_cI]
  by_cases hn : sp_name w = true
  · rw [if_pos hn, if_neg (by decide)]
    simp only [fx_rm, Bool.false_eq_true, Option.bind_some, Option.map_some, rb_cI, rb_cL, rb_cR, rb_cV, reduceIte, ite_true, ite_false, not_true_eq_false, not_false_eq_true, true_and, and_true, Nat.reduceEqDiff, Nat.reduceAdd, Nat.reduceMul, Nat.add_sub_cancel]
    rw [m_find hN hm hw]
    simp only [rb_cI]
    unfold f_M_meet_j16 nmeet
    cases hf : nf N w with
    | some k =>
      have := nf_lt hf
      simp only [oi_some]
      rw [if_pos (nI_pos' (show k < 2 ^ 31 by omega))]
      exact ⟨F, rfl, hm, hF, fr_refl _ _ _ _⟩
    | none =>
      simp only [oi_none]
      rw [if_neg (show ¬ (0 : Int32) ≤ -1 by decide), m_isName _ hw]
      simp only [rb_cI]
      rw [if_pos hn, if_neg (show ¬ nI 1 = 0 by decide)]
      by_cases h32 : N.length < 32
      · rw [if_pos ⟨hn, h32⟩]
        refine ⟨fx_I (fx_L F 36 ((F.2.2.1 36).set N.length (pk w))) 3402 (nI (N.length + 1)), ?_, ?_, ?_, ?_⟩
        · simp (disch := omega) only [fx_rm, fx_wm hb, Bool.false_eq_true, Option.bind_some, Option.map_some, rb_cI, rb_cL, rb_cR, rb_cV, reduceIte, ite_true, ite_false, not_true_eq_false, not_false_eq_true, true_and, and_true, Nat.reduceEqDiff, Nat.reduceAdd, Nat.reduceMul, Nat.add_sub_cancel, fx_II, fx_AA, fx_LL, fx_I_1, fx_I_A, fx_I_L, fx_I_R, fx_I_Q, fx_A_1, fx_A_A, fx_A_L, fx_A_R, fx_A_Q, fx_L_1, fx_L_A, fx_L_L, fx_L_R, fx_L_Q, fx_R_1, fx_R_A, fx_R_L, fx_R_R, fx_R_Q, fx_Q_1, fx_Q_A, fx_Q_L, fx_Q_R, fx_Q_Q, hm.1, u_l0, u_l1, u_l2, u_l3, u_l4, u_l6, u_l7, u_l8, u_l9, u_l10, u_l14, u_l16, u_l18, u_l26, u_l31, u_l32, u_l36, u_l37, u_l40, u_l41, u_l42, u_l46, u_l48, u_l57, u_l58, u_l60, u_l61, u_l62, u_l63, u_l64, u_l65, u_l80, u_l90, u_l92, u_l95, u_l97, u_l120, u_l122, u_l126, u_l127, u_l320, u_l400, nI_1, u_lt, u_le, u_eq, u_add, u_ix, u_ixL, u_ixR, u_cl, u_nm1, u_nm1', u_m1l, u_m1n, if_pos, if_neg, u_sb1, oi_some]
        · refine ⟨?_, fun k hk => ?_⟩
          · simp [fx_I_1]
          · simp only [fx_II, fx_AA, fx_LL, fx_I_1, fx_I_A, fx_I_L, fx_I_R, fx_I_Q, fx_A_1, fx_A_A, fx_A_L, fx_A_R, fx_A_Q, fx_L_1, fx_L_A, fx_L_L, fx_L_R, fx_L_Q, fx_R_1, fx_R_A, fx_R_L, fx_R_R, fx_R_Q, fx_Q_1, fx_Q_A, fx_Q_L, fx_Q_R, fx_Q_Q, Bool.false_eq_true, Option.bind_some, Option.map_some, rb_cI, rb_cL, rb_cR, rb_cV, reduceIte, ite_true, ite_false, not_true_eq_false, not_false_eq_true, true_and, and_true, Nat.reduceEqDiff, Nat.reduceAdd, Nat.reduceMul, Nat.add_sub_cancel]
            rw [List.getElem?_set]
            simp only [List.length_append, List.length_singleton] at hk
            by_cases hk2 : N.length = k
            · subst hk2
              rw [if_pos rfl, if_pos (by omega), getD_app_r, pk_of (by have := (sp_name_ok hn).2.2; omega)]
            · rw [if_neg hk2, getD_app_l (by omega)]
              exact hm.2 k (by omega)
        · exact fx_lnI (fx_lnL hF (by rw [List.length_set]; exact hF.2.1 _))
        · exact fr_I (fr_L (fr_refl _ _ _ _) (by decide)) (by decide)
      · rw [if_neg (fun q => h32 q.2)]
        refine ⟨F, ?_, hm, hF, fr_refl _ _ _ _⟩
        have : N.length = 32 := by omega
        simp (disch := omega) only [fx_rm, Bool.false_eq_true, Option.bind_some, Option.map_some, rb_cI, rb_cL, rb_cR, rb_cV, reduceIte, ite_true, ite_false, not_true_eq_false, not_false_eq_true, true_and, and_true, Nat.reduceEqDiff, Nat.reduceAdd, Nat.reduceMul, Nat.add_sub_cancel, hm.1, this, u_l32, nI_1, u_lt, u_le, u_eq, u_add, u_ix, u_ixL, u_ixR, u_cl, u_nm1, u_nm1', u_m1l, u_m1n, if_pos, if_neg, oi_none]
  · rw [if_neg hn, if_pos (show nI 0 = 0 from rfl)]
    have hf : nf N w = none := by
      cases h : nf N w with
      | none => rfl
      | some k => exact absurd (nf_name hN h) hn
    unfold nmeet f_M_meet_j16
    rw [hf, if_neg (show ¬ (0 : Int32) ≤ -1 by decide), m_isName _ hw]
    simp only [rb_cI]
    rw [if_neg hn, if_pos (show nI 0 = 0 from rfl), if_neg (fun q => hn q.1)]
    exact ⟨F, rfl, hm, hF, fr_refl _ _ _ _⟩
/-- the files: of each name its time, 0 when it is none, and its content -/
def m_files (F : fx_F) (f : Nat → Nat × Int32) (ck : Nat) : Prop := F.1 3407 = nI ck ∧ ∀ k, k < 32 → (F.2.1 37)[k]? = some (nI (if (f k).1 = 0 then 0 else 1)) ∧ (F.2.1 38)[k]? = some (nI (f k).1) ∧ (F.2.1 39)[k]? = some (f k).2
def fok (f : Nat → Nat × Int32) (ck : Nat) : Prop := ∀ k, (f k).1 ≤ ck
def up1 {α : Type} (f : Nat → α) (k : Nat) (x : α) : Nat → α := fun j => if j = k then x else f j
theorem up1_eq {α : Type} (f : Nat → α) (k : Nat) (x : α) : up1 f k x k = x := if_pos rfl
theorem up1_ne {α : Type} {f : Nat → α} {k j : Nat} {x : α} (h : j ≠ k) : up1 f k x j = f j := if_neg h
theorem set_get {α : Type} {l : List α} {k j : Nat} {x : α} (h : k < l.length) : (l.set k x)[j]? = if j = k then some x else l[j]? := by
  rw [List.getElem?_set]
  by_cases e : k = j
  · subst e
    rw [if_pos rfl, if_pos h, if_pos rfl]
  · rw [if_neg e, if_neg (fun q => e q.symm)]
theorem m_write (hb : rb_b σ ≤ b) (hF : fx_ln F) {f : Nat → Nat × Int32} {ck : Nat} (hm : m_files F f ck) {k : Nat} (hk : k < 32) (x : Int32) : ∃ F', f_M_write (some (fx_ad b 34)) (nI k) x (fx_mk σ b F) = some (none, fx_mk σ b F') ∧ m_files F' (up1 f k (ck + 1, x)) (ck + 1) ∧ fx_ln F' ∧ fr [3407] [37, 38, 39] [] F F' := by
  have h7 := hF.1 37
  have h8 := hF.1 38
  have h9 := hF.1 39
  simp only [fx_cI] at h7 h8 h9
  refine ⟨fx_A (fx_A (fx_A (fx_I F 3407 (nI (ck + 1))) 37 ((F.2.1 37).set k (nI 1))) 38 ((F.2.1 38).set k (nI (ck + 1)))) 39 ((F.2.1 39).set k x), ?_, ⟨?_, fun j hj => ?_⟩, ?_, ?_⟩
  · unfold f_M_write
    simp (disch := omega) only [fx_rm, fx_wm hb, Bool.false_eq_true, Option.bind_some, Option.map_some, rb_cI, rb_cL, rb_cR, rb_cV, reduceIte, ite_true, ite_false, not_true_eq_false, not_false_eq_true, true_and, and_true, Nat.reduceEqDiff, Nat.reduceAdd, Nat.reduceMul, Nat.add_sub_cancel, fx_II, fx_AA, fx_LL, fx_I_1, fx_I_A, fx_I_L, fx_I_R, fx_I_Q, fx_A_1, fx_A_A, fx_A_L, fx_A_R, fx_A_Q, fx_L_1, fx_L_A, fx_L_L, fx_L_R, fx_L_Q, fx_R_1, fx_R_A, fx_R_L, fx_R_R, fx_R_Q, fx_Q_1, fx_Q_A, fx_Q_L, fx_Q_R, fx_Q_Q, hm.1, u_l0, u_l1, nI_1, u_lt, u_le, u_eq, u_add, u_ix, u_ixL, u_ixR, u_cl, u_nm1, u_nm1', u_m1l, u_m1n, if_pos, if_neg, u_nar2, u_nar4, u_lt]
  · simp [fx_II, fx_AA, fx_LL, fx_I_1, fx_I_A, fx_I_L, fx_I_R, fx_I_Q, fx_A_1, fx_A_A, fx_A_L, fx_A_R, fx_A_Q, fx_L_1, fx_L_A, fx_L_L, fx_L_R, fx_L_Q, fx_R_1, fx_R_A, fx_R_L, fx_R_R, fx_R_Q, fx_Q_1, fx_Q_A, fx_Q_L, fx_Q_R, fx_Q_Q]
  · have := hm.2 j hj
    simp only [fx_II, fx_AA, fx_LL, fx_I_1, fx_I_A, fx_I_L, fx_I_R, fx_I_Q, fx_A_1, fx_A_A, fx_A_L, fx_A_R, fx_A_Q, fx_L_1, fx_L_A, fx_L_L, fx_L_R, fx_L_Q, fx_R_1, fx_R_A, fx_R_L, fx_R_R, fx_R_Q, fx_Q_1, fx_Q_A, fx_Q_L, fx_Q_R, fx_Q_Q, Bool.false_eq_true, Option.bind_some, Option.map_some, rb_cI, rb_cL, rb_cR, rb_cV, reduceIte, ite_true, ite_false, not_true_eq_false, not_false_eq_true, true_and, and_true, Nat.reduceEqDiff, Nat.reduceAdd, Nat.reduceMul, Nat.add_sub_cancel]
    rw [set_get (by omega), set_get (by omega), set_get (by omega)]
    unfold up1
    by_cases e : j = k
    · simp [e]
    · simp only [if_neg e]
      exact this
  · exact fx_lnA (fx_lnA (fx_lnA (fx_lnI hF) (by rw [List.length_set]; exact hF.1 _)) (by rw [List.length_set]; exact hF.1 _)) (by rw [List.length_set]; exact hF.1 _)
  · exact fr_A (fr_A (fr_A (fr_I (fr_refl _ _ _ _) (by decide)) (by decide)) (by decide)) (by decide)
theorem m_remove (hb : rb_b σ ≤ b) (hF : fx_ln F) {f : Nat → Nat × Int32} {ck : Nat} (hm : m_files F f ck) {k : Nat} (hk : k < 32) : ∃ F', f_M_remove (some (fx_ad b 34)) (nI k) (fx_mk σ b F) = some (none, fx_mk σ b F') ∧ m_files F' (up1 f k (0, 0)) ck ∧ fx_ln F' ∧ fr [] [37, 38, 39] [] F F' := by
  have h7 := hF.1 37
  have h8 := hF.1 38
  have h9 := hF.1 39
  simp only [fx_cI] at h7 h8 h9
  refine ⟨fx_A (fx_A (fx_A F 37 ((F.2.1 37).set k (nI 0))) 38 ((F.2.1 38).set k (nI 0))) 39 ((F.2.1 39).set k (nI 0)), ?_, ⟨?_, fun j hj => ?_⟩, ?_, ?_⟩
  · unfold f_M_remove
    simp (disch := omega) only [fx_rm, fx_wm hb, Bool.false_eq_true, Option.bind_some, Option.map_some, rb_cI, rb_cL, rb_cR, rb_cV, reduceIte, ite_true, ite_false, not_true_eq_false, not_false_eq_true, true_and, and_true, Nat.reduceEqDiff, Nat.reduceAdd, Nat.reduceMul, Nat.add_sub_cancel, fx_II, fx_AA, fx_LL, fx_I_1, fx_I_A, fx_I_L, fx_I_R, fx_I_Q, fx_A_1, fx_A_A, fx_A_L, fx_A_R, fx_A_Q, fx_L_1, fx_L_A, fx_L_L, fx_L_R, fx_L_Q, fx_R_1, fx_R_A, fx_R_L, fx_R_R, fx_R_Q, fx_Q_1, fx_Q_A, fx_Q_L, fx_Q_R, fx_Q_Q, hm.1, u_l0, nI_1, u_lt, u_le, u_eq, u_add, u_ix, u_ixL, u_ixR, u_cl, u_nm1, u_nm1', u_m1l, u_m1n, if_pos, if_neg, u_nar2, u_nar4, u_lt]
  · exact hm.1
  · have := hm.2 j hj
    simp only [fx_II, fx_AA, fx_LL, fx_I_1, fx_I_A, fx_I_L, fx_I_R, fx_I_Q, fx_A_1, fx_A_A, fx_A_L, fx_A_R, fx_A_Q, fx_L_1, fx_L_A, fx_L_L, fx_L_R, fx_L_Q, fx_R_1, fx_R_A, fx_R_L, fx_R_R, fx_R_Q, fx_Q_1, fx_Q_A, fx_Q_L, fx_Q_R, fx_Q_Q, Bool.false_eq_true, Option.bind_some, Option.map_some, rb_cI, rb_cL, rb_cR, rb_cV, reduceIte, ite_true, ite_false, not_true_eq_false, not_false_eq_true, true_and, and_true, Nat.reduceEqDiff, Nat.reduceAdd, Nat.reduceMul, Nat.add_sub_cancel]
    rw [set_get (by omega), set_get (by omega), set_get (by omega)]
    unfold up1
    by_cases e : j = k
    · simp [e]
      rfl
    · simp only [if_neg e]
      exact this
  · exact fx_lnA (fx_lnA (fx_lnA hF (by rw [List.length_set]; exact hF.1 _)) (by rw [List.length_set]; exact hF.1 _)) (by rw [List.length_set]; exact hF.1 _)
  · exact fr_A (fr_A (fr_A (fr_refl _ _ _ _) (by decide)) (by decide)) (by decide)
end
