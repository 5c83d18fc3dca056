/-! the reference: update -/
def muN (g : Nat → Nat) : Nat → Nat
  | 0 => 0
  | n + 1 => muN g n + (if g n = 0 then 1 else 0)
theorem muN_up (g : Nat → Nat) {t v : Nat} (h0 : g t = 0) (hv : v ≠ 0) : ∀ n, muN (up1 g t v) n + (if t < n then 1 else 0) = muN g n
  | 0 => rfl
  | n + 1 => by
    have ih := muN_up g h0 hv n
    unfold muN
    by_cases e : n = t
    · subst e
      rw [up1_eq, if_neg hv, if_pos h0, if_pos (by omega)]
      rw [if_neg (by omega)] at ih
      omega
    · rw [up1_ne e]
      by_cases l : t < n
      · rw [if_pos l] at ih
        rw [if_pos (show t < n + 1 by omega)]
        omega
      · rw [if_neg l] at ih
        rw [if_neg (show ¬ t < n + 1 by omega)]
        omega
theorem nodup_le : ∀ (n : Nat) (l : List Nat), l.Nodup → (∀ x, x ∈ l → x < n) → l.length ≤ n
  | 0, l, _, h => by
    cases l with
    | nil => exact Nat.le_refl _
    | cons a l => exact absurd (h a (List.mem_cons_self ..)) (Nat.not_lt_zero _)
  | n + 1, l, hd, h => by
    have ih := nodup_le n (l.erase n) (hd.erase n) (fun x hx => by
      have h1 := h x (List.mem_of_mem_erase hx)
      have h2 : x ≠ n := fun e => by
        subst e
        exact (List.Nodup.mem_erase_iff hd).mp hx |>.1 rfl
      omega)
    rw [List.length_erase] at ih
    split at ih <;> omega
/-- how a build may stand -/
def bok (R : RS) (S : BS) : Prop := pok S.1 ∧ pfk S.1 ∧ pC S.1 + 1801 * muN (bG S) 32 ≤ 2000000000 ∧ (∀ j, bG S j ≤ 3) ∧ (rN R).length ≤ (pN S.1).length
theorem bok_G {R : RS} {S : BS} (h : bok R S) {t v : Nat} (ht : t < 32) (h0 : bG S t = 0) (hv : v ≠ 0) (hv3 : v ≤ 3) : bok R (wG S t v) := by
  obtain ⟨h1, h2, h3, h4, h5⟩ := h
  refine ⟨h1, h2, ?_, fun j => ?_, h5⟩
  · have := muN_up (bG S) h0 hv 32
    rw [if_pos ht] at this
    show pC S.1 + 1801 * muN (up1 (bG S) t v) 32 ≤ _
    omega
  · show up1 (bG S) t v j ≤ 3
    unfold up1
    split
    · exact hv3
    · exact h4 j
theorem bok_fin {R : RS} (hR : rok R) (gv : Nat → Option (List Nat)) (w : Nat) (ch : CH) {S : BS} (h : bok R S) {t : Nat} (ht : t < 32) (h0 : bG S t = 0) : bok R (x_fin R gv w t ch S) := by
  obtain ⟨h1, h2, h3, h4, h5⟩ := h
  obtain ⟨f1, f2, f3, f4, v, f5, f6, f7⟩ := fin_ok hR gv w t ch h1 h2
  refine ⟨f1, f3, ?_, fun j => ?_, Nat.le_trans h5 f2⟩
  · have := muN_up (bG S) h0 (show v ≠ 0 by omega) 32
    rw [if_pos ht] at this
    rw [f7]
    omega
  · rw [f7]
    unfold up1
    split
    · exact f6
    · exact h4 j
theorem foldl_stuck {w : Nat} {u : List Nat} {upd : Nat → BS → BS} {a : Bool × BS} (h : a.1 = true ∧ op w 1 = false) : ∀ ds : List Nat, ds.foldl (x_dep w u upd) a = a
  | [] => rfl
  | d :: ds => by
    rw [List.foldl_cons]
    have : x_dep w u upd a d = a := if_pos h
    rw [this]
    exact foldl_stuck h ds
section
variable {σ : rb_St} {b : Nat} {F : fx_F} {T : List Nat} {gv : Nat → Option (List Nat)} {R : RS}
def m_st (T : List Nat) (gv : Nat → Option (List Nat)) (R : RS) (w : Nat) (F : fx_F) (S : BS) (u : List Nat) : Prop := m_bg T gv R w F S ∧ fx_ln F ∧ (∀ j, j < 32 → (F.2.1 73)[j]? = some (nI (b2 (decide (j ∈ u))))) ∧ F.1 3466 = nI u.length ∧ (∀ i, i < u.length → (F.2.1 80)[u.length - 1 - i]? = some (nI (u.getD i 0))) ∧ F.1 3401 = nI 0
def uok (N : List (List Nat)) (u : List Nat) : Prop := u.Nodup ∧ ∀ j, j ∈ u → j < N.length
/-- the class is as it was -/
def mF (F F' : fx_F) : Prop := (∀ z, z < 3400 → F'.1 z = F.1 z) ∧ (∀ o, o < 35 → F'.2.1 o = F.2.1 o) ∧ F'.2.2.2 = F.2.2.2
theorem mF_refl (F : fx_F) : mF F F := ⟨fun _ _ => rfl, fun _ _ => rfl, rfl⟩
theorem mF_trans {F G H : fx_F} (h1 : mF F G) (h2 : mF G H) : mF F H := ⟨fun z hz => (h2.1 z hz).trans (h1.1 z hz), fun o ho => (h2.2.1 o ho).trans (h1.2.1 o ho), h2.2.2.trans h1.2.2⟩
theorem mF_fr {zi za zl : List Nat} {F F' : fx_F} (h : fr zi za zl F F') (h1 : ∀ z, z ∈ zi → 3400 ≤ z) (h2 : ∀ o, o ∈ za → 35 ≤ o) : mF F F' := ⟨fun z hz => h.1 z (fun hm => absurd (h1 z hm) (by omega)), fun o ho => h.2.1 o (fun hm => absurd (h2 o hm) (by omega)), h.2.2.2⟩
/-- the names under way are as they were -/
def pu (u : List Nat) (F F' : fx_F) : Prop := mF F F' ∧ ∀ j, j ∈ u → (∀ o, 74 ≤ o → o ≤ 79 → (F'.2.1 o)[j]? = (F.2.1 o)[j]?) ∧ (F'.2.2.1 77)[j]? = (F.2.2.1 77)[j]?
theorem pu_refl (u : List Nat) (F : fx_F) : pu u F F := ⟨mF_refl _, fun _ _ => ⟨fun _ _ _ => rfl, rfl⟩⟩
theorem pu_trans {u : List Nat} {F G H : fx_F} (h1 : pu u F G) (h2 : pu u G H) : pu u F H := ⟨mF_trans h1.1 h2.1, fun j hj => ⟨fun o a c => ((h2.2 j hj).1 o a c).trans ((h1.2 j hj).1 o a c), (h2.2 j hj).2.trans (h1.2 j hj).2⟩⟩
theorem pu_pf {u : List Nat} {t : Nat} {F G : fx_F} (h : pf t F G) (hm : mF F G) (ht : ¬ t ∈ u) : pu u F G := ⟨hm, fun j hj => ⟨fun o a c => h.1 o j (fun e => ht (e ▸ hj)) (by omega) c, h.2 j (fun e => ht (e ▸ hj))⟩⟩
theorem pu_sub {u : List Nat} {t : Nat} {F G : fx_F} (h : pu (t :: u) F G) : pu u F G := ⟨h.1, fun j hj => h.2 j (List.mem_cons_of_mem _ hj)⟩
theorem m_ch_pu {u : List Nat} {t : Nat} {F G : fx_F} (h : pu u F G) (ht : t ∈ u) {ch : CH} (hc : m_ch F t ch) : m_ch G t ch := by
  have h1 := (h.2 t ht).1
  have h2 := (h.2 t ht).2
  unfold m_ch at *
  rw [h1 76 (by omega) (by omega), h1 78 (by omega) (by omega), h1 79 (by omega) (by omega), h2]
  exact hc
theorem m_pop (hb : rb_b σ ≤ b) (hR : rok R) {w : Nat} (hw : w < 64) (hT3 : T.length ≤ 320) (hTk : tk T) (hgo : gok gv) {S : BS} (hS : bok R S) {t : Nat} {u : List Nat} (hu : uok (pN S.1) (t :: u)) {ch : CH} (hc : chok (pN S.1) ch) (hdl : ∀ d, d ∈ x_deps R ch t → d < (pN S.1).length) (h0 : bG S t = 0) (hM : m_st T gv R w F S (t :: u)) (hch : m_ch F t ch) (fl : Bool) (h74 : (F.2.1 74)[t]? = some (nI (b2 fl))) : ∃ F', f_M_update_j61 (some (fx_ad b 34)) (nI t) (-1 : Int32) (fx_mk σ b F) = some (.inl (fx_mk σ b F')) ∧ m_st T gv R w F' (if fl = true then wG S t 3 else x_fin R gv w t ch S) u ∧ pu u F F' := by
  obtain ⟨hB, hF, m1, m2, m3, m4⟩ := hM
  have hul := nodup_le 32 (t :: u) hu.1 (fun x hx => Nat.lt_of_lt_of_le (hu.2 x hx) hS.1.1.1)
  rw [List.length_cons] at hul m2
  have ht : t < (pN S.1).length := hu.2 t (List.mem_cons_self ..)
  have ht32 : t < 32 := Nat.lt_of_lt_of_le ht hS.1.1.1
  have htu : ¬ t ∈ u := (List.nodup_cons.mp hu.1).1
  have hl73 := hF.1 73
  have hl72 := hF.1 72
  simp only [fx_cI] at hl73 hl72
  generalize hF1 : fx_A (fx_I F 3466 (nI u.length)) 73 ((F.2.1 73).set t (nI 0)) = F1
  have hfr1 : fr [3466] [73] [] F F1 := by
    subst hF1
    exact fr_A (fr_I (fr_refl _ _ _ _) (by decide)) (by decide)
  have hln1 : fx_ln F1 := by
    subst hF1
    exact fx_lnA (fx_lnI hF) (by rw [List.length_set]; exact hF.1 _)
  have hB1 : m_bg T gv R w F1 S := ⟨m_bx_fr hB.1 hfr1 (by decide) (by decide) (by decide), (hfr1.1 3469 (by decide)).trans hB.2.1, m_fates_fr hB.2.2 hfr1 (by decide)⟩
  have hch1 := m_ch_fr hch hfr1 (by decide)
  have d73 : ∀ j, j < 32 → (F1.2.1 73)[j]? = some (nI (b2 (decide (j ∈ u)))) := by
    intro j hj
    have := m1 j hj
    subst hF1
    simp only [fx_II, fx_AA, fx_LL, fx_I_1, fx_I_A, fx_I_L, fx_I_R, fx_I_Q, fx_A_1, fx_A_A, fx_A_L, fx_A_R, fx_A_Q, fx_L_1, fx_L_A, fx_L_L, fx_L_R, fx_L_Q, fx_R_1, fx_R_A, fx_R_L, fx_R_R, fx_R_Q, fx_Q_1, fx_Q_A, fx_Q_L, fx_Q_R, fx_Q_Q, Bool.false_eq_true, Option.bind_some, Option.map_some, rb_cI, rb_cL, rb_cR, rb_cV, reduceIte, ite_true, ite_false, not_true_eq_false, not_false_eq_true, true_and, and_true, Nat.reduceEqDiff, Nat.reduceAdd, Nat.reduceMul, Nat.add_sub_cancel]
    rw [set_get (by omega)]
    by_cases e : j = t
    · rw [if_pos e, e, decide_eq_false htu, b2_f]
    · rw [if_neg e, this]
      simp only [List.mem_cons, e, false_or]
  have d66 : F1.1 3466 = nI u.length := by
    subst hF1
    simp only [fx_II, fx_AA, fx_LL, fx_I_1, fx_I_A, fx_I_L, fx_I_R, fx_I_Q, fx_A_1, fx_A_A, fx_A_L, fx_A_R, fx_A_Q, fx_L_1, fx_L_A, fx_L_L, fx_L_R, fx_L_Q, fx_R_1, fx_R_A, fx_R_L, fx_R_R, fx_R_Q, fx_Q_1, fx_Q_A, fx_Q_L, fx_Q_R, fx_Q_Q, Bool.false_eq_true, Option.bind_some, Option.map_some, rb_cI, rb_cL, rb_cR, rb_cV, reduceIte, ite_true, ite_false, not_true_eq_false, not_false_eq_true, true_and, and_true, Nat.reduceEqDiff, Nat.reduceAdd, Nat.reduceMul, Nat.add_sub_cancel]
  have d80 : ∀ i, i < u.length → (F1.2.1 80)[u.length - 1 - i]? = some (nI (u.getD i 0)) := by
    intro i hi
    have := m3 (i + 1) (by rw [List.length_cons]; omega)
    rw [List.length_cons, show u.length + 1 - 1 - (i + 1) = u.length - 1 - i by omega] at this
    rw [hfr1.2.1 80 (by decide)]
    exact this
  have d74 : (F1.2.1 74)[t]? = some (nI (b2 fl)) := by
    rw [hfr1.2.1 74 (by decide)]
    exact h74
  have hpu1 : pu u F F1 := ⟨mF_fr hfr1 (by decide) (by decide), fun j hj => ⟨fun o a c => by rw [hfr1.2.1 o (by simp; omega)], by rw [hfr1.2.2.1 77 (by decide)]⟩⟩
  -- writing the fate
  have hend : ∀ (F2 : fx_F) (S2 : BS) (v : Nat), fx_ln F2 → m_bx T gv R w F2 S2.1 S2.2.1 → F2.1 3469 = nI (b2 S2.2.2.1) → fr zFi zFa [36] F1 F2 → bG S2 = up1 (bG S) t v → m_st T gv R w (fx_A F2 72 ((F2.2.1 72).set t (nI v))) S2 u ∧ pu u F (fx_A F2 72 ((F2.2.1 72).set t (nI v))) := by
    intro F2 S2 v hln2 hB2 hc69 hfr2 hg2
    have hl2 := hln2.1 72
    simp only [fx_cI] at hl2
    have hfr3 : fr [] [72] [] F2 (fx_A F2 72 ((F2.2.1 72).set t (nI v))) := fr_A (fr_refl _ _ _ _) (by decide)
    refine ⟨⟨⟨m_bx_fr hB2 hfr3 (by decide) (by decide) (by decide), hc69, fun j hj => ?_⟩, fx_lnA hln2 (by rw [List.length_set]; exact hln2.1 _), fun j hj => ?_, ?_, fun i hi => ?_, ?_⟩, ?_⟩
    · rw [fx_A_A, if_pos rfl, set_get (by omega), hg2]
      by_cases e : j = t
      · rw [if_pos e, e, up1_eq]
      · rw [if_neg e, up1_ne e, hfr2.2.1 72 (by decide)]
        exact hB1.2.2 j hj
    · rw [hfr3.2.1 73 (by decide), hfr2.2.1 73 (by decide)]
      exact d73 j hj
    · rw [hfr3.1 3466 (by decide), hfr2.1 3466 (by decide)]
      exact d66
    · rw [hfr3.2.1 80 (by decide), hfr2.2.1 80 (by decide)]
      exact d80 i hi
    · rw [hfr3.1 3401 (by decide), hfr2.1 3401 (by decide), hfr1.1 3401 (by decide)]
      exact m4
    · refine pu_trans hpu1 ⟨mF_trans (mF_fr hfr2 (by decide) (by decide)) (mF_fr hfr3 (by decide) (by decide)), fun j hj => ⟨fun o a c => ?_, ?_⟩⟩
      · rw [hfr3.2.1 o (by simp; omega), hfr2.2.1 o (by simp only [List.mem_cons, List.not_mem_nil, or_false]; omega)]
      · rw [hfr3.2.2.1 77 (by decide), hfr2.2.2.1 77 (by decide)]
  have hdec : nI (u.length + 1) - (1 : Int32) = nI u.length := u_sb1 _
  cases fl
  · rw [b2_f] at d74
    rw [if_neg (show ¬ false = true by decide)]
    obtain ⟨F2, a1, a2, a3, a4, a5⟩ := m_finish (σ := σ) (b := b) hb hln1 hR hw hT3 hTk hgo hS.1 hS.2.1 (by have := hS.2.2.1; omega) hS.2.2.2.1 ht hc hdl hB1 hch1
    obtain ⟨v, f5, f6, f7⟩ := (fin_ok hR gv w t ch hS.1 hS.2.1).2.2.2.2
    have hvt : bG (x_fin R gv w t ch S) t = v := by
      rw [f7, up1_eq]
    rw [hvt] at a1
    obtain ⟨k1, k2⟩ := hend F2 (x_fin R gv w t ch S) v a4 a2 a3 a5 f7
    refine ⟨_, ?_, k1, k2⟩
    have hl2 := a4.1 72
    simp only [fx_cI] at hl2
    have a1' : f_M_finish (some (fx_ad b 34)) (nI t) (fx_mk σ b (fx_A (fx_I F 3466 (nI u.length)) 73 ((F.2.1 73).set t (nI 0)))) = some (some (.int (nI v)), fx_mk σ b F2) := by
      rw [hF1]
      exact a1
    have d74' : ((fx_A (fx_I F 3466 (nI u.length)) 73 ((F.2.1 73).set t (nI 0))).2.1 74)[t]? = some (nI 0) := by
      rw [hF1]
      exact d74
    unfold f_M_update_j61
    rw [if_neg (show ¬ (0 : Int32) ≤ -1 by decide)]
    simp (disch := omega) only [↓fx_bm, ↓fx_vm hb, m2, hdec, ↓reduceIte, n_ltT, n_ltF, n_leT, n_leF, n_eqT, n_eqF, nI_1, u_lt, u_le, u_eq, u_add, u_ix, u_ixL, u_ixR, u_cl, u_nm1, u_nm1', u_m1l, u_m1n, u_l0, Option.bind_some, Option.map_some, not_true_eq_false, not_false_eq_true, true_and, and_true, Nat.add_sub_cancel, Bool.false_eq_true, u_nar2, fx_II, fx_AA, fx_LL, fx_I_1, fx_I_A, fx_I_L, fx_I_R, fx_I_Q, fx_A_1, fx_A_A, fx_A_L, fx_A_R, fx_A_Q, fx_L_1, fx_L_A, fx_L_L, fx_L_R, fx_L_Q, fx_R_1, fx_R_A, fx_R_L, fx_R_R, fx_R_Q, fx_Q_1, fx_Q_A, fx_Q_L, fx_Q_R, fx_Q_Q, u_nar4, Nat.reduceEqDiff] at d74' ⊢
    simp (disch := omega) only [↓fx_bm, ↓fx_vm hb, d74', cI_of a1', ↓reduceIte, n_ltT, n_ltF, n_leT, n_leF, n_eqT, n_eqF, nI_1, u_lt, u_le, u_eq, u_add, u_ix, u_ixL, u_ixR, u_cl, u_nm1, u_nm1', u_m1l, u_m1n, u_l0, Option.bind_some, Option.map_some, not_true_eq_false, not_false_eq_true, true_and, and_true, Nat.add_sub_cancel, Bool.false_eq_true, u_nar2]
  · rw [b2_t] at d74
    rw [if_pos rfl]
    obtain ⟨k1, k2⟩ := hend F1 (wG S t 3) 3 hln1 hB1.1 hB1.2.1 (fr_refl _ _ _ _) rfl
    refine ⟨_, ?_, k1, k2⟩
    have hl2 := hln1.1 72
    simp only [fx_cI] at hl2
    unfold f_M_update_j61
    rw [if_neg (show ¬ (0 : Int32) ≤ -1 by decide)]
    subst hF1
    simp (disch := omega) only [↓fx_bm, ↓fx_vm hb, m2, hdec, ↓reduceIte, n_ltT, n_ltF, n_leT, n_leF, n_eqT, n_eqF, nI_1, u_lt, u_le, u_eq, u_add, u_ix, u_ixL, u_ixR, u_cl, u_nm1, u_nm1', u_m1l, u_m1n, u_l0, Option.bind_some, Option.map_some, not_true_eq_false, not_false_eq_true, true_and, and_true, Nat.add_sub_cancel, Bool.false_eq_true, u_nar2, fx_II, fx_AA, fx_LL, fx_I_1, fx_I_A, fx_I_L, fx_I_R, fx_I_Q, fx_A_1, fx_A_A, fx_A_L, fx_A_R, fx_A_Q, fx_L_1, fx_L_A, fx_L_L, fx_L_R, fx_L_Q, fx_R_1, fx_R_A, fx_R_L, fx_R_R, fx_R_Q, fx_Q_1, fx_Q_A, fx_Q_L, fx_Q_R, fx_Q_Q, u_nar4, Nat.reduceEqDiff, u_l3] at d74 hl2 ⊢
    simp (disch := omega) only [d74, ↓reduceIte, n_ltT, n_ltF, n_leT, n_leF, n_eqT, n_eqF, nI_1, u_lt, u_le, u_eq, u_add, u_ix, u_ixL, u_ixR, u_cl, u_nm1, u_nm1', u_m1l, u_m1n, u_l0, Option.bind_some, Option.map_some, not_true_eq_false, not_false_eq_true, true_and, and_true, Nat.add_sub_cancel, Bool.false_eq_true, u_nar2]
end
