/-! the class: words -/
def wc (F : fx_F) (W : List (Nat × Nat)) : Prop := F.1 2104 = nI W.length ∧ ∀ i, i < W.length → (F.2.1 22)[i]? = some (nI (W.getD i (0, 0)).1) ∧ (F.2.1 23)[i]? = some (nI (W.getD i (0, 0)).2)
theorem wc_cf {zi za zr zq : List Nat} {F F' : fx_F} {W : List (Nat × Nat)} (h : wc F W) (hf : cf zi za zr zq F F') (h1 : 2104 ∉ zi) (h2 : 22 ∉ za) (h3 : 23 ∉ za) : wc F' W := by
  unfold wc at *
  rw [hf.1 _ h1, hf.2.1 _ h2, hf.2.1 _ h3]
  exact h
theorem wds_fuel (o : List Nat) (q : Nat) : ∀ (n p : Nat), q - p ≤ n → ∀ k, q - p ≤ k → wds o k p q = wds o (q - p) p q := by
  intro n
  induction n with
  | zero =>
    intro p hn k hk
    rw [show q - p = 0 by omega]
    cases k with
    | zero => rfl
    | succ k =>
      show wds o (k + 1) p q = []
      rw [wds, if_pos (by omega)]
  | succ n ih =>
    intro p hn k hk
    by_cases hq : q ≤ p
    · rw [show q - p = 0 by omega]
      cases k with
      | zero => rfl
      | succ k =>
        show wds o (k + 1) p q = []
        rw [wds, if_pos hq]
    · cases k with
      | zero => omega
      | succ k =>
        rw [show q - p = (q - p - 1) + 1 by omega, wds, wds, if_neg hq, if_neg hq]
        by_cases e : o.getD p 0 = 32
        · rw [if_pos e, if_pos e, ih (p + 1) (by omega) k (by omega), show q - p - 1 = q - (p + 1) by omega]
        · rw [if_neg e, if_neg e]
          have h1 : p < fi (fun j => decide (o.getD j 0 = 32)) q p := fi_gt (by omega) (decide_eq_false e)
          have h2 := (fi_le (P := fun j => decide (o.getD j 0 = 32)) (n := q) (k := p) (by omega)).2
          rw [ih _ (by omega) k (by omega), ih _ (by omega) (q - p - 1) (by omega)]
/-- the words of a part -/
abbrev wf (o : List Nat) (p q : Nat) : List (Nat × Nat) := wds o (q - p) p q
theorem wf_end {o : List Nat} {p q : Nat} (h : q ≤ p) : wf o p q = [] := by
  show wds o (q - p) p q = []
  rw [show q - p = 0 by omega]
  rfl
theorem wf_sp {o : List Nat} {p q : Nat} (h : p < q) (e : o.getD p 0 = 32) : wf o p q = wf o (p + 1) q := by
  show wds o (q - p) p q = wds o (q - (p + 1)) (p + 1) q
  rw [show q - p = (q - (p + 1)) + 1 by omega, wds, if_neg (by omega), if_pos e]
theorem wf_wd {o : List Nat} {p q i : Nat} (h : p < i) (hi : i ≤ q) (hn : ∀ j, p ≤ j → j < i → ¬ o.getD j 0 = 32) (he : i < q → o.getD i 0 = 32) : wf o p q = (p, i) :: wf o (i + 1) q := by
  have hfi : fi (fun j => decide (o.getD j 0 = 32)) q p = i := fi_is (by omega) hi (fun j j1 j2 => decide_eq_false (hn j j1 j2)) (fun h => decide_eq_true (he h))
  show wds o (q - p) p q = _
  rw [show q - p = (q - (p + 1)) + 1 by omega, wds, if_neg (by omega), if_neg (hn p (Nat.le_refl _) h), hfi, wds_fuel o q (q - i) i (Nat.le_refl _) (q - (p + 1)) (by omega)]
  congr 1
  by_cases e : i < q
  · exact wf_sp e (he e)
  · rw [show wds o (q - i) i q = [] from wf_end (by omega), wf_end (by omega)]
theorem getD_push {α : Type} {W : List α} {x d : α} : (W ++ [x]).getD W.length d = x := by simp [List.getD]
theorem getD_pushl {α : Type} {W : List α} {x d : α} {i : Nat} (h : i < W.length) : (W ++ [x]).getD i d = W.getD i d := by simp [List.getD, List.getElem?_append_left h]
section
variable {σ : rb_St} {b : Nat}
theorem c_addWords (hb : rb_b σ ≤ b) {o : List Nat} (hc : ∀ c, c ∈ o → c < 65536) {q : Nat} (hq : q ≤ o.length) (ho120 : o.length ≤ 120) : ∀ (m i p : Nat) (W : List (Nat × Nat)) (F : fx_F), i + m = q + 1 → p ≤ i → (i = q + 1 → p = q + 1) → (∀ j, p ≤ j → j < i → ¬ o.getD j 0 = 32) → (W ++ wf o p q).length ≤ 61 → fx_ln F → tw F 14 o → wc F W → ∃ F', rb_it (fun z : (Int32 × Int32 × rb_St) => f_Words_addWords_b5 (some (fx_ad b 21)) (nI q) (z.1) (z.2.1) z.2.2) (nI p, nI i, fx_mk σ b F) = some (none, fx_mk σ b F') ∧ wc F' (W ++ wf o p q) ∧ fx_ln F' ∧ fr [2104] [22, 23] [] F F' := by
  have ho : tO 14 := Or.inr (Or.inl rfl)
  intro m
  induction m with
  | zero =>
    intro i p W F hi hp hpq hn hW hF ht hw
    rw [hpq (by omega), wf_end (by omega), List.append_nil]
    refine ⟨F, rb_it_r ?_, hw, hF, fr_refl _ _ _ _⟩
    show f_Words_addWords_b5 _ _ _ _ _ = _
    unfold f_Words_addWords_b5
    rw [if_pos (show nI q < nI i by rw [u_lt (by omega) (by omega)]; omega)]
    rfl
  | succ m ih =>
    intro i p W F hi hp hpq hn hW hF ht hw
    have hat := c_at (σ := σ) (b := b) ho hF ht hc (i := i) (by omega)
    have hfc14 : ∀ {β : Type} (f : List Value → Option β), (rb_fc (fx_mk σ b F) (some (fx_ad b 14)) 2).bind f = f (fx_row b F 14) := (t_b ho).1
    by_cases hgo : i < q ∧ ¬ o.getD i 0 = 32
    · obtain ⟨F', e1, e2⟩ := ih (i + 1) p W F (by omega) (by omega) (fun h => by omega) (fun j j1 j2 => by
        by_cases e : j = i
        · rw [e]
          exact hgo.2
        · exact hn j j1 (by omega)) hW hF ht hw
      refine ⟨F', (rb_it_l ?_).trans e1, e2⟩
      show f_Words_addWords_b5 _ _ _ _ _ = _
      unfold f_Words_addWords_b5
      rw [if_neg (show ¬ nI q < nI i by rw [u_lt (by omega) (by omega)]; omega), if_neg (show ¬ nI q ≤ nI i by rw [u_le (by omega) (by omega)]; omega)]
      have hcc : o.getD i 0 < 65536 := hc _ (getD_mem (by omega))
      simp only [↓fx_bc, ↓hfc14, ↓cI_of hat]
      rw [if_neg (show ¬ nI (o.getD i 0) = (32 : Int32) by rw [u_l32, u_eq (by omega) (by omega)]; exact hgo.2), show nI i + 1 = nI (i + 1) by rw [u_l1, u_add]]
    · have hbody : f_Words_addWords_b5 (some (fx_ad b 21)) (nI q) (nI p) (nI i) (fx_mk σ b F) = f_Words_addWords_j34 (some (fx_ad b 21)) (nI q) (nI p) (nI i) (fx_mk σ b F) := by
        unfold f_Words_addWords_b5
        rw [if_neg (show ¬ nI q < nI i by rw [u_lt (by omega) (by omega)]; omega)]
        by_cases e : q ≤ i
        · rw [if_pos (nI_le e (by omega))]
        · rw [if_neg (show ¬ nI q ≤ nI i by rw [u_le (by omega) (by omega)]; omega)]
          have e32 : o.getD i 0 = 32 := by
            by_cases e2 : o.getD i 0 = 32
            · exact e2
            · exact absurd ⟨by omega, e2⟩ hgo
          simp only [↓fx_bc, ↓hfc14, ↓cI_of hat]
          rw [if_pos (show nI (o.getD i 0) = (32 : Int32) by rw [e32]; rfl)]
      have h32 : i < q → o.getD i 0 = 32 := fun h => by
        by_cases e2 : o.getD i 0 = 32
        · exact e2
        · exact absurd ⟨h, e2⟩ hgo
      by_cases hpi : i ≤ p
      · have hpe : p = i := by omega
        subst hpe
        have hwf : wf o p q = wf o (p + 1) q := by
          by_cases e : p < q
          · exact wf_sp e (h32 e)
          · rw [wf_end (by omega), wf_end (by omega)]
        rw [hwf] at hW ⊢
        obtain ⟨F', e1, e2⟩ := ih (p + 1) (p + 1) W F (by omega) (Nat.le_refl _) (fun h => h) (fun j j1 j2 => by omega) hW hF ht hw
        refine ⟨F', (rb_it_l ?_).trans e1, e2⟩
        refine hbody.trans ?_
        unfold f_Words_addWords_j34
        rw [if_pos (nI_le (Nat.le_refl _) (by omega)), show nI p + 1 = nI (p + 1) by rw [u_l1, u_add]]
      · have hwf := wf_wd (o := o) (p := p) (q := q) (i := i) (by omega) (by omega) hn h32
        rw [hwf] at hW ⊢
        rw [show W ++ (p, i) :: wf o (i + 1) q = (W ++ [(p, i)]) ++ wf o (i + 1) q by rw [List.append_assoc]; rfl] at hW ⊢
        have hWl : W.length < 61 := by
          rw [List.length_append, List.length_append, List.length_cons, List.length_nil] at hW
          omega
        have hl22 := hF.1 22
        have hl23 := hF.1 23
        simp only [fx_cI] at hl22 hl23
        generalize hF1 : fx_I (fx_A (fx_A F 22 ((F.2.1 22).set W.length (nI p))) 23 ((F.2.1 23).set W.length (nI i))) 2104 (nI (W.length + 1)) = F1
        have hfr1 : fr [2104] [22, 23] [] F F1 := by
          subst hF1
          exact fr_I (fr_A (fr_A (fr_refl _ _ _ _) (by decide)) (by decide)) (by decide)
        have hln1 : fx_ln F1 := by
          subst hF1
          exact fx_lnI (fx_lnA (fx_lnA hF (by rw [List.length_set]; exact hF.1 _)) (by rw [List.length_set]; exact hF.1 _))
        have hw1 : wc F1 (W ++ [(p, i)]) := by
          subst hF1
          refine ⟨by rw [fx_I_1, if_pos rfl, List.length_append, List.length_cons, List.length_nil], fun j hj => ?_⟩
          rw [List.length_append, List.length_cons, List.length_nil] at hj
          rw [fx_I_A, fx_A_A, if_neg (by decide), fx_A_A, if_pos rfl, fx_A_A, if_pos rfl, set_get (by omega), set_get (by omega)]
          by_cases e : j = W.length
          · rw [if_pos e, if_pos e, e, getD_push]
            exact ⟨rfl, rfl⟩
          · rw [if_neg e, if_neg e, getD_pushl (by omega)]
            exact hw.2 j (by omega)
        obtain ⟨F', e1, e2, e3, e4⟩ := ih (i + 1) (i + 1) (W ++ [(p, i)]) F1 (by omega) (Nat.le_refl _) (fun h => h) (fun j j1 j2 => by omega) hW hln1 (tw_fr ht hfr1 (by decide) (by decide)) hw1
        refine ⟨F', (rb_it_l ?_).trans e1, e2, e3, fr_trans hfr1 e4⟩
        refine hbody.trans ?_
        unfold f_Words_addWords_j34
        subst hF1
        rw [if_neg (show ¬ nI i ≤ nI p by rw [u_le (by omega) (by omega)]; exact hpi)]
        simp (disch := omega) only [↓fx_bc, ↓fx_vc hb, hw.1, fx_A_1, fx_A_A, show (61 : Int32) = nI 61 from rfl, u_le, n_leF, if_false, u_l0, u_lt, n_ltF, u_cl, not_false_eq_true, true_and, hl22, hl23, if_pos, u_nar2, u_l1, u_add, show ¬ (23 = 22) by decide]
end
