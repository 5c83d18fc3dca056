/-! the class: texts -/
def tO (o : Nat) : Prop := o = 1 ∨ o = 14 ∨ o = 16 ∨ o = 26 ∨ o = 29 ∨ o = 32
/-- how much a text holds -/
def tcap (o : Nat) : Nat := fx_cI (o + 1)
def tw (F : fx_F) (o : Nat) (l : List Nat) : Prop := F.1 (100 * o + 1) = nI l.length ∧ rk (F.2.1 (o + 1)) l
theorem tcap_le {o : Nat} (ho : tO o) : tcap o ≤ 400 ∧ 16 ≤ tcap o := by
  rcases ho with h | h | h | h | h | h <;> subst h <;> decide
theorem tw_len {F : fx_F} (hF : fx_ln F) {o : Nat} {l : List Nat} (h : tw F o l) : l.length ≤ tcap o := by
  have := rk_len h.2
  rw [hF.1] at this
  exact this
theorem tw_fr {zi za zl : List Nat} {F F' : fx_F} {o : Nat} {l : List Nat} (h : tw F o l) (hf : fr zi za zl F F') (h1 : 100 * o + 1 ∉ zi) (h2 : o + 1 ∉ za) : tw F' o l := by
  unfold tw at *
  rw [hf.1 _ h1, hf.2.1 _ h2]
  exact h
theorem it_fim3 {α τ : Type} {body : Int32 × τ → Option ((Int32 × τ) ⊕ α)} {n k0 : Nat} {s0 : τ} (P : Nat → Bool) (res : Nat → Option α) (h : ∀ k, k0 ≤ k → k < n → body (nI k, s0) = if P k = true then (res k).map Sum.inr else some (.inl (nI (k + 1), s0))) (he : body (nI n, s0) = (res n).map Sum.inr) : ∀ (m k : Nat), k0 ≤ k → k + m = n → rb_it body (nI k, s0) = res (fi P n k) := by
  intro m
  induction m with
  | zero =>
    intro k _ hk
    rw [fi_end (by omega), show k = n by omega]
    exact rb_it_m he
  | succ m ih =>
    intro k h0 hk
    rw [fi_step (by omega)]
    have hb := h k h0 (by omega)
    by_cases e : P k = true
    · rw [if_pos e] at hb ⊢
      exact rb_it_m hb
    · rw [if_neg e] at hb ⊢
      rw [rb_it_l hb]
      exact ih (k + 1) (by omega) (by omega)
section
variable {σ : rb_St} {b : Nat} {F : fx_F} {o : Nat}
theorem t_b (ho : tO o) : (∀ {β : Type} (f : List Value → Option β), (rb_fc (fx_mk σ b F) (some (fx_ad b o)) 2).bind f = f (fx_row b F o)) ∧ (∀ {β : Type} (f : Int32 → Option β), (rb_gI (fx_mk σ b F) (some (fx_ad b o)) 2 1).bind f = f (F.1 (100 * o + 1))) ∧ (∀ {β : Type} (f : Option Nat → Option β), (rb_gR (fx_mk σ b F) (some (fx_ad b o)) 2 0).bind f = f (some (fx_ad b (o + 1)))) ∧ (∀ {β : Type} (f : Int32 → Option β), (rb_len (fx_mk σ b F) (some (fx_ad b (o + 1))) 101).bind f = f (nI (F.2.1 (o + 1)).length)) ∧ (∀ {β : Type} (i : Int32) (f : Int32 → Option β), (rb_aI (fx_mk σ b F) (some (fx_ad b (o + 1))) 101 i).bind f = (fx_ix (F.2.1 (o + 1)) i).bind f) := by
  have h1 : o + 1 < 83 := by rcases ho with h | h | h | h | h | h <;> subst h <;> decide
  have h2 : fx_t o = 2 := by rcases ho with h | h | h | h | h | h <;> subst h <;> rfl
  have h3 : fx_t (o + 1) = 101 := by rcases ho with h | h | h | h | h | h <;> subst h <;> rfl
  have h4 : fx_nf o = 2 := by rcases ho with h | h | h | h | h | h <;> subst h <;> rfl
  have h5 : fx_d (100 * o + 1) = 0 := by rcases ho with h | h | h | h | h | h <;> subst h <;> rfl
  have h6 : fx_d (100 * o + 0) = (o + 1) + 2 := by rcases ho with h | h | h | h | h | h <;> subst h <;> rfl
  refine ⟨fun f => ?_, fun f => ?_, fun f => ?_, fun f => ?_, fun i f => ?_⟩
  · rw [fx_fc (by omega) h2]
    rfl
  · rw [fx_gI (by omega) h2 (by omega) (by omega) h5]
    rfl
  · rw [fx_gC (by omega) h2 (by omega) (by omega) h6]
    rfl
  · rw [fx_lenA h1 h3 (by decide)]
    rfl
  · rw [fx_aI h1 h3 (by decide)]
theorem t_v (ho : tO o) (hb : rb_b σ ≤ b) : (∀ {β : Type} (x : Int32) (f : rb_St → Option β), (rb_pI (fx_mk σ b F) (some (fx_ad b o)) 2 1 x).bind f = f (fx_mk σ b (fx_I F (100 * o + 1) x))) ∧ (∀ {β : Type} (i x : Int32) (f : rb_St → Option β), (rb_sI (fx_mk σ b F) (some (fx_ad b (o + 1))) 101 i x).bind f = if ¬ i < 0 ∧ i.toNatClampNeg < (F.2.1 (o + 1)).length then f (fx_mk σ b (fx_A F (o + 1) ((F.2.1 (o + 1)).set i.toNatClampNeg (fx_nar 101 x)))) else none) := by
  have h1 : o + 1 < 83 := by rcases ho with h | h | h | h | h | h <;> subst h <;> decide
  have h2 : fx_t o = 2 := by rcases ho with h | h | h | h | h | h <;> subst h <;> rfl
  have h3 : fx_t (o + 1) = 101 := by rcases ho with h | h | h | h | h | h <;> subst h <;> rfl
  have h4 : fx_nf o = 2 := by rcases ho with h | h | h | h | h | h <;> subst h <;> rfl
  have h5 : fx_d (100 * o + 1) = 0 := by rcases ho with h | h | h | h | h | h <;> subst h <;> rfl
  refine ⟨fun x f => ?_, fun i x f => ?_⟩
  · rw [fx_pI (by omega) h2 (by omega) (by omega) h5 hb]
    rfl
  · rw [fx_sI h1 h3 (Or.inl rfl) hb]
    split
    · rfl
    · rfl
theorem c_clear (ho : tO o) (hb : rb_b σ ≤ b) (hF : fx_ln F) : ∃ F', f_Text_clear (some (fx_ad b o)) (fx_mk σ b F) = some (none, fx_mk σ b F') ∧ tw F' o [] ∧ fx_ln F' ∧ fr [100 * o + 1] [o + 1] [] F F' := by
  refine ⟨fx_I F (100 * o + 1) (nI 0), ?_, ⟨by rw [fx_I_1, if_pos rfl]; rfl, rk_nil _⟩, fx_lnI hF, fr_I (fr_refl _ _ _ _) (List.mem_singleton.mpr rfl)⟩
  unfold f_Text_clear
  simp only [↓t_v ho hb]
  rfl
theorem c_tlen (ho : tO o) {l : List Nat} (h : tw F o l) : f_Text_length (some (fx_ad b o)) (fx_mk σ b F) = some (some (.int (nI l.length)), fx_mk σ b F) := by
  unfold f_Text_length
  simp only [↓t_b ho, h.1]
theorem c_add (ho : tO o) (hb : rb_b σ ≤ b) (hF : fx_ln F) {l : List Nat} (h : tw F o l) {c : Nat} (hc : c < 65536) : ∃ F', f_Text_add (some (fx_ad b o)) (nI c) (fx_mk σ b F) = some (some (.int (nI (b2 (decide (l.length < tcap o))))), fx_mk σ b F') ∧ tw F' o (if l.length < tcap o then l ++ [c] else l) ∧ fx_ln F' ∧ fr [100 * o + 1] [o + 1] [] F F' := by
  have hl := tw_len hF h
  have h400 := (tcap_le ho).1
  have hrow : (F.2.1 (o + 1)).length = tcap o := hF.1 _
  unfold f_Text_add
  by_cases e : l.length < tcap o
  · rw [if_pos e, decide_eq_true e]
    refine ⟨fx_I (fx_A F (o + 1) ((F.2.1 (o + 1)).set l.length (nI c))) (100 * o + 1) (nI (l.length + 1)), ?_, ⟨?_, ?_⟩, fx_lnI (fx_lnA hF (by rw [List.length_set]; exact hF.1 _)), fr_I (fr_A (fr_refl _ _ _ _) (List.mem_singleton.mpr rfl)) (List.mem_singleton.mpr rfl)⟩
    · simp (disch := omega) only [↓t_b ho, ↓t_v ho hb, h.1, hrow, ↓reduceIte, n_ltT, n_ltF, n_leT, n_leF, n_eqT, n_eqF, nI_1, u_lt, u_le, u_eq, u_add, u_ix, u_ixL, u_ixR, u_cl, u_nm1, u_nm1', u_m1l, u_m1n, u_l0, Option.bind_some, Option.map_some, not_true_eq_false, not_false_eq_true, true_and, and_true, Nat.add_sub_cancel, Bool.false_eq_true, u_nar2, fx_A_1, u_nar1, b2_t, u_l1]
    · rw [fx_I_1, if_pos rfl, List.length_append, List.length_cons, List.length_nil]
    · rw [fx_I_A, fx_A_A, if_pos rfl]
      exact rk_push h.2 (by omega) c
  · rw [if_neg e, decide_eq_false e]
    refine ⟨F, ?_, h, hF, fr_refl _ _ _ _⟩
    have h1 := h.1
    rw [show l.length = tcap o by omega] at h1
    simp (disch := omega) only [↓t_b ho, h1, hrow, ↓reduceIte, n_ltT, n_ltF, n_leT, n_leF, n_eqT, n_eqF, nI_1, u_lt, u_le, u_eq, u_add, u_ix, u_ixL, u_ixR, u_cl, u_nm1, u_nm1', u_m1l, u_m1n, u_l0, Option.bind_some, Option.map_some, not_true_eq_false, not_false_eq_true, true_and, and_true, Nat.add_sub_cancel, Bool.false_eq_true, u_nar2, b2_f]
theorem c_at (ho : tO o) (hF : fx_ln F) {l : List Nat} (h : tw F o l) (hc : ∀ c, c ∈ l → c < 65536) {i : Nat} (hi : i < 2147483648) : f_Text_at (some (fx_ad b o)) (nI i) (fx_mk σ b F) = some (some (.int (nI (l.getD i 0))), fx_mk σ b F) := by
  have hl := tw_len hF h
  have h400 := (tcap_le ho).1
  unfold f_Text_at
  by_cases e : i < l.length
  · have hg := rk_getD h.2 e
    have hci := hc _ (getD_mem (d := 0) e)
    simp (disch := omega) only [↓t_b ho, h.1, ↓bx_of rfl hi hg, ↓reduceIte, n_ltT, n_ltF, n_leT, n_leF, n_eqT, n_eqF, nI_1, u_lt, u_le, u_eq, u_add, u_ix, u_ixL, u_ixR, u_cl, u_nm1, u_nm1', u_m1l, u_m1n, u_l0, Option.bind_some, Option.map_some, not_true_eq_false, not_false_eq_true, true_and, and_true, Nat.add_sub_cancel, Bool.false_eq_true, u_nar2, if_pos (isC_n hci)]
  · rw [show l.getD i 0 = 0 by rw [List.getD_eq_getElem?_getD, List.getElem?_eq_none (by omega)]; rfl]
    simp (disch := omega) only [↓t_b ho, h.1, ↓reduceIte, n_ltT, n_ltF, n_leT, n_leF, n_eqT, n_eqF, nI_1, u_lt, u_le, u_eq, u_add, u_ix, u_ixL, u_ixR, u_cl, u_nm1, u_nm1', u_m1l, u_m1n, u_l0, Option.bind_some, Option.map_some, not_true_eq_false, not_false_eq_true, true_and, and_true, Nat.add_sub_cancel, Bool.false_eq_true, u_nar2]
theorem c_indexOf (ho : tO o) (hF : fx_ln F) {l : List Nat} (h : tw F o l) (hc : ∀ c, c ∈ l → c < 65536) {c : Nat} (hcc : c < 65536) : f_Text_indexOf (some (fx_ad b o)) (nI c) (fx_mk σ b F) = some (some (.int (nI (fi (fun k => decide (l.getD k 0 = c)) l.length 0))), fx_mk σ b F) := by
  have hl := tw_len hF h
  have h400 := (tcap_le ho).1
  unfold f_Text_indexOf
  refine (it_fim (body := fun z : Int32 => f_Text_indexOf_b2 (some (fx_ad b o)) (nI c) z (fx_mk σ b F)) (n := l.length) (fun k => decide (l.getD k 0 = c)) (fun k => f_Text_indexOf_j26 (nI k) (fx_mk σ b F)) ?_ ?_ (Nat.zero_le _)).trans rfl
  · intro k hk
    have hg := rk_getD h.2 hk
    have hci := hc _ (getD_mem (d := 0) hk)
    unfold f_Text_indexOf_b2
    by_cases e : l.getD k 0 = c
    · simp (disch := omega) only [↓t_b ho, h.1, ↓bx_of rfl (show k < 2147483648 by omega) hg, e, ↓reduceIte, n_ltT, n_ltF, n_leT, n_leF, n_eqT, n_eqF, nI_1, u_lt, u_le, u_eq, u_add, u_ix, u_ixL, u_ixR, u_cl, u_nm1, u_nm1', u_m1l, u_m1n, u_l0, Option.bind_some, Option.map_some, not_true_eq_false, not_false_eq_true, true_and, and_true, Nat.add_sub_cancel, Bool.false_eq_true, u_nar2, decide_true]
    · simp (disch := omega) only [↓t_b ho, h.1, ↓bx_of rfl (show k < 2147483648 by omega) hg, e, ↓reduceIte, n_ltT, n_ltF, n_leT, n_leF, n_eqT, n_eqF, nI_1, u_lt, u_le, u_eq, u_add, u_ix, u_ixL, u_ixR, u_cl, u_nm1, u_nm1', u_m1l, u_m1n, u_l0, Option.bind_some, Option.map_some, not_true_eq_false, not_false_eq_true, true_and, and_true, Nat.add_sub_cancel, Bool.false_eq_true, u_nar2, decide_false]
  · unfold f_Text_indexOf_b2
    simp (disch := omega) only [↓t_b ho, h.1, ↓reduceIte, n_ltT, n_ltF, n_leT, n_leF, n_eqT, n_eqF, nI_1, u_lt, u_le, u_eq, u_add, u_ix, u_ixL, u_ixR, u_cl, u_nm1, u_nm1', u_m1l, u_m1n, u_l0, Option.bind_some, Option.map_some, not_true_eq_false, not_false_eq_true, true_and, and_true, Nat.add_sub_cancel, Bool.false_eq_true, u_nar2]
theorem c_behind (ho : tO o) (hF : fx_ln F) {l : List Nat} (h : tw F o l) (hc : ∀ c, c ∈ l → c < 65536) {p q : Nat} (hpq : p ≤ q) (hq : q ≤ l.length) : f_Text_behindSpaces (some (fx_ad b o)) (nI p) (nI q) (fx_mk σ b F) = some (some (.int (nI (fi (fun k => decide (¬ l.getD k 0 = 32)) q p))), fx_mk σ b F) := by
  have hl := tw_len hF h
  have h400 := (tcap_le ho).1
  unfold f_Text_behindSpaces
  refine (it_fim2 (body := fun z : Int32 × rb_St => f_Text_behindSpaces_b2 (some (fx_ad b o)) (nI q) z.1 z.2) (n := q) (s0 := fx_mk σ b F) (fun k => decide (¬ l.getD k 0 = 32)) (fun k => f_Text_behindSpaces_j23 (nI k) (fx_mk σ b F)) ?_ ?_ hpq).trans rfl
  · intro k hk
    have hat := c_at (σ := σ) (b := b) ho hF h hc (i := k) (by omega)
    have hci := hc _ (getD_mem (d := 0) (show k < l.length by omega))
    show f_Text_behindSpaces_b2 _ _ _ _ = _
    unfold f_Text_behindSpaces_b2
    by_cases e : l.getD k 0 = 32
    · simp (disch := omega) only [↓t_b ho, ↓cI_of hat, e, u_l32, ↓reduceIte, n_ltT, n_ltF, n_leT, n_leF, n_eqT, n_eqF, nI_1, u_lt, u_le, u_eq, u_add, u_ix, u_ixL, u_ixR, u_cl, u_nm1, u_nm1', u_m1l, u_m1n, u_l0, Option.bind_some, Option.map_some, not_true_eq_false, not_false_eq_true, true_and, and_true, Nat.add_sub_cancel, Bool.false_eq_true, u_nar2, decide_false]
    · simp (disch := omega) only [↓t_b ho, ↓cI_of hat, e, u_l32, ↓reduceIte, n_ltT, n_ltF, n_leT, n_leF, n_eqT, n_eqF, nI_1, u_lt, u_le, u_eq, u_add, u_ix, u_ixL, u_ixR, u_cl, u_nm1, u_nm1', u_m1l, u_m1n, u_l0, Option.bind_some, Option.map_some, not_true_eq_false, not_false_eq_true, true_and, and_true, Nat.add_sub_cancel, Bool.false_eq_true, u_nar2, decide_true]
  · show f_Text_behindSpaces_b2 _ _ _ _ = _
    unfold f_Text_behindSpaces_b2
    simp (disch := omega) only [↓reduceIte, n_ltT, n_ltF, n_leT, n_leF, n_eqT, n_eqF, nI_1, u_lt, u_le, u_eq, u_add, u_ix, u_ixL, u_ixR, u_cl, u_nm1, u_nm1', u_m1l, u_m1n, u_l0, Option.bind_some, Option.map_some, not_true_eq_false, not_false_eq_true, true_and, and_true, Nat.add_sub_cancel, Bool.false_eq_true, u_nar2]
theorem c_before (ho : tO o) (hF : fx_ln F) {l : List Nat} (h : tw F o l) (hc : ∀ c, c ∈ l → c < 65536) {p : Nat} : ∀ (e : Nat), e ≤ l.length → p ≤ e → rb_it (fun z : (Int32 × rb_St) => f_Text_beforeSpaces_b2 (some (fx_ad b o)) (nI p) (z.1) z.2) (nI e, fx_mk σ b F) = some (some (.int (nI (bk l p e))), fx_mk σ b F) := by
  have hl := tw_len hF h
  have h400 := (tcap_le ho).1
  intro e
  induction e with
  | zero =>
    intro he hp
    refine rb_it_r ?_
    show f_Text_beforeSpaces_b2 _ _ _ _ = _
    unfold f_Text_beforeSpaces_b2 f_Text_beforeSpaces_j25 bk
    simp (disch := omega) only [↓reduceIte, n_ltT, n_ltF, n_leT, n_leF, n_eqT, n_eqF, nI_1, u_lt, u_le, u_eq, u_add, u_ix, u_ixL, u_ixR, u_cl, u_nm1, u_nm1', u_m1l, u_m1n, u_l0, Option.bind_some, Option.map_some, not_true_eq_false, not_false_eq_true, true_and, and_true, Nat.add_sub_cancel, Bool.false_eq_true, u_nar2]
  | succ e ih =>
    intro he hp
    unfold bk
    by_cases c1 : p < e + 1
    · have hat : f_Text_at (some (fx_ad b o)) (nI (e + 1) - (1 : Int32)) (fx_mk σ b F) = some (some (.int (nI (l.getD e 0))), fx_mk σ b F) := by
        rw [show nI (e + 1) - (1 : Int32) = nI e from u_sb1 e]
        exact c_at (σ := σ) (b := b) ho hF h hc (i := e) (by omega)
      have hci := hc _ (getD_mem (d := 0) (show e < l.length by omega))
      by_cases c2 : l.getD e 0 = 32
      · rw [if_pos ⟨c1, c2⟩, ← ih (by omega) (by omega)]
        refine rb_it_l ?_
        show f_Text_beforeSpaces_b2 _ _ _ _ = _
        unfold f_Text_beforeSpaces_b2
        simp (disch := omega) only [↓t_b ho, ↓cI_of hat, c2, u_l32, u_b1, ↓reduceIte, n_ltT, n_ltF, n_leT, n_leF, n_eqT, n_eqF, nI_1, u_lt, u_le, u_eq, u_add, u_ix, u_ixL, u_ixR, u_cl, u_nm1, u_nm1', u_m1l, u_m1n, u_l0, Option.bind_some, Option.map_some, not_true_eq_false, not_false_eq_true, true_and, and_true, Nat.add_sub_cancel, Bool.false_eq_true, u_nar2]
      · rw [if_neg (fun h => c2 h.2)]
        refine rb_it_r ?_
        show f_Text_beforeSpaces_b2 _ _ _ _ = _
        unfold f_Text_beforeSpaces_b2 f_Text_beforeSpaces_j25
        simp (disch := omega) only [↓t_b ho, ↓cI_of hat, c2, u_l32, ↓reduceIte, n_ltT, n_ltF, n_leT, n_leF, n_eqT, n_eqF, nI_1, u_lt, u_le, u_eq, u_add, u_ix, u_ixL, u_ixR, u_cl, u_nm1, u_nm1', u_m1l, u_m1n, u_l0, Option.bind_some, Option.map_some, not_true_eq_false, not_false_eq_true, true_and, and_true, Nat.add_sub_cancel, Bool.false_eq_true, u_nar2]
    · rw [if_neg (fun h => c1 h.1)]
      refine rb_it_r ?_
      show f_Text_beforeSpaces_b2 _ _ _ _ = _
      unfold f_Text_beforeSpaces_b2 f_Text_beforeSpaces_j25
      simp (disch := omega) only [↓reduceIte, n_ltT, n_ltF, n_leT, n_leF, n_eqT, n_eqF, nI_1, u_lt, u_le, u_eq, u_add, u_ix, u_ixL, u_ixR, u_cl, u_nm1, u_nm1', u_m1l, u_m1n, u_l0, Option.bind_some, Option.map_some, not_true_eq_false, not_false_eq_true, true_and, and_true, Nat.add_sub_cancel, Bool.false_eq_true, u_nar2]
theorem c_holds (ho : tO o) (hF : fx_ln F) {l : List Nat} (h : tw F o l) (hc : ∀ c, c ∈ l → c < 65536) {a : Nat} {s : List Nat} (hs : sx σ b a s) {p q : Nat} (hpq : p ≤ q) (hq : q ≤ l.length) : f_Text_holds (some (fx_ad b o)) (nI p) (nI q) (some a) (0 : Int32) (nI s.length) (fx_mk σ b F) = some (some (.int (nI (b2 (decide (slc l p q = s))))), fx_mk σ b F) := by
  have hl := tw_len hF h
  have h400 := (tcap_le ho).1
  have hlen := c_len (F := F) hs
  have hsl := hs.2.2
  obtain ⟨v, rest, k1, k2, k3, k4, k5, k6⟩ := hsl
  have hfc := fo_fk (F := F) hs.1 k3
  have hl2 := slc_len (p := p) hq
  unfold f_Text_holds
  by_cases e : q - p = s.length
  · have hloop := it_fim3 (body := fun z : Int32 × rb_St => f_Text_holds_b44 (some (fx_ad b o)) (nI p) (nI q) (some a) (0 : Int32) z.1 z.2) (n := q) (k0 := p) (s0 := fx_mk σ b F) (fun k => decide (¬ l.getD k 0 = s.getD (k - p) 0)) (fun k => some (some (.int (nI (b2 (decide (q ≤ k))))), fx_mk σ b F)) ?_ ?_ (q - p) p (Nat.le_refl _) (by omega)
    · have hfin : fi (fun k => decide (¬ l.getD k 0 = s.getD (k - p) 0)) q p = q ↔ slc l p q = s := by
        constructor
        · intro hq2
          refine getD_ext (by omega) (fun i hi => ?_)
          rw [slc_get (by omega)]
          have := fi_no (P := fun k => decide (¬ l.getD k 0 = s.getD (k - p) 0)) (n := q) (k := p) (j := p + i) (by omega) (by omega) (by omega)
          rw [show p + i - p = i by omega] at this
          simpa using this
        · intro hsq
          have hle := fi_le (P := fun k => decide (¬ l.getD k 0 = s.getD (k - p) 0)) (n := q) (k := p) hpq
          have hP := @fi_P (fun k => decide (¬ l.getD k 0 = s.getD (k - p) 0)) q p
          generalize fi (fun k => decide (¬ l.getD k 0 = s.getD (k - p) 0)) q p = z at hle hP ⊢
          by_cases hlt : z < q
          · have h1 := of_decide_eq_true (hP hlt)
            exfalso
            apply h1
            rw [← hsq, slc_get (by omega), show p + (z - p) = z by omega]
          · omega
      have hres : (decide (q ≤ fi (fun k => decide (¬ l.getD k 0 = s.getD (k - p) 0)) q p)) = decide (slc l p q = s) := by
        have hle := (fi_le (P := fun k => decide (¬ l.getD k 0 = s.getD (k - p) 0)) (n := q) (k := p) hpq).2
        by_cases hsq : slc l p q = s
        · rw [decide_eq_true hsq, decide_eq_true (by rw [hfin.mpr hsq]; omega)]
        · rw [decide_eq_false hsq, decide_eq_false (fun hh => hsq (hfin.mp (by omega)))]
      rw [hres] at hloop
      simp (disch := omega) only [↓t_b ho, h.1, hfc, ↓cI_of hlen, u_sub, e, Nat.sub_zero, ↓reduceIte, n_ltT, n_ltF, n_leT, n_leF, n_eqT, n_eqF, nI_1, u_lt, u_le, u_eq, u_add, u_ix, u_ixL, u_ixR, u_cl, u_nm1, u_nm1', u_m1l, u_m1n, u_l0, Option.bind_some, Option.map_some, not_true_eq_false, not_false_eq_true, true_and, and_true, Nat.add_sub_cancel, Bool.false_eq_true, u_nar2]
      exact hloop
    · intro k hkp hk
      · have hg := rk_getD h.2 (show k < l.length by omega)
        have hci := hc _ (getD_mem (d := 0) (show k < l.length by omega))
        have hch : f_Str_charAt (some a) (((0 : Int32) + nI k) - nI p) (fx_mk σ b F) = some (some (.int (nI (s.getD (k - p) 0))), fx_mk σ b F) := by
          rw [u_l0, u_add, Nat.zero_add, u_sub hkp]
          exact c_charAt hs (by omega)
        have hcs := k5 _ (getD_mem (d := 0) (show k - p < s.length by omega))
        show f_Text_holds_b44 _ _ _ _ _ _ _ = _
        unfold f_Text_holds_b44
        by_cases ec : l.getD k 0 = s.getD (k - p) 0
        · simp (disch := omega) only [↓t_b ho, ↓bx_of rfl (show k < 2147483648 by omega) hg, hfc, ↓cI_of hch, ec, ↓reduceIte, n_ltT, n_ltF, n_leT, n_leF, n_eqT, n_eqF, nI_1, u_lt, u_le, u_eq, u_add, u_ix, u_ixL, u_ixR, u_cl, u_nm1, u_nm1', u_m1l, u_m1n, u_l0, Option.bind_some, Option.map_some, not_true_eq_false, not_false_eq_true, true_and, and_true, Nat.add_sub_cancel, Bool.false_eq_true, u_nar2, decide_false]
        · simp (disch := omega) only [↓t_b ho, ↓bx_of rfl (show k < 2147483648 by omega) hg, hfc, ↓cI_of hch, ec, ↓reduceIte, n_ltT, n_ltF, n_leT, n_leF, n_eqT, n_eqF, nI_1, u_lt, u_le, u_eq, u_add, u_ix, u_ixL, u_ixR, u_cl, u_nm1, u_nm1', u_m1l, u_m1n, u_l0, Option.bind_some, Option.map_some, not_true_eq_false, not_false_eq_true, true_and, and_true, Nat.add_sub_cancel, Bool.false_eq_true, u_nar2, decide_true, decide_false, b2_f]
    · show f_Text_holds_b44 _ _ _ _ _ _ _ = _
      unfold f_Text_holds_b44
      simp (disch := omega) only [↓reduceIte, n_ltT, n_ltF, n_leT, n_leF, n_eqT, n_eqF, nI_1, u_lt, u_le, u_eq, u_add, u_ix, u_ixL, u_ixR, u_cl, u_nm1, u_nm1', u_m1l, u_m1n, u_l0, Option.bind_some, Option.map_some, not_true_eq_false, not_false_eq_true, true_and, and_true, Nat.add_sub_cancel, Bool.false_eq_true, u_nar2, decide_true, b2_t, u_l1]
  · have hne : ¬ slc l p q = s := fun hh => e (by rw [← hh]; omega)
    rw [decide_eq_false hne, b2_f]
    simp (disch := omega) only [↓t_b ho, h.1, hfc, ↓cI_of hlen, u_sub, e, Nat.sub_zero, ↓reduceIte, n_ltT, n_ltF, n_leT, n_leF, n_eqT, n_eqF, nI_1, u_lt, u_le, u_eq, u_add, u_ix, u_ixL, u_ixR, u_cl, u_nm1, u_nm1', u_m1l, u_m1n, u_l0, Option.bind_some, Option.map_some, not_true_eq_false, not_false_eq_true, true_and, and_true, Nat.add_sub_cancel, Bool.false_eq_true, u_nar2]
end
