/-! the reference: what it appends to the expansion, and how it changes the ends of words -/
def m_out (F : fx_F) (o : List Nat) : Prop := F.1 3444 = nI o.length ∧ rk (F.2.1 62) o
def m_text (F : fx_F) (T : List Nat) : Prop := rk (F.2.1 46) T
/-- the text that a level reads: the rule text, or a given value -/
def bs (T : List Nat) (gv : Nat → Option (List Nat)) (s : Option Nat) : List Nat := match s with | none => T | some m => (gv m).getD []
def sok (gv : Nat → Option (List Nat)) (s : Option Nat) : Prop := ∀ m, s = some m → m < 26 ∧ gv m ≠ none
/-- a slice -/
def slc (l : List Nat) (p q : Nat) : List Nat := (l.drop p).take (q - p)
theorem slc_len {l : List Nat} {p q : Nat} (h : q ≤ l.length) : (slc l p q).length = q - p := by simp [slc]; omega
theorem slc_get {l : List Nat} {p q i : Nat} (h : i < q - p) : (slc l p q).getD i 0 = l.getD (p + i) 0 := by
  simp [slc, List.getD, List.getElem?_take_of_lt h, List.getElem?_drop]
theorem slc_tk {l : List Nat} (h : tk l) (p q : Nat) : tk (slc l p q) := tk_take (tk_drop h _) _
theorem bs_tk {T : List Nat} {gv : Nat → Option (List Nat)} {s : Option Nat} (hT : tk T) (hg : gok gv) : tk (bs T gv s) := by
  unfold bs
  split
  · exact hT
  · rename_i m
    cases h : gv m with
    | none => intro c hc; simp at hc
    | some v => exact (hg m v h).2
theorem bs_len {T : List Nat} {gv : Nat → Option (List Nat)} {s : Option Nat} (hT : T.length ≤ 320) (hg : gok gv) : (bs T gv s).length ≤ 320 := by
  unfold bs
  split
  · exact hT
  · rename_i m
    cases h : gv m with
    | none => simp
    | some v => have := (hg m v h).1; simp; omega
theorem u_negl {a b : Nat} (h : a < b) (hb : b < 2147483648) : nI a - nI b < 0 := by
  have : nI a - nI b = -(nI (b - a)) := by
    rw [← u_sub (Nat.le_of_lt h)]
    exact (Int32.neg_sub).symm
  rw [this, Int32.lt_iff_toInt_lt]
  have h2 : (nI (b - a)).toInt = ((b - a : Nat) : Int) := nI_toInt (by omega)
  rw [Int32.toInt_neg, h2]
  have h3 : (0 : Int32).toInt = 0 := rfl
  rw [h3]
  have h4 : (-((b - a : Nat) : Int)).bmod (2 ^ 32) = -((b - a : Nat) : Int) := Int.bmod_eq_of_le (by omega) (by omega)
  rw [h4]
  omega
theorem u_as {a b c : Nat} (h : c ≤ a + b) : nI a + (nI b - nI c) = nI (a + b - c) := by
  rw [← u_sub h, ← u_add, Int32.sub_eq_add_neg, Int32.sub_eq_add_neg, Int32.add_assoc]
section
variable {σ : rb_St} {b : Nat} {F : fx_F}
theorem m_charAt {T : List Nat} {gv : Nat → Option (List Nat)} (hT : m_text F T) (hg : m_given F gv) (hgo : gok gv) {s : Option Nat} (hs : sok gv s) {l p : Nat} (hl : l < 7) (hsrc : (F.2.1 65)[l]? = some (oi s)) (hp : p < (bs T gv s).length) (hT3 : T.length ≤ 320) : f_M_charAt (some (fx_ad b 34)) (nI l) (nI p) (fx_mk σ b F) = some (some (.int (nI ((bs T gv s).getD p 0))), fx_mk σ b F) := by
  unfold f_M_charAt
  cases s with
  | none =>
    have hp' : p < T.length := hp
    simp (disch := omega) only [fx_rm, Bool.false_eq_true, Option.bind_some, Option.map_some, rb_cI, rb_cL, rb_cR, rb_cV, reduceIte, ite_true, ite_false, not_true_eq_false, not_false_eq_true, true_and, and_true, Nat.reduceEqDiff, Nat.reduceAdd, Nat.reduceMul, Nat.add_sub_cancel, nI_1, u_lt, u_le, u_eq, u_add, u_ix, u_ixL, u_ixR, u_cl, u_nm1, u_nm1', u_m1l, u_m1n, if_pos, if_neg, hsrc, oi_none]
    rw [if_neg (show ¬ (0 : Int32) ≤ -1 by decide), rk_getD hT hp']
    rfl
  | some m =>
    obtain ⟨h1, h2⟩ := hs m rfl
    cases hv : gv m with
    | none => exact absurd hv h2
    | some v =>
      have h3 := (hgo m v hv).1
      have hb : bs T gv (some m) = v := by simp [bs, hv]
      rw [hb] at hp ⊢
      have h4 := ((hg m h1).2 v hv).2 p hp
      simp (disch := omega) only [fx_rm, Bool.false_eq_true, Option.bind_some, Option.map_some, rb_cI, rb_cL, rb_cR, rb_cV, reduceIte, ite_true, ite_false, not_true_eq_false, not_false_eq_true, true_and, and_true, Nat.reduceEqDiff, Nat.reduceAdd, Nat.reduceMul, Nat.add_sub_cancel, nI_1, u_lt, u_le, u_eq, u_add, u_ix, u_ixL, u_ixR, u_cl, u_nm1, u_nm1', u_m1l, u_m1n, if_pos, if_neg, hsrc, oi_some, u_l0, u_l16, u_mul, Nat.zero_le, h4]
theorem m_append (hb : rb_b σ ≤ b) (hF : fx_ln F) {o : List Nat} (ho : o.length ≤ 120) (hm : m_out F o) (c : Nat) : ∃ F', f_M_append (some (fx_ad b 34)) (nI c) (fx_mk σ b F) = some (some (.int (if o.length < 120 then nI 1 else nI 0)), fx_mk σ b F') ∧ m_out F' (if o.length < 120 then o ++ [c] else o) ∧ fx_ln F' ∧ fr [3444] [62] [] F F' := by
  have hL := hF.1 62
  simp only [fx_cI] at hL
  unfold f_M_append
  by_cases h : o.length < 120
  · refine ⟨fx_I (fx_A F 62 ((F.2.1 62).set o.length (nI c))) 3444 (nI (o.length + 1)), ?_, ⟨?_, ?_⟩, ?_, ?_⟩
    · simp (disch := omega) only [fx_rm, fx_wm hb, Bool.false_eq_true, Option.bind_some, Option.map_some, rb_cI, rb_cL, rb_cR, rb_cV, reduceIte, ite_true, ite_false, not_true_eq_false, not_false_eq_true, true_and, and_true, Nat.reduceEqDiff, Nat.reduceAdd, Nat.reduceMul, Nat.add_sub_cancel, fx_II, fx_AA, fx_LL, fx_I_1, fx_I_A, fx_I_L, fx_I_R, fx_I_Q, fx_A_1, fx_A_A, fx_A_L, fx_A_R, fx_A_Q, fx_L_1, fx_L_A, fx_L_L, fx_L_R, fx_L_Q, fx_R_1, fx_R_A, fx_R_L, fx_R_R, fx_R_Q, fx_Q_1, fx_Q_A, fx_Q_L, fx_Q_R, fx_Q_Q, hm.1, u_l0, u_l1, u_l120, nI_1, u_lt, u_le, u_eq, u_add, u_ix, u_ixL, u_ixR, u_cl, u_nm1, u_nm1', u_m1l, u_m1n, if_pos, if_neg, u_nar2]
    · simp [fx_II, fx_AA, fx_LL, fx_I_1, fx_I_A, fx_I_L, fx_I_R, fx_I_Q, fx_A_1, fx_A_A, fx_A_L, fx_A_R, fx_A_Q, fx_L_1, fx_L_A, fx_L_L, fx_L_R, fx_L_Q, fx_R_1, fx_R_A, fx_R_L, fx_R_R, fx_R_Q, fx_Q_1, fx_Q_A, fx_Q_L, fx_Q_R, fx_Q_Q, h]
    · simp only [fx_II, fx_AA, fx_LL, fx_I_1, fx_I_A, fx_I_L, fx_I_R, fx_I_Q, fx_A_1, fx_A_A, fx_A_L, fx_A_R, fx_A_Q, fx_L_1, fx_L_A, fx_L_L, fx_L_R, fx_L_Q, fx_R_1, fx_R_A, fx_R_L, fx_R_R, fx_R_Q, fx_Q_1, fx_Q_A, fx_Q_L, fx_Q_R, fx_Q_Q, Bool.false_eq_true, Option.bind_some, Option.map_some, rb_cI, rb_cL, rb_cR, rb_cV, reduceIte, ite_true, ite_false, not_true_eq_false, not_false_eq_true, true_and, and_true, Nat.reduceEqDiff, Nat.reduceAdd, Nat.reduceMul, Nat.add_sub_cancel, h]
      exact rk_push hm.2 (by omega) c
    · exact fx_lnI (fx_lnA hF (by rw [List.length_set]; exact hF.1 _))
    · exact fr_I (fr_A (fr_refl _ _ _ _) (by decide)) (by decide)
  · refine ⟨F, ?_, ?_, hF, fr_refl _ _ _ _⟩
    · simp (disch := omega) only [fx_rm, Bool.false_eq_true, Option.bind_some, Option.map_some, rb_cI, rb_cL, rb_cR, rb_cV, reduceIte, ite_true, ite_false, not_true_eq_false, not_false_eq_true, true_and, and_true, Nat.reduceEqDiff, Nat.reduceAdd, Nat.reduceMul, Nat.add_sub_cancel, hm.1, u_l0, u_l1, u_l120, nI_1, u_lt, u_le, u_eq, u_add, u_ix, u_ixL, u_ixR, u_cl, u_nm1, u_nm1', u_m1l, u_m1n, if_pos, if_neg]
    · rw [if_neg h]
      exact hm
/-- a word appended: all of it, or not -/
theorem m_appendName (hb : rb_b σ ≤ b) {w : List Nat} (hw : w.length ≤ 9) (hok : pq_ok w) : ∀ (F : fx_F), fx_ln F → ∀ (o : List Nat), o.length ≤ 120 → m_out F o → ∃ F', f_M_appendName (some (fx_ad b 34)) (lN (pq w)) (fx_mk σ b F) = some (some (.int (if o.length + w.length ≤ 120 then nI 1 else nI 0)), fx_mk σ b F') ∧ (o.length + w.length ≤ 120 → m_out F' (o ++ w)) ∧ fx_ln F' ∧ fr [3444] [62] [] F F' := by
  have fail : ∀ (n : Nat) (F : fx_F), n ≤ 9 → rb_it (fun z : (Int32 × Int32 × rb_St) => f_M_appendName_b10 (some (fx_ad b 34)) (lN (pq w)) (z.1) (z.2.1) z.2.2) (nI 0, nI n - nI 1, fx_mk σ b F) = some (some (.int (nI 0)), fx_mk σ b F) := by
    intro n
    induction n with
    | zero =>
      intro F _
      refine rb_it_r ?_
      unfold f_M_appendName_b10
      rw [show nI 0 - nI 1 = (-1 : Int32) from rfl, if_pos (show (-1 : Int32) < 0 by decide), if_pos (show rb_isZ (nI 0) from Or.inl rfl)]
      rfl
    | succ n ih =>
      intro F hn
      rw [← ih F (by omega)]
      refine rb_it_l ?_
      unfold f_M_appendName_b10
      rw [u_sb1]
      simp only
      rw [if_neg (nI_pos (by omega)), if_pos (show nI 0 = 0 from rfl)]
      cases n with
      | zero => rfl
      | succ n => rw [u_b1, u_sb1]; rfl
  have key : ∀ (n : Nat) (F : fx_F) (o : List Nat), n ≤ w.length → fx_ln F → o.length ≤ 120 → m_out F o → ∃ F', rb_it (fun z : (Int32 × Int32 × rb_St) => f_M_appendName_b10 (some (fx_ad b 34)) (lN (pq w)) (z.1) (z.2.1) z.2.2) (nI 1, nI n - nI 1, fx_mk σ b F) = some (some (.int (if o.length + n ≤ 120 then nI 1 else nI 0)), fx_mk σ b F') ∧ (o.length + n ≤ 120 → m_out F' (o ++ w.drop (w.length - n))) ∧ fx_ln F' ∧ fr [3444] [62] [] F F' := by
    intro n
    induction n with
    | zero =>
      intro F o _ hF ho hm
      refine ⟨F, ?_, fun _ => by simpa using hm, hF, fr_refl _ _ _ _⟩
      refine rb_it_r ?_
      unfold f_M_appendName_b10
      rw [show nI 0 - nI 1 = (-1 : Int32) from rfl, if_pos (show (-1 : Int32) < 0 by decide), if_pos (show rb_isZ (nI 1) from Or.inr rfl), if_pos (by omega)]
      rfl
    | succ n ih =>
      intro F o hn hF ho hm
      obtain ⟨F1, e1, e2, e3, e4⟩ := m_append hb hF ho hm (w.getD (w.length - (n + 1)) 0)
      have hstep : f_M_appendName_b10 (some (fx_ad b 34)) (lN (pq w)) (nI 1) (nI (n + 1) - nI 1) (fx_mk σ b F) = some (.inl ((if o.length < 120 then nI 1 else nI 0), nI n - nI 1, fx_mk σ b F1)) := by
        unfold f_M_appendName_b10
        rw [u_sb1, if_neg (nI_pos (by omega)), if_neg (show ¬ nI 1 = 0 by decide), u_l7, u_mul, pq_digit hw hok (i := w.length - (n + 1)) (by omega)]
        simp only [fx_rm, Bool.false_eq_true, Option.bind_some, Option.map_some, rb_cI, rb_cL, rb_cR, rb_cV, reduceIte, ite_true, ite_false, not_true_eq_false, not_false_eq_true, true_and, and_true, Nat.reduceEqDiff, Nat.reduceAdd, Nat.reduceMul, Nat.add_sub_cancel]
        rw [e1]
        simp only [rb_cI]
        by_cases h : o.length < 120
        · rw [if_pos h, if_neg (show ¬ nI 1 = 0 by decide)]
          cases n with
          | zero => rfl
          | succ n => rw [u_b1, u_sb1]; rfl
        · rw [if_neg h, if_pos (show nI 0 = 0 from rfl)]
          cases n with
          | zero => rfl
          | succ n => rw [u_b1, u_sb1]; rfl
      by_cases h : o.length < 120
      · rw [if_pos h] at hstep e2
        obtain ⟨F2, g1, g2, g3, g4⟩ := ih F1 (o ++ [w.getD (w.length - (n + 1)) 0]) (by omega) e3 (by simp; omega) e2
        refine ⟨F2, ?_, fun hh => ?_, g3, fr_trans e4 g4⟩
        · rw [rb_it_l hstep, g1]
          have hlen : (o ++ [w.getD (w.length - (n + 1)) 0]).length = o.length + 1 := by simp
          by_cases h2 : o.length + (n + 1) ≤ 120
          · rw [if_pos h2, if_pos (by omega)]
          · rw [if_neg h2, if_neg (by omega)]
        · have := g2 (by simp; omega)
          rw [List.append_assoc] at this
          have hd : w.drop (w.length - (n + 1)) = [w.getD (w.length - (n + 1)) 0] ++ w.drop (w.length - n) := by
            rw [List.drop_eq_getElem_cons (by omega), getD_get (by omega), show w.length - (n + 1) + 1 = w.length - n by omega]
            rfl
          rw [hd]
          exact this
      · rw [if_neg h] at hstep
        refine ⟨F1, ?_, fun hh => by omega, e3, e4⟩
        rw [rb_it_l hstep, fail n F1 (by omega), if_neg (by omega)]
  intro F hF o ho hm
  unfold f_M_appendName
  rw [m_length _ hw hok]
  obtain ⟨F', e1, e2, e3, e4⟩ := key w.length F o (Nat.le_refl _) hF ho hm
  refine ⟨F', e1, fun h => ?_, e3, e4⟩
  have := e2 h
  simpa using this
end
