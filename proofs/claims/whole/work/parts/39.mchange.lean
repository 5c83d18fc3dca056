/-! the reference: a word's end, and its change -/
theorem rb_it_m {S α : Type} {body : S → Option (S ⊕ α)} {s : S} {x : Option α} (h : body s = x.map Sum.inr) : rb_it body s = x := by
  rw [rb_it_eq, h]
  cases x <;> rfl
theorem sr_pos {P : Nat → Bool} {m k : Nat} (h : P k = true) : sr P (m + 1) k = some k := by
  unfold sr
  rw [if_pos h]
theorem sr_neg {P : Nat → Bool} {m k : Nat} (h : P k = false) : sr P (m + 1) k = sr P m (k + 1) := by
  conv => lhs; unfold sr
  rw [if_neg (by rw [h]; decide)]
/-- an end of a word -/
def sfx (u w : List Nat) : Bool := decide (u.length ≤ w.length) && decide (w.drop (w.length - u.length) = u)
/-- the places of a text are those of another -/
theorem getD_ext {l m : List Nat} (h : l.length = m.length) (h2 : ∀ i, i < l.length → l.getD i 0 = m.getD i 0) : l = m := by
  apply List.ext_getElem h
  intro i h3 h4
  have := h2 i h3
  rwa [getD_get h3, getD_get h4] at this
theorem drop_getD {l : List Nat} {p i : Nat} : (l.drop p).getD i 0 = l.getD (p + i) 0 := by simp [List.getD, List.getElem?_drop]
theorem sfx_slc {u o : List Nat} {p q : Nat} (hpq : p ≤ q) (hq : q ≤ o.length) : sfx u (slc o p q) = (decide (u.length ≤ q - p) && (sr (fun k => decide (¬ o.getD (q - u.length + k) 0 = u.getD k 0)) u.length 0).isNone) := by
  unfold sfx
  rw [slc_len hq]
  by_cases h : u.length ≤ q - p
  · rw [decide_eq_true h, Bool.true_and, Bool.true_and]
    have hl : ((slc o p q).drop (q - p - u.length)).length = u.length := by
      rw [List.length_drop, slc_len hq]
      omega
    have hg : ∀ i, i < u.length → ((slc o p q).drop (q - p - u.length)).getD i 0 = o.getD (q - u.length + i) 0 := by
      intro i hi
      rw [drop_getD, slc_get (by omega)]
      congr 1
      omega
    cases hs : sr (fun k => decide (¬ o.getD (q - u.length + k) 0 = u.getD k 0)) u.length 0 with
    | some j =>
      have := sr_some hs
      simp only [decide_eq_true_eq] at this
      simp only [Option.isNone_some, decide_eq_false_iff_not]
      intro e
      exact this.2.2 (by rw [← hg j (by omega), e])
    | none =>
      have := sr_none hs
      simp only [decide_eq_false_iff_not, Decidable.not_not] at this
      simp only [Option.isNone_none, decide_eq_true_eq]
      exact getD_ext hl (fun i hi => by rw [hg i (by omega)]; exact this i (by omega) (by omega))
  · rw [decide_eq_false h, Bool.false_and, Bool.false_and]
/-- the level that is being left: the text of the one below it, and the places of the end and of what stands for it -/
def m_lv (F : fx_F) (l : Nat) (s : Option Nat) (cf ct nt : Nat) : Prop := F.1 3448 = nI (l + 1) ∧ (F.2.1 65)[l]? = some (oi s) ∧ (F.2.1 69)[l + 1]? = some (nI cf) ∧ (F.2.1 70)[l + 1]? = some (nI ct) ∧ (F.2.1 71)[l + 1]? = some (nI nt)
section
variable {σ : rb_St} {b : Nat} {F : fx_F} {T : List Nat} {gv : Nat → Option (List Nat)}
theorem m_endsSo (hT : m_text F T) (hT3 : T.length ≤ 320) (hTk : tk T) (hg : m_given F gv) (hgo : gok gv) {s : Option Nat} (hs : sok gv s) {l cf ct nt : Nat} (hl : l < 6) (hv : m_lv F l s cf ct nt) (h1 : cf ≤ ct) (h2 : ct ≤ (bs T gv s).length) {o : List Nat} (ho : o.length ≤ 120) (hto : tk o) (hm : m_out F o) {p q : Nat} (hpq : p ≤ q) (hq : q ≤ o.length) : f_M_endsSo (some (fx_ad b 34)) (nI p) (nI q) (nI (ct - cf)) (fx_mk σ b F) = some (some (.int (if sfx (slc (bs T gv s) cf ct) (slc o p q) = true then nI 1 else nI 0)), fx_mk σ b F) := by
  have hbl := bs_len (T := T) (gv := gv) (s := s) hT3 hgo
  have hu : (slc (bs T gv s) cf ct).length = ct - cf := slc_len h2
  have hbt := bs_tk (T := T) (gv := gv) (s := s) hTk hgo
  unfold f_M_endsSo
  rw [sfx_slc hpq hq, hu, u_sub hpq]
  simp (disch := omega) only [u_lt, u_l0, u_l1]
  have zero : ∀ k, rb_it (fun z : (Int32 × Int32 × rb_St) => f_M_endsSo_b17 (some (fx_ad b 34)) (nI q) (nI (ct - cf)) (z.1) (z.2.1) z.2.2) (nI 0, nI k, fx_mk σ b F) = some (some (.int (nI 0)), fx_mk σ b F) := by
    intro k
    refine rb_it_r ?_
    unfold f_M_endsSo_b17 f_M_endsSo_j77
    simp only
    rw [if_pos (show nI 0 = 0 from rfl), if_pos (show rb_isZ (nI 0) from Or.inl rfl), ite_self]
    rfl
  by_cases h : q - p < ct - cf
  · rw [if_pos h, decide_eq_false (by omega), Bool.false_and, zero]
    rfl
  · rw [if_neg h, decide_eq_true (by omega), Bool.true_and]
    have key : ∀ m k, k + m = ct - cf → rb_it (fun z : (Int32 × Int32 × rb_St) => f_M_endsSo_b17 (some (fx_ad b 34)) (nI q) (nI (ct - cf)) (z.1) (z.2.1) z.2.2) (nI 1, nI k, fx_mk σ b F) = some (some (.int (if (sr (fun k => decide (¬ o.getD (q - (ct - cf) + k) 0 = (slc (bs T gv s) cf ct).getD k 0)) m k).isNone = true then nI 1 else nI 0)), fx_mk σ b F) := by
      intro m
      induction m with
      | zero =>
        intro k hk
        refine rb_it_r ?_
        unfold f_M_endsSo_b17 f_M_endsSo_j77
        rw [if_pos (nI_le (by omega) (by omega)), if_pos (show rb_isZ (nI 1) from Or.inr rfl)]
        rfl
      | succ m ih =>
        intro k hk
        have hc1 := ty_lt (tk_get hto (k := q - (ct - cf) + k) (by omega))
        have hc2 := ty_lt (tk_get hbt (k := cf + k) (by omega))
        have hstep : f_M_endsSo_b17 (some (fx_ad b 34)) (nI q) (nI (ct - cf)) (nI 1) (nI k) (fx_mk σ b F) = some (.inl ((if o.getD (q - (ct - cf) + k) 0 = (slc (bs T gv s) cf ct).getD k 0 then nI 1 else nI 0), nI (k + 1), fx_mk σ b F)) := by
          unfold f_M_endsSo_b17
          rw [slc_get (by omega)]
          simp (disch := omega) only [fx_rm, Bool.false_eq_true, Option.bind_some, Option.map_some, rb_cI, rb_cL, rb_cR, rb_cV, reduceIte, ite_true, ite_false, not_true_eq_false, not_false_eq_true, true_and, and_true, Nat.reduceEqDiff, Nat.reduceAdd, Nat.reduceMul, Nat.add_sub_cancel, hv.1, hv.2.1, hv.2.2.1, u_l0, u_l1, nI_1, u_lt, u_le, u_eq, u_add, u_ix, u_ixL, u_ixR, u_cl, u_nm1, u_nm1', u_m1l, u_m1n, if_pos, if_neg, u_sub, u_sb1, rk_getD hm.2 (i := q - (ct - cf) + k) (by omega), m_charAt hT hg hgo hs (l := l) (p := cf + k) (by omega) hv.2.1 (by omega) hT3]
          split <;> rfl
        rw [rb_it_l hstep]
        by_cases e : o.getD (q - (ct - cf) + k) 0 = (slc (bs T gv s) cf ct).getD k 0
        · rw [if_pos e, ih (k + 1) (by omega), sr_neg (decide_eq_false (fun h => h e))]
        · rw [if_neg e, zero, sr_pos (decide_eq_true e)]
          rfl
    exact key (ct - cf) 0 (by omega)
/-- rows that the changes make -/
theorem m_shr (hb : rb_b σ ≤ b) (hF : fx_ln F) {L t n u : Nat} (x1 : Int32) (hL : F.1 3444 = nI L) (h1 : 1 ≤ t) (hun : u < n) (hfit : L + n - u ≤ 120) : ∀ (m j : Nat) (row : List Int32), j = t + m → j ≤ L → row.length = 120 → ∃ row' : List Int32, row'.length = 120 ∧ (∀ i, row'[i]? = if t + n - u ≤ i ∧ i < j + n - u then row[i + u - n]? else row[i]?) ∧ rb_it (fun z : (Int32 × rb_St) => f_M_change_b51 (some (fx_ad b 34)) x1 (nI t) (nI n) (nI n - nI u) (z.1) z.2) (nI (j - 1), fx_mk σ b (fx_A F 62 row)) = f_M_change_j85 (some (fx_ad b 34)) x1 (nI t) (nI n) (nI n - nI u) (fx_mk σ b (fx_A F 62 row')) := by
  intro m
  induction m with
  | zero =>
    intro j row hj hjL hr
    refine ⟨row, hr, fun i => by rw [if_neg (by omega)], ?_⟩
    refine rb_it_m ?_
    unfold f_M_change_b51
    rw [if_pos (nI_lt (by omega) (by omega))]
  | succ m ih =>
    intro j row hj hjL hr
    have hg : ∃ v, row[j - 1]? = some v := ⟨row[j - 1], List.getElem?_eq_getElem (by omega)⟩
    obtain ⟨v, hv⟩ := hg
    obtain ⟨row', e1, e2, e3⟩ := ih (j - 1) (row.set (j - 1 + (n - u)) v) (by omega) (by omega) (by simp [hr])
    refine ⟨row', e1, fun i => ?_, ?_⟩
    · rw [e2 i, set_get (by omega), set_get (by omega)]
      by_cases h2 : i = j - 1 + (n - u)
      · rw [if_neg (by omega), if_pos h2, if_pos (by omega), ← hv]
        congr 1
        omega
      · rw [if_neg h2]
        by_cases h3 : t + n - u ≤ i ∧ i < j - 1 + n - u
        · rw [if_pos h3, if_neg (by omega), if_pos (by omega)]
        · rw [if_neg h3, if_neg (by omega)]
    · rw [← e3]
      refine rb_it_l ?_
      unfold f_M_change_b51
      rw [if_neg (nI_nlt (by omega) (by omega)), u_sub (by omega), if_neg (show ¬ nI (n - u) ≤ 0 from nI_nle (by omega) (by omega))]
      have ej : nI (j - 1) + (-1) = nI (j - 1 - 1) := by
        rw [show j - 1 = (j - 1 - 1) + 1 by omega, u_b1]
        rfl
      simp (disch := omega) only [fx_rm, fx_wm hb, Bool.false_eq_true, Option.bind_some, Option.map_some, rb_cI, rb_cL, rb_cR, rb_cV, reduceIte, ite_true, ite_false, not_true_eq_false, not_false_eq_true, true_and, and_true, Nat.reduceEqDiff, Nat.reduceAdd, Nat.reduceMul, Nat.add_sub_cancel, fx_II, fx_AA, fx_LL, fx_I_1, fx_I_A, fx_I_L, fx_I_R, fx_I_Q, fx_A_1, fx_A_A, fx_A_L, fx_A_R, fx_A_Q, fx_L_1, fx_L_A, fx_L_L, fx_L_R, fx_L_Q, fx_R_1, fx_R_A, fx_R_L, fx_R_R, fx_R_Q, fx_Q_1, fx_Q_A, fx_Q_L, fx_Q_R, fx_Q_Q, u_l0, nI_1, u_lt, u_le, u_eq, u_add, u_ix, u_ixL, u_ixR, u_cl, u_nm1, u_nm1', u_m1l, u_m1n, if_pos, if_neg, hv, u_nar2, hr, ej]
theorem m_shl (hb : rb_b σ ≤ b) (hF : fx_ln F) {L t n u : Nat} (x1 : Int32) (hL : F.1 3444 = nI L) (hL1 : L ≤ 120) (hun : n < u) (hut : u ≤ t + n) (hu3 : u ≤ 320) : ∀ (m k : Nat) (row : List Int32), k + m = L → t ≤ k → row.length = 120 → ∃ row' : List Int32, row'.length = 120 ∧ (∀ i, row'[i]? = if k + n - u ≤ i ∧ i < L + n - u then row[i + u - n]? else row[i]?) ∧ rb_it (fun z : (Int32 × rb_St) => f_M_change_b88 (some (fx_ad b 34)) x1 (nI n) (nI n - nI u) (z.1) z.2) (nI k, fx_mk σ b (fx_A F 62 row)) = f_M_change_j125 (some (fx_ad b 34)) x1 (nI n) (nI n - nI u) (fx_mk σ b (fx_A F 62 row')) := by
  intro m
  induction m with
  | zero =>
    intro k row hk htk hr
    refine ⟨row, hr, fun i => by rw [if_neg (by omega)], ?_⟩
    refine rb_it_m ?_
    unfold f_M_change_b88
    simp (disch := omega) only [fx_rm, Bool.false_eq_true, Option.bind_some, Option.map_some, rb_cI, rb_cL, rb_cR, rb_cV, reduceIte, ite_true, ite_false, not_true_eq_false, not_false_eq_true, true_and, and_true, Nat.reduceEqDiff, Nat.reduceAdd, Nat.reduceMul, Nat.add_sub_cancel, fx_II, fx_AA, fx_LL, fx_I_1, fx_I_A, fx_I_L, fx_I_R, fx_I_Q, fx_A_1, fx_A_A, fx_A_L, fx_A_R, fx_A_Q, fx_L_1, fx_L_A, fx_L_L, fx_L_R, fx_L_Q, fx_R_1, fx_R_A, fx_R_L, fx_R_R, fx_R_Q, fx_Q_1, fx_Q_A, fx_Q_L, fx_Q_R, fx_Q_Q, hL, nI_1, u_lt, u_le, u_eq, u_add, u_ix, u_ixL, u_ixR, u_cl, u_nm1, u_nm1', u_m1l, u_m1n, if_pos, if_neg]
  | succ m ih =>
    intro k row hk htk hr
    have hg : ∃ v, row[k]? = some v := ⟨row[k], List.getElem?_eq_getElem (by omega)⟩
    obtain ⟨v, hv⟩ := hg
    obtain ⟨row', e1, e2, e3⟩ := ih (k + 1) (row.set (k + n - u) v) (by omega) (by omega) (by simp [hr])
    refine ⟨row', e1, fun i => ?_, ?_⟩
    · rw [e2 i, set_get (by omega), set_get (by omega)]
      by_cases h2 : i = k + n - u
      · rw [if_neg (by omega), if_pos h2, if_pos (by omega), ← hv]
        congr 1
        omega
      · rw [if_neg h2]
        by_cases h3 : k + 1 + n - u ≤ i ∧ i < L + n - u
        · rw [if_pos h3, if_neg (by omega), if_pos (by omega)]
        · rw [if_neg h3, if_neg (by omega)]
    · rw [← e3]
      refine rb_it_l ?_
      unfold f_M_change_b88
      have hng : ¬ (0 : Int32) ≤ nI n - nI u := fun q => absurd (u_negl (a := n) (b := u) hun (by omega)) (Int32.not_lt.mpr q)
      rw [show (0 : Int32) = nI 0 from rfl] at hng
      simp (disch := omega) only [fx_rm, fx_wm hb, Bool.false_eq_true, Option.bind_some, Option.map_some, rb_cI, rb_cL, rb_cR, rb_cV, reduceIte, ite_true, ite_false, not_true_eq_false, not_false_eq_true, true_and, and_true, Nat.reduceEqDiff, Nat.reduceAdd, Nat.reduceMul, Nat.add_sub_cancel, fx_II, fx_AA, fx_LL, fx_I_1, fx_I_A, fx_I_L, fx_I_R, fx_I_Q, fx_A_1, fx_A_A, fx_A_L, fx_A_R, fx_A_Q, fx_L_1, fx_L_A, fx_L_L, fx_L_R, fx_L_Q, fx_R_1, fx_R_A, fx_R_L, fx_R_R, fx_R_Q, fx_Q_1, fx_Q_A, fx_Q_L, fx_Q_R, fx_Q_Q, hL, u_l0, nI_1, u_lt, u_le, u_eq, u_add, u_ix, u_ixL, u_ixR, u_cl, u_nm1, u_nm1', u_m1l, u_m1n, if_pos, if_neg, hng, hv, u_as, hr, u_nar2]
end
