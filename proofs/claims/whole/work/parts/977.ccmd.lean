/-! the class: commands are made -/
abbrev nmk (t : List Nat) : Nat := fi (fun k => !mkd (t.getD k 0)) t.length 0
theorem c_isMark (τ : rb_St) {c : Nat} (h : c < 65536) : f_Cmd_isMark (nI c) τ = some (some (.int (nI (b2 (mkd c)))), τ) := by
  unfold f_Cmd_isMark mkd
  simp (disch := omega) only [show (45 : Int32) = nI 45 from rfl, show (64 : Int32) = nI 64 from rfl, show (43 : Int32) = nI 43 from rfl, u_eq]
  by_cases h1 : c = 45
  · rw [if_pos h1, decide_eq_true (Or.inl h1)]
    rfl
  · by_cases h2 : c = 64
    · rw [if_neg h1, if_pos h2, decide_eq_true (Or.inr (Or.inl h2))]
      rfl
    · by_cases h3 : c = 43
      · rw [if_neg h1, if_neg h2, if_pos h3, decide_eq_true (Or.inr (Or.inr h3))]
        rfl
      · rw [if_neg h1, if_neg h2, if_neg h3, decide_eq_false (by rintro (h | h | h); exact h1 h; exact h2 h; exact h3 h)]
        rfl
theorem take_has {t : List Nat} {i c : Nat} (hi : i < t.length) : decide (c ∈ t.take (i + 1)) = (decide (c ∈ t.take i) || decide (t.getD i 0 = c)) := by
  have h1 : t.take (i + 1) = t.take i ++ [t.getD i 0] := by
    have := slc_take (o := t) (p := i) (q := i + 1) (by omega)
    rw [this, slc_cons (by omega) (by omega), slc_self]
  rw [h1]
  by_cases h : c ∈ t.take i
  · rw [decide_eq_true h, decide_eq_true (List.mem_append.mpr (Or.inl h))]
    rfl
  · by_cases h2 : t.getD i 0 = c
    · rw [decide_eq_false h, decide_eq_true h2, decide_eq_true (List.mem_append.mpr (Or.inr (by rw [h2]; exact List.mem_singleton.mpr rfl)))]
      rfl
    · rw [decide_eq_false h, decide_eq_false h2, decide_eq_false]
      · rfl
      · intro hm
        rcases List.mem_append.mp hm with h3 | h3
        · exact h h3
        · exact h2 (List.mem_singleton.mp h3).symm
section
variable {σ : rb_St} {b : Nat} {F : fx_F}
theorem c_cmdStep {a : Nat} {t : List Nat} (hs : sx σ b a t) {i : Nat} (hi : i < t.length) (hmk : mkd (t.getD i 0) = true) (A : Nat) (x : Int32) (p q r : Bool) : f_Cmd_init_b15 A (some a) x (nI (b2 p)) (nI (b2 q)) (nI (b2 r)) (nI i) (fx_mk σ b F) = some (.inl (nI (b2 (p || decide (t.getD i 0 = 45))), nI (b2 (q || decide (t.getD i 0 = 64))), nI (b2 (r || decide (t.getD i 0 = 43))), nI (i + 1), fx_mk σ b F)) := by
  have hlen := c_len (F := F) hs
  have hch := c_charAt (F := F) hs hi
  obtain ⟨v, rest, k1, k2, k3, k4, k5, k6⟩ := hs.2.2
  have hfc := fo_fk (F := F) hs.1 k3
  have hc := k5 _ (getD_mem (d := 0) hi)
  have hmark := c_isMark (fx_mk σ b F) (c := t.getD i 0) (by omega)
  rw [hmk, b2_t] at hmark
  have e45 : (nI (t.getD i 0) = (45 : Int32)) = (t.getD i 0 = 45) := by rw [show (45 : Int32) = nI 45 from rfl, u_eq (by omega) (by omega)]
  have e64 : (nI (t.getD i 0) = (64 : Int32)) = (t.getD i 0 = 64) := by rw [show (64 : Int32) = nI 64 from rfl, u_eq (by omega) (by omega)]
  have e43 : (nI (t.getD i 0) = (43 : Int32)) = (t.getD i 0 = 43) := by rw [show (43 : Int32) = nI 43 from rfl, u_eq (by omega) (by omega)]
  have hj78 : ∀ x3 sx0 : Int32, f_Cmd_init_j78 A (some a) x x3 (nI (b2 r)) (nI i) sx0 (fx_mk σ b F) = some (.inl (x3, sx0, nI (b2 (r || decide (t.getD i 0 = 43))), nI (i + 1), fx_mk σ b F)) := by
    intro x3 sx0
    unfold f_Cmd_init_j78
    rw [show nI i + 1 = nI (i + 1) by rw [u_l1, u_add]]
    cases r with
    | true => rfl
    | false =>
      rw [b2_f, if_pos (show nI 0 = 0 from rfl), hfc, Option.bind_some, cI_of hch]
      simp only [e43]
      by_cases h : t.getD i 0 = 43
      · rw [if_pos h, decide_eq_true h]
        rfl
      · rw [if_neg h, decide_eq_false h]
        rfl
  have hj56 : ∀ sx0 : Int32, f_Cmd_init_j56 A (some a) x (nI (b2 q)) (nI (b2 r)) (nI i) sx0 (fx_mk σ b F) = some (.inl (sx0, nI (b2 (q || decide (t.getD i 0 = 64))), nI (b2 (r || decide (t.getD i 0 = 43))), nI (i + 1), fx_mk σ b F)) := by
    intro sx0
    unfold f_Cmd_init_j56 f_Cmd_init_j73
    cases q with
    | true => exact hj78 _ _
    | false =>
      rw [b2_f, if_pos (show nI 0 = 0 from rfl), hfc, Option.bind_some, cI_of hch]
      simp only [e64, hj78]
      by_cases h : t.getD i 0 = 64
      · rw [if_pos h, decide_eq_true h]
        rfl
      · rw [if_neg h, decide_eq_false h]
        rfl
  unfold f_Cmd_init_b15 f_Cmd_init_j51
  rw [hfc, Option.bind_some, cI_of hlen, if_neg (show ¬ nI t.length ≤ nI i by rw [u_le (by omega) (by omega)]; omega), hfc, Option.bind_some, cI_of hch, cI_of hmark, if_neg (show ¬ nI 1 = 0 by decide)]
  cases p with
  | true =>
    rw [b2_t, if_neg (show ¬ nI 1 = 0 by decide), hj56]
    rfl
  | false =>
    rw [b2_f, if_pos (show nI 0 = 0 from rfl), hfc, Option.bind_some, cI_of hch]
    simp only [e45, hj56]
    by_cases h : t.getD i 0 = 45
    · rw [if_pos h, decide_eq_true h]
      rfl
    · rw [if_neg h, decide_eq_false h]
      rfl
theorem c_cmdLoop {a : Nat} {t : List Nat} (hs : sx σ b a t) (A : Nat) (x : Int32) : ∀ (m i : Nat), i + m = nmk t → rb_it (fun z : (Int32 × Int32 × Int32 × Int32 × rb_St) => f_Cmd_init_b15 A (some a) x (z.1) (z.2.1) (z.2.2.1) (z.2.2.2.1) z.2.2.2.2) (nI (b2 (decide (45 ∈ t.take i))), nI (b2 (decide (64 ∈ t.take i))), nI (b2 (decide (43 ∈ t.take i))), nI i, fx_mk σ b F) = f_Cmd_init_j109 A (some a) x (nI (b2 (x_has t 45))) (nI (b2 (x_has t 64))) (nI (b2 (x_has t 43))) (nI (nmk t)) (fx_mk σ b F) := by
  have hlen := c_len (F := F) hs
  have hle : nmk t ≤ t.length := (fi_le (Nat.zero_le _)).2
  obtain ⟨v, rest, k1, k2, k3, k4, k5, k6⟩ := hs.2.2
  have hfc := fo_fk (F := F) hs.1 k3
  intro m
  induction m with
  | zero =>
    intro i hi
    have hin : i = nmk t := by omega
    refine rb_it_m ?_
    rw [hin]
    show f_Cmd_init_b15 _ _ _ _ _ _ _ _ = _
    unfold f_Cmd_init_b15
    rw [hfc, Option.bind_some, cI_of hlen]
    by_cases e : t.length ≤ nmk t
    · rw [if_pos (nI_le e (by omega))]
      rfl
    · have hlt : nmk t < t.length := by omega
      have hch := c_charAt (F := F) hs hlt
      have hc := k5 _ (getD_mem (d := 0) hlt)
      have hmk : mkd (t.getD (nmk t) 0) = false := by
        have h := fi_P (P := fun k => !mkd (t.getD k 0)) (n := t.length) (k := 0) hlt
        have h2 : (!mkd (t.getD (nmk t) 0)) = true := h
        cases hq : mkd (t.getD (nmk t) 0)
        · rfl
        · rw [hq] at h2
          cases h2
      have hmark := c_isMark (fx_mk σ b F) (c := t.getD (nmk t) 0) (by omega)
      rw [hmk, b2_f] at hmark
      rw [if_neg (show ¬ nI t.length ≤ nI (nmk t) by rw [u_le (by omega) (by omega)]; exact e), hfc, Option.bind_some, cI_of hch, cI_of hmark, if_pos (show nI 0 = 0 from rfl)]
      rfl
  | succ m ih =>
    intro i hi
    have hlt : i < nmk t := by omega
    have hmk : mkd (t.getD i 0) = true := by
      have h : (!mkd (t.getD i 0)) = false := fi_no (P := fun k => !mkd (t.getD k 0)) (n := t.length) (k := 0) (Nat.zero_le _) hlt (by omega)
      cases hq : mkd (t.getD i 0)
      · rw [hq] at h
        cases h
      · rfl
    rw [← ih (i + 1) (by omega)]
    refine rb_it_l ?_
    have := c_cmdStep (F := F) hs (show i < t.length by omega) hmk A x (decide (45 ∈ t.take i)) (decide (64 ∈ t.take i)) (decide (43 ∈ t.take i))
    rw [← take_has (by omega), ← take_has (by omega), ← take_has (by omega)] at this
    exact this
theorem c_newCmd (hk : kx σ b) {a : Nat} {t : List Nat} (hs : sx σ b a t) (htl : t.length ≤ 320) (x : Int32) : ∃ σ' s, f_Cmd_init (rb_n (fx_mk σ b F)) (some a) x (rb_nO (fx_mk σ b F) 11) = some (none, fx_mk σ' b F) ∧ σ'.1 (rb_n σ) = (11, [.ref s, .int x, .int (nI (b2 (x_has t 45))), .int (nI (b2 (x_has t 64))), .int (nI (b2 (x_has t 43)))]) ∧ sx σ' b s (t.drop (nmk t)) ∧ wx b (rb_n σ) ∧ rb_n σ < rb_n σ' ∧ hn σ σ' ∧ gw 3 (t.length + 9) σ σ' := by
  have hkn := hk.2.1
  have hkb := hk.1
  have hA : wx b (rb_n σ) := fun h => by omega
  generalize hσ1 : nwc σ (11, rb_df 11) (rb_nS 11) = σ1
  have hn1 : rb_n σ1 = rb_n σ + 1 := by subst hσ1; rfl
  have hb1 : rb_b σ1 = rb_b σ := by subst hσ1; rfl
  have hs1 : rb_s σ1 = rb_s σ + 5 := by subst hσ1; rfl
  have h01 : hn σ σ1 := by subst hσ1; exact hn_nwc _ _ _
  have c1 : σ1.1 (rb_n σ) = (11, rb_df 11) := by subst hσ1; exact nwc_at _ _
  have hsx1 := sx_hx hs h01.1
  have hle : nmk t ≤ t.length := (fi_le (Nat.zero_le _)).2
  obtain ⟨σ2, s, a1, a2, a3, a4⟩ := c_sub (F := F) (kx_hx hk h01.1) hsx1 hle
  have c2 : σ2.1 (rb_n σ) = (11, rb_df 11) := by rw [a3.2 _ (by omega)]; exact c1
  have hb2 : rb_b σ2 = rb_b σ := a3.1.2.1.trans hb1
  have hn2 := a3.1.1
  have p1 := fo_pR (F := F) (r := some s) (k := 0) hA (show rb_b σ2 ≤ rb_n σ by omega) c2 (by decide)
  generalize hσ3 : upc σ2 (rb_n σ) (11, (rb_df 11).set 0 (va_rf (some s))) = σ3 at p1
  have c3 : σ3.1 (rb_n σ) = (11, (rb_df 11).set 0 (va_rf (some s))) := by subst hσ3; exact upc_at _ _
  have hb3 : rb_b σ3 = rb_b σ := by subst hσ3; exact hb2
  have p2 := fo_pI (F := F) (x := x) (k := 1) hA (show rb_b σ3 ≤ rb_n σ by omega) c3 (by rw [List.length_set]; decide)
  generalize hσ4 : upc σ3 (rb_n σ) (11, ((rb_df 11).set 0 (va_rf (some s))).set 1 (.int x)) = σ4 at p2
  have c4 : σ4.1 (rb_n σ) = (11, ((rb_df 11).set 0 (va_rf (some s))).set 1 (.int x)) := by subst hσ4; exact upc_at _ _
  have hb4 : rb_b σ4 = rb_b σ := by subst hσ4; exact hb3
  have p3 := fo_pZ (F := F) (x := x_has t 45) (k := 2) hA (show rb_b σ4 ≤ rb_n σ by omega) c4 (by rw [List.length_set, List.length_set]; decide)
  generalize hσ5 : upc σ4 (rb_n σ) (11, (((rb_df 11).set 0 (va_rf (some s))).set 1 (.int x)).set 2 (.int (nI (b2 (x_has t 45))))) = σ5 at p3
  have c5 : σ5.1 (rb_n σ) = (11, (((rb_df 11).set 0 (va_rf (some s))).set 1 (.int x)).set 2 (.int (nI (b2 (x_has t 45))))) := by subst hσ5; exact upc_at _ _
  have hb5 : rb_b σ5 = rb_b σ := by subst hσ5; exact hb4
  have p4 := fo_pZ (F := F) (x := x_has t 64) (k := 3) hA (show rb_b σ5 ≤ rb_n σ by omega) c5 (by rw [List.length_set, List.length_set, List.length_set]; decide)
  generalize hσ6 : upc σ5 (rb_n σ) (11, ((((rb_df 11).set 0 (va_rf (some s))).set 1 (.int x)).set 2 (.int (nI (b2 (x_has t 45))))).set 3 (.int (nI (b2 (x_has t 64))))) = σ6 at p4
  have c6 : σ6.1 (rb_n σ) = (11, ((((rb_df 11).set 0 (va_rf (some s))).set 1 (.int x)).set 2 (.int (nI (b2 (x_has t 45))))).set 3 (.int (nI (b2 (x_has t 64))))) := by subst hσ6; exact upc_at _ _
  have hb6 : rb_b σ6 = rb_b σ := by subst hσ6; exact hb5
  have p5 := fo_pZ (F := F) (x := x_has t 43) (k := 4) hA (show rb_b σ6 ≤ rb_n σ by omega) c6 (by rw [List.length_set, List.length_set, List.length_set, List.length_set]; decide)
  generalize hσ7 : upc σ6 (rb_n σ) (11, (((((rb_df 11).set 0 (va_rf (some s))).set 1 (.int x)).set 2 (.int (nI (b2 (x_has t 45))))).set 3 (.int (nI (b2 (x_has t 64))))).set 4 (.int (nI (b2 (x_has t 43))))) = σ7 at p5
  have c7 : σ7.1 (rb_n σ) = (11, [.ref s, .int x, .int (nI (b2 (x_has t 45))), .int (nI (b2 (x_has t 64))), .int (nI (b2 (x_has t 43)))]) := by subst hσ7; exact upc_at _ _
  have h02 : hn σ σ2 := hn_trans h01 a3
  have h07 : hn σ σ7 := by
    subst hσ7; subst hσ6; subst hσ5; subst hσ4; subst hσ3
    exact hn_upc (hn_upc (hn_upc (hn_upc (hn_upc h02 (Nat.le_refl _)) (Nat.le_refl _)) (Nat.le_refl _)) (Nat.le_refl _)) (Nat.le_refl _)
  have hn7 : rb_n σ7 = rb_n σ2 := by subst hσ7; subst hσ6; subst hσ5; subst hσ4; subst hσ3; rfl
  have hs7 : rb_s σ7 = rb_s σ2 := by subst hσ7; subst hσ6; subst hσ5; subst hσ4; subst hσ3; rfl
  have hsx7 : sx σ7 b s (t.drop (nmk t)) := by
    obtain ⟨w1, w2, v, rest, k1, k2, k3, k4, k5, k6⟩ := a2
    have hne : ∀ q, (σ2.1 q).1 ≠ 11 → σ7.1 q = σ2.1 q := fun q hq => by
      have hq2 : q ≠ rb_n σ := fun e => hq (by rw [e, c2])
      subst hσ7; subst hσ6; subst hσ5; subst hσ4; subst hσ3
      rw [upc_ne hq2, upc_ne hq2, upc_ne hq2, upc_ne hq2, upc_ne hq2]
    exact ⟨w1, by omega, v, rest, k1, by omega, by rw [hne s (by rw [k3]; show 14 ≠ 11; decide)]; exact k3, by rw [hne v (by rw [k4]; show 105 ≠ 11; decide)]; exact k4, k5, k6⟩
  refine ⟨σ7, s, ?_, c7, hsx7, hA, by omega, h07, ⟨by have := a4.1; omega, by have := a4.2; omega⟩⟩
  unfold f_Cmd_init
  rw [fx_nO hkn, hσ1]
  have hloop := c_cmdLoop (σ := σ1) (F := F) hsx1 (rb_n σ) x (nmk t) 0 (by omega)
  refine Eq.trans hloop ?_
  unfold f_Cmd_init_j109
  obtain ⟨va, ta⟩ := sx_fc hsx1
  rw [ta, Option.bind_some, cR_of a1, p1, Option.bind_some, p2, Option.bind_some, p3, Option.bind_some, p4, Option.bind_some, p5]
  rfl
end
