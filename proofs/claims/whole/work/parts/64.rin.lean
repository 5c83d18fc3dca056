/-! what stays true of the rules, line by line -/
def rin (R : RS) : Prop := rok R ∧ eok R ∧ (1 ≤ rNu R 1 → 1 ≤ rNu R 0) ∧ (∀ i j, (rN R).length ≤ j → rFl R i j = false) ∧ (∀ j, (rN R).length ≤ j → rOw R j = none)
theorem nmeet_len (N : List (List Nat)) (w : List Nat) : N.length ≤ (nmeet N w).2.length := by
  unfold nmeet
  split
  · exact Nat.le_refl _
  · split
    · rw [List.length_append]
      exact Nat.le_add_right _ _
    · exact Nat.le_refl _
theorem meets_len : ∀ (ws : List (List Nat)) (N : List (List Nat)), N.length ≤ (x_meets ws N).2.length
  | [], N => Nat.le_refl _
  | w :: ws, N => by
    have h1 := nmeet_len N w
    unfold x_meets
    rcases hx : nmeet N w with ⟨r, N1⟩
    rw [hx] at h1
    cases r with
    | none => exact h1
    | some j =>
      have h2 := meets_len ws N1
      simp only
      rcases hy : x_meets ws N1 with ⟨r2, N2⟩
      rw [hy] at h2
      cases r2 <;> exact Nat.le_trans h1 h2
theorem rin_wN {R : RS} (h : rin R) {N : List (List Nat)} (hN : nok N) (hl : (rN R).length ≤ N.length) : rin (wN R N) := by
  obtain ⟨⟨r1, r2, r3, r4, r5, r6, r7, r8⟩, e1, e2, e3, e4⟩ := h
  exact ⟨⟨hN, r2, r3, r4, ⟨r5.1, fun k hk => ⟨Nat.lt_of_lt_of_le (r5.2 k hk).1 hl, Nat.lt_of_lt_of_le (r5.2 k hk).2 hl⟩⟩, r6, fun k hk => Nat.lt_of_lt_of_le (r7 k hk) hl, r8⟩, e1, e2, fun i j hj => e3 i j (Nat.le_trans hl hj), fun j hj => e4 j (Nat.le_trans hl hj)⟩
theorem rin_wFl {R : RS} (h : rin R) {g : Nat → Nat → Bool} (hg : ∀ i j, (rN R).length ≤ j → g i j = false) : rin (wFl R g) := by
  obtain ⟨r, e1, e2, e3, e4⟩ := h
  exact ⟨r, e1, e2, hg, e4⟩
theorem rin_wBo {R : RS} (h : rin R) (g : Nat → Bool) : rin (wBo R g) := h
theorem rin_kind {R : RS} (h : rin R) {k : Nat} (hk : k ≤ 4) (h1 : 1 ≤ rNu R 0) : rin (wNu R (up1 (rNu R) 1 k)) := by
  obtain ⟨⟨r1, r2, r3, r4, r5, r6, r7, r8, r9, r10⟩, e1, e2, e3, e4⟩ := h
  exact ⟨⟨r1, r2, r3, r4, r5, r6, r7, r8, hk, r10⟩, e1, fun _ => h1, e3, e4⟩
theorem rin_line {R : RS} (h : rin R) (hl : rNu R 0 < 1000) : rin (wNu R (up1 (up1 (rNu R) 0 (rNu R 0 + 1)) 1 1)) := by
  obtain ⟨r, e1, e2, e3, e4⟩ := h
  exact ⟨rok_line r hl, e1, fun _ => Nat.succ_le_succ (Nat.zero_le _), e3, e4⟩
theorem rin_wSf {R : RS} (h : rin R) {sf : List (List Nat)} (hs : sfk sf) : rin (wSf R sf) := by
  obtain ⟨⟨r1, r2, r3⟩, e⟩ := h
  exact ⟨⟨r1, hs, r3⟩, e⟩
theorem x_suf_ok : ∀ (ws sf : List (List Nat)) (sf' : List (List Nat)), sfk sf → x_suf ws sf = some sf' → sfk sf'
  | [], sf, sf', h, hx => by
    unfold x_suf at hx
    injection hx with hx
    subst hx
    exact h
  | w :: ws, sf, sf', h, hx => by
    unfold x_suf at hx
    split at hx
    · rename_i hg
      split at hx
      · exact x_suf_ok ws sf sf' h hx
      · split at hx
        · cases hx
        · rename_i h6
          refine x_suf_ok ws (sf ++ [w]) sf' ⟨?_, fun j hj => ?_⟩ hx
          · have := h.1
            rw [List.length_append, List.length_cons, List.length_nil]
            omega
          · rw [List.length_append, List.length_cons, List.length_nil] at hj
            by_cases ej : j = sf.length
            · subst ej
              rw [getD_app_r]
              exact hg
            · rw [getD_app_l (by omega)]
              exact h.2 j (by omega)
    · cases hx
theorem x_sufL_in {R : RS} (h : rin R) (ws : List (List Nat)) : rin (x_sufL R ws).2 ∧ rNu (x_sufL R ws).2 = rNu R := by
  unfold x_sufL
  cases hx : x_suf (ws.drop 1) (if ws.length = 1 then [] else rSf R) with
  | none => exact ⟨h, rfl⟩
  | some sf =>
    refine ⟨rin_wSf h (x_suf_ok _ _ _ ?_ hx), rfl⟩
    split
    · exact ⟨Nat.zero_le _, fun k hk => absurd hk (Nat.not_lt_zero _)⟩
    · exact h.1.2.1
theorem x_mark_in (m : List Nat) : ∀ (ws : List (List Nat)) (R : RS), rin R → rin (x_mark m ws R).2 ∧ rNu (x_mark m ws R).2 = rNu R
  | [], R, h => ⟨h, rfl⟩
  | w :: ws, R, h => by
    have h1 := nmeet_ok h.1.1 w
    have h2 := nmeet_len (rN R) w
    have h3 := @nmeet_lt (rN R) w
    unfold x_mark
    rcases hx : nmeet (rN R) w with ⟨r, N⟩
    rw [hx] at h1 h2 h3
    cases r with
    | none => exact ⟨rin_wN h h1 h2, rfl⟩
    | some k =>
      have hk : k < N.length := h3 rfl
      have := x_mark_in m ws (wFl (wN R N) (fun i j => rFl R i j || (decide (j = k) && ((decide (i = 1) && decide (m = q_PHO)) || (decide (i = 2) && decide (m = q_IGN)) || (decide (i = 3) && decide (m = q_SIL)))))) (rin_wFl (rin_wN h h1 h2) (fun i j hj => by
        have hj' : N.length ≤ j := hj
        rw [h.2.2.2.1 i j (Nat.le_trans h2 hj'), decide_eq_false (by omega), Bool.false_and, Bool.false_or]))
      exact ⟨this.1, this.2⟩
theorem x_markL_in {R : RS} (h : rin R) (m : List Nat) (ws : List (List Nat)) : rin (x_markL R m ws).2 ∧ rNu (x_markL R m ws).2 = rNu R := x_mark_in m _ _ (rin_wBo h _)
theorem x_from_ok {sf : List (List Nat)} (hS : sfk sf) {w : List Nat} {rs : List Nat × List Nat} (h : x_from sf w = some rs) : sp_name rs.1 = true ∧ (rs.2 = [] ∨ sp_name rs.2 = true) := by
  unfold x_from at h
  split at h
  · rename_i hin
    injection h with h
    subst h
    exact ⟨nf_sf hS hin, Or.inl rfl⟩
  · split at h
    · rename_i k hk
      injection h with h
      subst h
      have h1 := sr_some hk
      have h2 := h1.2.2
      rw [Bool.and_eq_true] at h2
      exact ⟨(hS.2 k (by omega)).1, Or.inr (nf_sf hS h2.2)⟩
    · cases h
theorem getD_set {α : Type} {l : List α} {k j : Nat} {x d : α} (h : k < l.length) : (l.set k x).getD j d = if j = k then x else l.getD j d := by
  rw [List.getD_eq_getElem?_getD, set_get h]
  split
  · rfl
  · rw [List.getD_eq_getElem?_getD]
theorem x_end_in {R : RS} (h : rin R) (h1 : 1 ≤ rNu R 0) {rs : List Nat × List Nat} (hrs : sp_name rs.1 = true ∧ (rs.2 = [] ∨ sp_name rs.2 = true)) : rin (x_end R rs).2 ∧ rNu (x_end R rs).2 0 = rNu R 0 := by
  obtain ⟨⟨r1, r2, r3, r4, r5, r6, r7, r8, r9, r10, r11, r12, r13⟩, e1, e2, e3, e4⟩ := h
  unfold x_end
  cases hx : x_eidx (rEn R) rs with
  | some k =>
    have hs := sr_some hx
    have hk : k < (rEn R).length := by omega
    have hke := of_decide_eq_true hs.2.2
    refine ⟨⟨⟨r1, r2, ⟨?_, fun j hj => ?_⟩, r4, r5, r6, r7, r8, ?_, r10, r11, r12, fun j g hj => ?_⟩, fun i j hi hj hij => ?_, fun _ => h1, e3, e4⟩, rfl⟩
    · show ((rEn R).set k (rs, none)).length ≤ 8
      rw [List.length_set]
      exact r3.1
    · replace hj : j < ((rEn R).set k (rs, none)).length := hj
      rw [List.length_set] at hj
      show sp_name (((rEn R).set k (rs, none)).getD j (([], []), none)).1.1 = true ∧ ((((rEn R).set k (rs, none)).getD j (([], []), none)).1.2 = [] ∨ sp_name (((rEn R).set k (rs, none)).getD j (([], []), none)).1.2 = true)
      rw [getD_set hk]
      by_cases ej : j = k
      · rw [if_pos ej]
        exact hrs
      · rw [if_neg ej]
        exact r3.2 j hj
    · show 3 ≤ 4
      omega
    · replace hj : (((rEn R).set k (rs, none)).getD j (([], []), none)).2 = some g := hj
      rw [getD_set hk] at hj
      by_cases ej : j = k
      · rw [if_pos ej] at hj
        cases hj
      · rw [if_neg ej] at hj
        exact r13 j g hj
    · replace hi : i < ((rEn R).set k (rs, none)).length := hi
      replace hj : j < ((rEn R).set k (rs, none)).length := hj
      rw [List.length_set] at hi hj
      replace hij : (((rEn R).set k (rs, none)).getD i (([], []), none)).1 = (((rEn R).set k (rs, none)).getD j (([], []), none)).1 := hij
      have hkey : ∀ i, (((rEn R).set k (rs, none)).getD i (([], []), none)).1 = ((rEn R).getD i (([], []), none)).1 := fun i => by
        rw [getD_set hk]
        by_cases ei : i = k
        · rw [if_pos ei, ei, hke]
        · rw [if_neg ei]
      rw [hkey, hkey] at hij
      exact e1 i j hi hj hij
  | none =>
    simp only
    split
    · exact ⟨⟨⟨r1, r2, r3, r4, r5, r6, r7, r8, r9, r10, r11, r12, r13⟩, e1, e2, e3, e4⟩, rfl⟩
    · rename_i h8
      have hno := sr_none hx
      have h8' := r3.1
      refine ⟨⟨⟨r1, r2, ⟨?_, fun j hj => ?_⟩, r4, r5, r6, r7, r8, ?_, r10, r11, r12, fun j g hj => ?_⟩, fun i j hi hj hij => ?_, fun _ => h1, e3, e4⟩, rfl⟩
      · show (rEn R ++ [(rs, none)]).length ≤ 8
        rw [List.length_append, List.length_cons, List.length_nil]
        omega
      · replace hj : j < (rEn R ++ [(rs, none)]).length := hj
        rw [List.length_append, List.length_cons, List.length_nil] at hj
        show sp_name ((rEn R ++ [(rs, none)]).getD j (([], []), none)).1.1 = true ∧ (((rEn R ++ [(rs, none)]).getD j (([], []), none)).1.2 = [] ∨ sp_name ((rEn R ++ [(rs, none)]).getD j (([], []), none)).1.2 = true)
        by_cases ej : j = (rEn R).length
        · subst ej
          rw [getD_app_r]
          exact hrs
        · rw [getD_app_l (by omega)]
          exact r3.2 j (by omega)
      · show 3 ≤ 4
        omega
      · replace hj : ((rEn R ++ [(rs, none)]).getD j (([], []), none)).2 = some g := hj
        by_cases ej : j = (rEn R).length
        · subst ej
          rw [getD_app_r] at hj
          cases hj
        · by_cases el : j < (rEn R).length
          · rw [getD_app_l el] at hj
            exact r13 j g hj
          · rw [List.getD_eq_getElem?_getD, List.getElem?_eq_none (by rw [List.length_append, List.length_cons, List.length_nil]; omega)] at hj
            cases hj
      · replace hi : i < (rEn R ++ [(rs, none)]).length := hi
        replace hj : j < (rEn R ++ [(rs, none)]).length := hj
        rw [List.length_append, List.length_cons, List.length_nil] at hi hj
        replace hij : ((rEn R ++ [(rs, none)]).getD i (([], []), none)).1 = ((rEn R ++ [(rs, none)]).getD j (([], []), none)).1 := hij
        by_cases ei : i = (rEn R).length
        · by_cases ej : j = (rEn R).length
          · omega
          · exfalso
            subst ei
            rw [getD_app_r, getD_app_l (by omega)] at hij
            have := hno j (Nat.zero_le _) (by omega)
            rw [decide_eq_true hij.symm] at this
            cases this
        · by_cases ej : j = (rEn R).length
          · exfalso
            subst ej
            rw [getD_app_r, getD_app_l (by omega)] at hij
            have := hno i (Nat.zero_le _) (by omega)
            rw [decide_eq_true hij] at this
            cases this
          · rw [getD_app_l (by omega), getD_app_l (by omega)] at hij
            exact e1 i j (by omega) (by omega) hij
theorem x_plain_in {R : RS} (h : rin R) (h1 : 1 ≤ rNu R 0) (n : Nat) (ws : List (List Nat)) : rin (x_plain R n ws).2 ∧ rNu (x_plain R n ws).2 0 = rNu R 0 := by
  have a1 := meets_ok ws (rN R) h.1.1
  have a2 := meets_len ws (rN R)
  have a3 := meets_nf ws (rN R)
  unfold x_plain
  rcases hx : x_meets ws (rN R) with ⟨r, N⟩
  rw [hx] at a1 a2 a3
  cases r with
  | none => exact ⟨rin_wN h a1 a2, rfl⟩
  | some ks =>
    obtain ⟨b1, b3⟩ := a3 ks rfl
    have hlt : ∀ k, k ∈ ks → k < N.length := fun k hk => by
      obtain ⟨i, hi, e⟩ := List.mem_iff_getElem.mp hk
      have := nf_lt (b3 i (by omega))
      rw [getD_get hi, e] at this
      exact this
    simp only
    split
    · exact ⟨rin_wN h a1 a2, rfl⟩
    · rename_i h80
      obtain ⟨⟨r1, r2, r3, r4, r5, r6, r7, r8, r9, r10⟩, e1, e2, e3, e4⟩ := rin_wN h a1 a2
      refine ⟨⟨⟨r1, r2, r3, r4, ⟨?_, fun k hk => ?_⟩, r6, fun k hk => ?_, r8, ?_, r10⟩, e1, fun _ => h1, fun i j hj => ?_, e4⟩, rfl⟩
      · show (rPr R ++ (ks.take n).flatMap (fun t => (ks.drop n).map (fun p => (t, p)))).length ≤ 80
        rw [List.length_append]
        have hfl : ∀ l : List Nat, (l.flatMap (fun t => (ks.drop n).map (fun p => (t, p)))).length = l.length * (ks.drop n).length := by
          intro l
          induction l with
          | nil => simp
          | cons a l ih => rw [List.flatMap_cons, List.length_append, ih, List.length_map, List.length_cons, Nat.succ_mul, Nat.add_comm]
        rw [hfl, List.length_take, List.length_drop, b1]
        have : min n ws.length * (ws.length - n) ≤ n * (ws.length - n) := Nat.mul_le_mul_right _ (Nat.min_le_left _ _)
        omega
      · have hmem := getD_mem (d := (0, 0)) hk
        show (((rPr R ++ (ks.take n).flatMap (fun t => (ks.drop n).map (fun p => (t, p)))).getD k (0, 0)).1 < N.length ∧ ((rPr R ++ (ks.take n).flatMap (fun t => (ks.drop n).map (fun p => (t, p)))).getD k (0, 0)).2 < N.length)
        replace hmem : (rPr R ++ (ks.take n).flatMap (fun t => (ks.drop n).map (fun p => (t, p)))).getD k (0, 0) ∈ rPr R ++ (ks.take n).flatMap (fun t => (ks.drop n).map (fun p => (t, p))) := hmem
        generalize (rPr R ++ (ks.take n).flatMap (fun t => (ks.drop n).map (fun p => (t, p)))).getD k (0, 0) = x at hmem ⊢
        rcases List.mem_append.mp hmem with hm | hm
        · obtain ⟨i, hi, e⟩ := List.mem_iff_getElem.mp hm
          have := r5.2 i hi
          replace this : ((rPr R).getD i (0, 0)).1 < N.length ∧ ((rPr R).getD i (0, 0)).2 < N.length := this
          rw [getD_get hi, e] at this
          exact this
        · obtain ⟨t, ht, hp⟩ := List.mem_flatMap.mp hm
          obtain ⟨p, hp2, e⟩ := List.mem_map.mp hp
          subst e
          exact ⟨hlt t (List.mem_of_mem_take ht), hlt p (List.mem_of_mem_drop hp2)⟩
      · replace hk : (match rOp R 1 with | some k => some k | none => ks.head?) = some k := hk
        show k < N.length
        cases ho : rOp R 1 with
        | some k' =>
          rw [ho] at hk
          injection hk with hk
          subst hk
          exact r7 k' ho
        | none =>
          rw [ho] at hk
          exact hlt k (List.mem_of_mem_head? hk)
      · show 4 ≤ 4
        omega
      · replace hj : N.length ≤ j := hj
        have hno : ¬ j ∈ ks.take n := fun hm => by
          have := hlt j (List.mem_of_mem_take hm)
          omega
        show (if i = 4 then decide (j ∈ ks.take n) else rFl R i j || (decide (i = 0) && decide (j ∈ ks.take n))) = false
        rw [decide_eq_false hno, Bool.and_false, Bool.or_false, e3 i j hj]
        split <;> rfl
theorem x_rule_in {R : RS} (h : rin R) (hl : rNu R 0 < 1000) (n : Nat) (ws : List (List Nat)) : rin (x_rule R n ws).2 ∧ rNu (x_rule R n ws).2 0 ≤ rNu R 0 + 1 := by
  have h0 := rin_line h hl
  have e0 : rNu (wNu R (up1 (up1 (rNu R) 0 (rNu R 0 + 1)) 1 1)) 0 = rNu R 0 + 1 := (rfl)
  unfold x_rule
  simp only
  generalize wNu R (up1 (up1 (rNu R) 0 (rNu R 0 + 1)) 1 1) = Q at h0 e0 ⊢
  generalize (if n = 1 then ws.getD 0 [] else []) = only
  have h1 : 1 ≤ rNu Q 0 := by omega
  have hp := x_plain_in h0 h1 n ws
  split
  · have := x_sufL_in h0 ws
    exact ⟨this.1, by rw [this.2]; omega⟩
  · split
    · have := x_markL_in h0 only ws
      exact ⟨this.1, by rw [this.2]; omega⟩
    · split
      · split
        · exact ⟨rin_kind h0 (by omega) h1, by show rNu Q 0 ≤ _; omega⟩
        · exact ⟨h0, by show rNu Q 0 ≤ _; omega⟩
      · split
        · split
          · rename_i rs hrs
            have := x_end_in h0 h1 (x_from_ok h0.1.2.1 hrs)
            exact ⟨this.1, by rw [this.2]; omega⟩
          · exact ⟨hp.1, by rw [hp.2]; omega⟩
        · exact ⟨hp.1, by rw [hp.2]; omega⟩
theorem x_ruleT_in {gv : Nat → Option (List Nat)} {R : RS} (h : rin R) (hl : rNu R 0 < 1000) (t : List Nat) : rin (x_ruleT gv R t).2 ∧ rNu (x_ruleT gv R t).2 0 ≤ rNu R 0 + 1 := by
  have hs : rin R ∧ rNu R 0 ≤ rNu R 0 + 1 := ⟨h, Nat.le_succ _⟩
  unfold x_ruleT
  split
  · exact hs
  · unfold x_exp
    split
    · exact hs
    · split
      · exact hs
      · split
        · exact hs
        · exact x_rule_in h hl _ _
theorem x_cmd_in {R : RS} (h : rin R) {t : List Nat} (ht : tk t) : rin (x_cmd R t).2 ∧ rNu (x_cmd R t).2 = rNu R := by
  unfold x_cmd
  split
  · exact ⟨h, rfl⟩
  · rename_i hc
    rw [not_or, not_or] at hc
    obtain ⟨c1, c2, c3⟩ := hc
    obtain ⟨⟨r1, r2, r3, r4, r5, r6, r7, r8, r9, r10, r11, r12, r13⟩, e1, e2, e3, e4⟩ := h
    have h1 : 1 ≤ rNu R 0 := e2 (by omega)
    have hcm : (rCm R ++ [(rNu R 0, t)]).length ≤ 30 := by
      rw [List.length_append, List.length_cons, List.length_nil]
      omega
    have hcm2 : ∀ k, k < (rCm R ++ [(rNu R 0, t)]).length → ((rCm R ++ [(rNu R 0, t)]).getD k (0, [])).1 ≤ rNu R 0 ∧ 1 ≤ ((rCm R ++ [(rNu R 0, t)]).getD k (0, [])).1 ∧ tk ((rCm R ++ [(rNu R 0, t)]).getD k (0, [])).2 := by
      intro k hk
      rw [List.length_append, List.length_cons, List.length_nil] at hk
      by_cases ek : k = (rCm R).length
      · subst ek
        rw [getD_app_r]
        exact ⟨Nat.le_refl _, h1, ht⟩
      · rw [getD_app_l (by omega)]
        exact r10 k (by omega)
    unfold x_cmdR
    split
    · refine ⟨⟨⟨r1, r2, r3, hcm, r5, r6, r7, r8, r9, hcm2, r11, fun g hg => ?_, r13⟩, e1, e2, e3, e4⟩, rfl⟩
      replace hg : some (rNu R 0) = some g := hg
      injection hg with hg
      subst hg
      exact ⟨Nat.le_refl _, h1⟩
    · split
      · generalize (rOp R 2).getD 0 = en
        by_cases hen : en < (rEn R).length
        · have hkey : ∀ j, ((rEn R).set en (((rEn R).getD en (([], []), none)).1, some (rNu R 0))).getD j (([], []), none) = if j = en then (((rEn R).getD en (([], []), none)).1, some (rNu R 0)) else (rEn R).getD j (([], []), none) := fun j => getD_set hen
          have hk1 : ∀ j, (((rEn R).set en (((rEn R).getD en (([], []), none)).1, some (rNu R 0))).getD j (([], []), none)).1 = ((rEn R).getD j (([], []), none)).1 := fun j => by
            rw [hkey]
            split
            · rename_i ej
              rw [ej]
            · rfl
          have hlen : ((rEn R).set en (((rEn R).getD en (([], []), none)).1, some (rNu R 0))).length = (rEn R).length := List.length_set ..
          refine ⟨⟨⟨r1, r2, ⟨?_, fun j hj => ?_⟩, hcm, r5, r6, r7, r8, r9, hcm2, r11, r12, fun j g hg => ?_⟩, fun i j hi hj hij => ?_, e2, e3, e4⟩, rfl⟩
          · exact hlen ▸ r3.1
          · replace hj : j < ((rEn R).set en (((rEn R).getD en (([], []), none)).1, some (rNu R 0))).length := hj
            rw [hlen] at hj
            have := r3.2 j hj
            rw [← hk1] at this
            exact this
          · replace hg : (((rEn R).set en (((rEn R).getD en (([], []), none)).1, some (rNu R 0))).getD j (([], []), none)).2 = some g := hg
            rw [hkey] at hg
            split at hg
            · injection hg with hg
              subst hg
              exact ⟨Nat.le_refl _, h1⟩
            · exact r13 j g hg
          · replace hi : i < ((rEn R).set en (((rEn R).getD en (([], []), none)).1, some (rNu R 0))).length := hi
            replace hj : j < ((rEn R).set en (((rEn R).getD en (([], []), none)).1, some (rNu R 0))).length := hj
            rw [hlen] at hi hj
            replace hij : (((rEn R).set en (((rEn R).getD en (([], []), none)).1, some (rNu R 0))).getD i (([], []), none)).1 = (((rEn R).set en (((rEn R).getD en (([], []), none)).1, some (rNu R 0))).getD j (([], []), none)).1 := hij
            rw [hk1, hk1] at hij
            exact e1 i j hi hj hij
        · rw [List.set_eq_of_length_le (by omega)]
          exact ⟨⟨⟨r1, r2, r3, hcm, r5, r6, r7, r8, r9, hcm2, r11, r12, r13⟩, e1, e2, e3, e4⟩, rfl⟩
      · refine ⟨⟨⟨r1, r2, r3, hcm, r5, r6, r7, r8, r9, hcm2, fun k g hg => ?_, r12, r13⟩, e1, e2, e3, fun j hj => ?_⟩, rfl⟩
        · replace hg : (if k < (rN R).length ∧ rFl R 4 k = true then some (rNu R 0) else rOw R k) = some g := hg
          split at hg
          · injection hg with hg
            subst hg
            exact ⟨Nat.le_refl _, h1⟩
          · exact r11 k g hg
        · show (if j < (rN R).length ∧ rFl R 4 j = true then some (rNu R 0) else rOw R j) = none
          replace hj : (rN R).length ≤ j := hj
          rw [if_neg (by omega)]
          exact e4 j hj
theorem x_line_in {gv : Nat → Option (List Nat)} {R : RS} (h : rin R) (hl : rNu R 0 < 1000) {t : List Nat} (ht : tk t) (h3 : t.length ≤ 320) : rin (x_line gv R t).2 ∧ rNu (x_line gv R t).2 0 ≤ rNu R 0 + 1 := by
  have hs : rin R ∧ rNu R 0 ≤ rNu R 0 + 1 := ⟨h, Nat.le_succ _⟩
  rw [x_line_eq]
  split
  · have := x_cmd_in h (tk_drop ht 1)
    exact ⟨this.1, by rw [this.2]; omega⟩
  · generalize fi (fun k => decide (¬ t.getD k 0 = 32)) (fi (fun k => decide (t.getD k 0 = 35)) t.length 0) 0 = p
    generalize bk t p (fi (fun k => decide (t.getD k 0 = 35)) t.length 0) = e
    unfold x_ln2
    split
    · exact hs
    · split
      · obtain ⟨⟨r1, r2, r3, r4, r5, r6, r7, r8⟩, e1⟩ := h
        refine ⟨⟨⟨r1, r2, r3, r4, r5, fun m v hv => ?_, r7, r8⟩, e1⟩, Nat.le_succ _⟩
        replace hv : up1 (rDf R) (t.getD p 0 - 65) (some (slc t (fi (fun k => decide (¬ t.getD k 0 = 32)) e (p + 2)) e)) m = some v := hv
        unfold up1 at hv
        split at hv
        · injection hv with hv
          subst hv
          refine ⟨slc_tk ht _ _, ?_⟩
          unfold slc
          rw [List.length_take, List.length_drop]
          omega
        · exact r6 m v hv
      · exact x_ruleT_in h hl _
theorem r0_in {N : List (List Nat)} (hN : nok N) : rin (r0 N) := by
  refine ⟨⟨hN, ⟨Nat.zero_le _, fun k hk => absurd hk (Nat.not_lt_zero _)⟩, ⟨Nat.zero_le _, fun k hk => absurd hk (Nat.not_lt_zero _)⟩, Nat.zero_le _, ⟨Nat.zero_le _, fun k hk => absurd hk (Nat.not_lt_zero _)⟩, fun m v h => (by cases h), fun k h => (by cases h), Nat.zero_le _, Nat.zero_le _, fun k hk => absurd hk (Nat.not_lt_zero _), fun k g h => (by cases h), fun g h => (by cases h), fun k g h => ?_⟩, fun i j hi => absurd hi (Nat.not_lt_zero _), fun h => absurd (show 1 ≤ 0 from h) (by decide), fun i j _ => rfl, fun j _ => rfl⟩
  cases h
