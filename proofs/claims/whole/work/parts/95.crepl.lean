/-! the class: replacing in texts -/
/-- a row with some numbers written into it -/
def wri (row : List Int32) (d : Nat) : List Int32 → List Int32
  | [] => row
  | v :: vs => wri (row.set d v) (d + 1) vs
theorem wri_map : ∀ (vs : List Int32) (row : List Int32) (d : Nat), rb_wr (row.map Value.int) d (vs.map Value.int) = (wri row d vs).map Value.int
  | [], row, d => rfl
  | v :: vs, row, d => by
    rw [List.map_cons, rb_wr, wri, ← List.map_set]
    exact wri_map vs (row.set d v) (d + 1)
theorem wri_len : ∀ (vs : List Int32) (row : List Int32) (d : Nat), (wri row d vs).length = row.length
  | [], row, d => rfl
  | v :: vs, row, d => by
    rw [wri, wri_len vs, List.length_set]
theorem wri_get : ∀ (vs : List Int32) (row : List Int32) (d : Nat), d + vs.length ≤ row.length → ∀ i, (wri row d vs)[i]? = if d ≤ i ∧ i < d + vs.length then vs[i - d]? else row[i]?
  | [], row, d, _, i => by
    rw [if_neg (by simp only [List.length_nil]; omega)]
    rfl
  | v :: vs, row, d, h, i => by
    rw [List.length_cons] at h
    rw [wri, wri_get vs (row.set d v) (d + 1) (by rw [List.length_set]; omega) i, List.length_cons]
    by_cases e : d + 1 ≤ i ∧ i < d + 1 + vs.length
    · rw [if_pos e, if_pos (by omega), show i - d = (i - (d + 1)) + 1 by omega, List.getElem?_cons_succ]
    · rw [if_neg e, set_get (by omega)]
      by_cases e2 : i = d
      · rw [if_pos e2, if_pos (by omega), e2, Nat.sub_self]
        rfl
      · rw [if_neg e2, if_neg (by omega)]
section
variable {σ : rb_St} {b : Nat} {F : fx_F} {o : Nat}
theorem c_holds2 (ho : tO o) (hF : fx_ln F) {l : List Nat} (h : tw F o l) (hc : ∀ c, c ∈ l → c < 65536) {a : Nat} {s : List Nat} (hs : sx σ b a s) {p q i j : Nat} (hpq : p ≤ q) (hq : q ≤ l.length) (hij : i ≤ j) (hj : j ≤ s.length) (hl2 : q - p = j - i) : f_Text_holds (some (fx_ad b o)) (nI p) (nI q) (some a) (nI i) (nI j) (fx_mk σ b F) = some (some (.int (nI (b2 (decide (slc l p q = slc s i j))))), fx_mk σ b F) := by
  have hl := tw_len hF h
  have h400 := (tcap_le ho).1
  have hlen := c_len (F := F) hs
  obtain ⟨v, rest, k1, k2, k3, k4, k5, k6⟩ := hs.2.2
  have hfc := fo_fk (F := F) hs.1 k3
  have hsl := slc_len (p := p) hq
  have hsl2 := slc_len (p := i) hj
  have hloop := it_fim3 (body := fun z : Int32 × rb_St => f_Text_holds_b44 (some (fx_ad b o)) (nI p) (nI q) (some a) (nI i) z.1 z.2) (n := q) (k0 := p) (s0 := fx_mk σ b F) (fun k => decide (¬ l.getD k 0 = s.getD (i + k - p) 0)) (fun k => some (some (.int (nI (b2 (decide (q ≤ k))))), fx_mk σ b F)) ?_ ?_ (q - p) p (Nat.le_refl _) (by omega)
  · have hres : (decide (q ≤ fi (fun k => decide (¬ l.getD k 0 = s.getD (i + k - p) 0)) q p)) = decide (slc l p q = slc s i j) := by
      have hle := fi_le (P := fun k => decide (¬ l.getD k 0 = s.getD (i + k - p) 0)) (n := q) (k := p) hpq
      have hP := @fi_P (fun k => decide (¬ l.getD k 0 = s.getD (i + k - p) 0)) q p
      have hno := fun j (h1 : p ≤ j) (h2 : j < fi (fun k => decide (¬ l.getD k 0 = s.getD (i + k - p) 0)) q p) (h3 : j < q) => fi_no (P := fun k => decide (¬ l.getD k 0 = s.getD (i + k - p) 0)) (n := q) (k := p) (j := j) h1 h2 h3
      generalize fi (fun k => decide (¬ l.getD k 0 = s.getD (i + k - p) 0)) q p = z at hle hP hno ⊢
      by_cases hz : z < q
      · have h1 := of_decide_eq_true (hP hz)
        rw [decide_eq_false (by omega), decide_eq_false (fun e => h1 ?_)]
        have e2 : (slc l p q).getD (z - p) 0 = (slc s i j).getD (z - p) 0 := by rw [e]
        rw [slc_get (by omega), slc_get (by omega), show p + (z - p) = z by omega, show i + (z - p) = i + z - p by omega] at e2
        exact e2
      · rw [decide_eq_true (by omega), decide_eq_true (getD_ext (by omega) (fun x hx => ?_))]
        rw [slc_get (by omega), slc_get (by omega)]
        have := of_decide_eq_false (hno (p + x) (by omega) (by omega) (by omega))
        rw [show i + (p + x) - p = i + x by omega] at this
        exact Decidable.not_not.mp this
    rw [hres] at hloop
    unfold f_Text_holds
    simp (disch := omega) only [↓t_b ho, h.1, hfc, ↓cI_of hlen, u_sub, ↓reduceIte, n_ltT, n_ltF, n_leT, n_leF, n_eqT, n_eqF, nI_1, u_lt, u_le, u_eq, u_add, u_ix, u_ixL, u_ixR, u_cl, u_nm1, u_nm1', u_m1l, u_m1n, u_l0, Option.bind_some, Option.map_some, not_true_eq_false, not_false_eq_true, true_and, and_true, Nat.add_sub_cancel, Bool.false_eq_true, u_nar2]
    exact hloop
  · intro k hkp hk
    have hg := rk_getD h.2 (show k < l.length by omega)
    have hci := hc _ (getD_mem (d := 0) (show k < l.length by omega))
    have hch : f_Str_charAt (some a) ((nI i + nI k) - nI p) (fx_mk σ b F) = some (some (.int (nI (s.getD (i + k - p) 0))), fx_mk σ b F) := by
      rw [u_add, u_sub (by omega)]
      exact c_charAt hs (by omega)
    have hcs := k5 _ (getD_mem (d := 0) (show i + k - p < s.length by omega))
    show f_Text_holds_b44 _ _ _ _ _ _ _ = _
    unfold f_Text_holds_b44
    by_cases ec : l.getD k 0 = s.getD (i + k - p) 0
    · simp (disch := omega) only [↓t_b ho, ↓bx_of rfl (show k < 2147483648 by omega) hg, hfc, ↓cI_of hch, ec, ↓reduceIte, n_ltT, n_ltF, n_leT, n_leF, n_eqT, n_eqF, nI_1, u_lt, u_le, u_eq, u_add, u_ix, u_ixL, u_ixR, u_cl, u_nm1, u_nm1', u_m1l, u_m1n, u_l0, Option.bind_some, Option.map_some, not_true_eq_false, not_false_eq_true, true_and, and_true, Nat.add_sub_cancel, Bool.false_eq_true, u_nar2, decide_false]
    · simp (disch := omega) only [↓t_b ho, ↓bx_of rfl (show k < 2147483648 by omega) hg, hfc, ↓cI_of hch, ec, ↓reduceIte, n_ltT, n_ltF, n_leT, n_leF, n_eqT, n_eqF, nI_1, u_lt, u_le, u_eq, u_add, u_ix, u_ixL, u_ixR, u_cl, u_nm1, u_nm1', u_m1l, u_m1n, u_l0, Option.bind_some, Option.map_some, not_true_eq_false, not_false_eq_true, true_and, and_true, Nat.add_sub_cancel, Bool.false_eq_true, u_nar2, decide_true, decide_false, b2_f]
  · show f_Text_holds_b44 _ _ _ _ _ _ _ = _
    unfold f_Text_holds_b44
    simp (disch := omega) only [↓reduceIte, n_ltT, n_ltF, n_leT, n_leF, n_eqT, n_eqF, nI_1, u_lt, u_le, u_eq, u_add, u_ix, u_ixL, u_ixR, u_cl, u_nm1, u_nm1', u_m1l, u_m1n, u_l0, Option.bind_some, Option.map_some, not_true_eq_false, not_false_eq_true, true_and, and_true, Nat.add_sub_cancel, Bool.false_eq_true, u_nar2, decide_true, b2_t, u_l1]
/-- within a text, a part is moved -/
theorem c_move (ho : tO o) (hb : rb_b σ ≤ b) (hF : fx_ln F) {q d n : Nat} (h1 : q + n ≤ tcap o) (h2 : d + n ≤ tcap o) (hfit : ∀ i, i < n → ∃ c, c < 65536 ∧ (F.2.1 (o + 1))[q + i]? = some (nI c)) : rb_cp (fx_mk σ b F) (some (fx_ad b (o + 1))) (some (fx_ad b (o + 1))) 101 (nI q) (nI d) (nI n) = some (fx_mk σ b (fx_A F (o + 1) (wri (F.2.1 (o + 1)) d (((F.2.1 (o + 1)).drop q).take n)))) := by
  have h400 := (tcap_le ho).1
  have hrow : (F.2.1 (o + 1)).length = tcap o := hF.1 _
  have ho1 : o + 1 < 83 := by rcases ho with h | h | h | h | h | h <;> subst h <;> decide
  have ho3 : fx_t (o + 1) = 101 := by rcases ho with h | h | h | h | h | h <;> subst h <;> rfl
  have hpick := pick_map (row := F.2.1 (o + 1)) (p := q) (n := n) (by omega)
  unfold rb_cp
  rw [fx_fc ho1 ho3, fx_rA (by rw [ho3]; decide)]
  simp only [Option.bind_some]
  have hat : (fx_mk σ b F).1 (fx_ad b (o + 1)) = (101, (F.2.1 (o + 1)).map Value.int) := by
    rw [fx_at ho1, ho3, fx_rA (by rw [ho3]; decide)]
  rw [hat, u_cl (by omega), u_cl (by omega), u_cl (by omega), hpick]
  have hall : ((((F.2.1 (o + 1)).drop q).take n).map Value.int).all (fun v => fits (rb_aty 101) v) = true := by
    rw [List.all_eq_true]
    intro x hx
    obtain ⟨y, hy, rfl⟩ := List.mem_map.mp hx
    obtain ⟨i, hi, e⟩ := List.mem_iff_getElem.mp hy
    rw [List.length_take, List.length_drop] at hi
    obtain ⟨c, hc, hc2⟩ := hfit i (by omega)
    have hy2 : y = nI c := by
      rw [List.getElem_take, List.getElem_drop] at e
      rw [List.getElem?_eq_getElem (by omega)] at hc2
      injection hc2 with hc2
      rw [← e, hc2]
    subst hy2
    have := isC_n hc
    show (decide (0 ≤ nI c) && decide (nI c ≤ 65535)) = true
    rw [decide_eq_true this.1, decide_eq_true this.2]
    rfl
  rw [if_pos ⟨rfl, by show rb_b σ ≤ fx_ad b (o + 1); unfold fx_ad; omega, by rw [u_l0, u_lt (by omega) (by omega)]; omega, by rw [u_l0, u_lt (by omega) (by omega)]; omega, by rw [u_l0, u_lt (by omega) (by omega)]; omega, by rw [List.length_map]; omega, by rw [List.length_map]; omega, hall⟩, wri_map]
  congr 1
  refine fx_set ho1 ?_ ?_
  · rw [fx_rA (by rw [ho3]; decide), fx_A_A, if_pos rfl]
  · intro j hj hne
    unfold fx_row
    by_cases t1 : fx_t j < 100
    · rw [if_pos t1, if_pos t1]
      rfl
    · rw [if_neg t1, if_neg t1]
      by_cases t2 : fx_t j = 103
      · rw [if_pos t2, if_pos t2]
        rfl
      · rw [if_neg t2, if_neg t2]
        by_cases t3 : 110 < fx_t j
        · rw [if_pos t3, if_pos t3]
          rfl
        · rw [if_neg t3, if_neg t3, fx_A_A, if_neg hne]
theorem c_replLoop (ho : tO o) (hb : rb_b σ ≤ b) {a : Nat} {s : List Nat} (hs : sx σ b a s) {p i0 j nl : Nat} (hj : j ≤ s.length) (hfit : p + (j - i0) ≤ tcap o) : ∀ (m i : Nat) (F : fx_F), i + m = j → i0 ≤ i → fx_ln F → ∃ F', rb_it (fun z : (Int32 × rb_St) => f_Text_replace_b83 (some (fx_ad b o)) (nI p) (some a) (nI i0) (nI j) (nI nl) (z.1) z.2) (nI i, fx_mk σ b F) = some (some (.int (nI 1)), fx_mk σ b F') ∧ F'.1 (100 * o + 1) = nI nl ∧ (∀ x, (F'.2.1 (o + 1))[x]? = if p + (i - i0) ≤ x ∧ x < p + (j - i0) then some (nI (s.getD (i0 + x - p) 0)) else (F.2.1 (o + 1))[x]?) ∧ fx_ln F' ∧ fr [100 * o + 1] [o + 1] [] F F' := by
  have h400 := (tcap_le ho).1
  obtain ⟨v, rest, k1, k2, k3, k4, k5, k6⟩ := hs.2.2
  intro m
  induction m with
  | zero =>
    intro i F hi hi0 hF
    refine ⟨fx_I F (100 * o + 1) (nI nl), ?_, by rw [fx_I_1, if_pos rfl], fun x => by rw [if_neg (by omega)]; rfl, fx_lnI hF, fr_I (fr_refl _ _ _ _) (List.mem_singleton.mpr rfl)⟩
    refine rb_it_r ?_
    show f_Text_replace_b83 _ _ _ _ _ _ _ _ = _
    unfold f_Text_replace_b83
    simp (disch := omega) only [↓t_v ho hb, ↓reduceIte, n_ltT, n_ltF, n_leT, n_leF, n_eqT, n_eqF, nI_1, u_lt, u_le, u_eq, u_add, u_ix, u_ixL, u_ixR, u_cl, u_nm1, u_nm1', u_m1l, u_m1n, u_l0, Option.bind_some, Option.map_some, not_true_eq_false, not_false_eq_true, true_and, and_true, Nat.add_sub_cancel, Bool.false_eq_true, u_nar2, u_l1]
  | succ m ih =>
    intro i F hi hi0 hF
    have hrow : (F.2.1 (o + 1)).length = tcap o := hF.1 _
    have hch := c_charAt (F := F) hs (i := i) (by omega)
    have hcc := k5 _ (getD_mem (d := 0) (show i < s.length by omega))
    have hfc := fo_fk (F := F) hs.1 k3
    obtain ⟨F', e1, e2, e3, e4, e5⟩ := ih (i + 1) (fx_A F (o + 1) ((F.2.1 (o + 1)).set (p + (i - i0)) (nI (s.getD i 0)))) (by omega) (by omega) (fx_lnA hF (by rw [List.length_set]; exact hF.1 _))
    refine ⟨F', ?_, e2, fun x => ?_, e4, fr_trans (fr_A (fr_refl _ _ _ _) (List.mem_singleton.mpr rfl)) e5⟩
    · rw [← e1]
      refine rb_it_l ?_
      have hix : (nI p + nI i) - nI i0 = nI (p + (i - i0)) := by
        rw [u_add, u_sub (by omega)]
        congr 1
        omega
      show f_Text_replace_b83 _ _ _ _ _ _ _ _ = _
      unfold f_Text_replace_b83
      rw [if_neg (show ¬ nI j ≤ nI i by rw [u_le (by omega) (by omega)]; omega)]
      simp (disch := omega) only [↓t_b ho]
      rw [hfc, Option.bind_some, cI_of hch, hix]
      simp (disch := omega) only [↓t_v ho hb, u_nar1, ↓reduceIte, n_ltT, n_ltF, n_leT, n_leF, n_eqT, n_eqF, nI_1, u_lt, u_le, u_eq, u_add, u_ix, u_ixL, u_ixR, u_cl, u_nm1, u_nm1', u_m1l, u_m1n, u_l0, Option.bind_some, Option.map_some, not_true_eq_false, not_false_eq_true, true_and, and_true, Nat.add_sub_cancel, Bool.false_eq_true, u_nar2]
    · rw [e3 x, fx_A_A, if_pos rfl, set_get (by omega)]
      by_cases ex : x = p + (i - i0)
      · rw [if_neg (by omega), if_pos ex, if_pos (by omega), show i0 + x - p = i by omega]
      · rw [if_neg ex]
        by_cases ey : p + (i + 1 - i0) ≤ x ∧ x < p + (j - i0)
        · rw [if_pos ey, if_pos (by omega)]
        · rw [if_neg ey, if_neg (by omega)]
theorem c_replace (ho : tO o) (hb : rb_b σ ≤ b) (hF : fx_ln F) {l : List Nat} (h : tw F o l) (hc : ∀ c, c ∈ l → c < 65536) {a : Nat} {s : List Nat} (hs : sx σ b a s) {p q i j : Nat} (hpq : p ≤ q) (hq : q ≤ l.length) (hij : i ≤ j) (hj : j ≤ s.length) (hsl : s.length ≤ 1000) : ∃ F', f_Text_replace (some (fx_ad b o)) (nI p) (nI q) (some a) (nI i) (nI j) (fx_mk σ b F) = some (some (.int (nI (b2 (decide (l.length + (j - i) - (q - p) ≤ tcap o))))), fx_mk σ b F') ∧ (l.length + (j - i) - (q - p) ≤ tcap o → tw F' o (l.take p ++ slc s i j ++ l.drop q)) ∧ fx_ln F' ∧ fr [100 * o + 1] [o + 1] [] F F' := by
  have hl := tw_len hF h
  have h400 := (tcap_le ho).1
  have hrow : (F.2.1 (o + 1)).length = tcap o := hF.1 _
  have hlen := c_len (F := F) hs
  obtain ⟨v, rest, k1, k2, k3, k4, k5, k6⟩ := hs.2.2
  have hfc := fo_fk (F := F) hs.1 k3
  have hnl : (nI l.length + (nI j - nI i)) - (nI q - nI p) = nI (l.length + (j - i) - (q - p)) := by
    rw [u_sub hij, u_sub hpq, u_add, u_sub (by omega)]
  by_cases e : l.length + (j - i) - (q - p) ≤ tcap o
  · have hmv := c_move (σ := σ) (b := b) (F := F) ho hb hF (q := q) (d := p + (j - i)) (n := l.length - q) (by omega) (by omega) (fun x hx => ⟨l.getD (q + x) 0, hc _ (getD_mem (by omega)), rk_getD h.2 (by omega)⟩)
    generalize hF1 : fx_A F (o + 1) (wri (F.2.1 (o + 1)) (p + (j - i)) (((F.2.1 (o + 1)).drop q).take (l.length - q))) = F1 at hmv
    have hfr1 : fr [100 * o + 1] [o + 1] [] F F1 := by
      subst hF1
      exact fr_A (fr_refl _ _ _ _) (List.mem_singleton.mpr rfl)
    have hln1 : fx_ln F1 := by
      subst hF1
      exact fx_lnA hF (by rw [wri_len]; exact hF.1 _)
    have hrow1 : ∀ x, (F1.2.1 (o + 1))[x]? = if p + (j - i) ≤ x ∧ x < p + (j - i) + (l.length - q) then (F.2.1 (o + 1))[q + (x - (p + (j - i)))]? else (F.2.1 (o + 1))[x]? := by
      intro x
      subst hF1
      rw [fx_A_A, if_pos rfl, wri_get _ _ _ (by rw [List.length_take, List.length_drop]; omega), List.length_take, List.length_drop, show min (l.length - q) ((F.2.1 (o + 1)).length - q) = l.length - q by omega]
      by_cases ex : p + (j - i) ≤ x ∧ x < p + (j - i) + (l.length - q)
      · rw [if_pos ex, if_pos ex, List.getElem?_take_of_lt (by omega), List.getElem?_drop]
      · rw [if_neg ex, if_neg ex]
    obtain ⟨F', e1, e2, e3, e4, e5⟩ := c_replLoop (σ := σ) (b := b) ho hb hs (p := p) (i0 := i) (j := j) (nl := l.length + (j - i) - (q - p)) hj (by omega) (j - i) i F1 (by omega) (Nat.le_refl _) hln1
    refine ⟨F', ?_, fun _ => ⟨?_, ?_⟩, e4, fr_trans hfr1 e5⟩
    · rw [decide_eq_true e, b2_t, ← e1]
      have hd : nI (p + j) - nI i = nI (p + (j - i)) := by
        rw [u_sub (by omega)]
        congr 1
        omega
      have hn : nI l.length - nI q = nI (l.length - q) := u_sub hq
      unfold f_Text_replace
      simp (disch := omega) only [↓t_b ho, h.1, ↓reduceIte, n_ltT, n_ltF, n_leT, n_leF, n_eqT, n_eqF, nI_1, u_lt, u_le, u_eq, u_add, u_ix, u_ixL, u_ixR, u_cl, u_nm1, u_nm1', u_m1l, u_m1n, u_l0, Option.bind_some, Option.map_some, not_true_eq_false, not_false_eq_true, true_and, and_true, Nat.add_sub_cancel, Bool.false_eq_true, u_nar2]
      rw [hfc, Option.bind_some, cI_of hlen]
      simp (disch := omega) only [↓t_b ho, h.1, hrow, hnl, hd, hn, ↓reduceIte, n_ltT, n_ltF, n_leT, n_leF, n_eqT, n_eqF, nI_1, u_lt, u_le, u_eq, u_add, u_ix, u_ixL, u_ixR, u_cl, u_nm1, u_nm1', u_m1l, u_m1n, u_l0, Option.bind_some, Option.map_some, not_true_eq_false, not_false_eq_true, true_and, and_true, Nat.add_sub_cancel, Bool.false_eq_true, u_nar2]
      rw [hmv, Option.bind_some]
    · rw [e2]
      simp only [List.length_append, List.length_take, List.length_drop, slc_len hj]
      congr 1
      omega
    · have hlen2 : (l.take p ++ slc s i j ++ l.drop q).length = l.length + (j - i) - (q - p) := by
        simp only [List.length_append, List.length_take, List.length_drop, slc_len hj]
        omega
      refine rk_of (by rw [hlen2, e4.1]; exact e) (fun x hx => ?_)
      rw [hlen2] at hx
      rw [e3 x, hrow1 x, Nat.sub_self, Nat.add_zero]
      by_cases x1 : x < p
      · rw [if_neg (by omega), if_neg (by omega), rk_getD h.2 (by omega)]
        congr 2
        conv => rhs; rw [List.append_assoc, List.getD_eq_getElem?_getD, List.getElem?_append_left (by rw [List.length_take]; omega), List.getElem?_take_of_lt x1, ← List.getD_eq_getElem?_getD]
      · by_cases x2 : x < p + (j - i)
        · rw [if_pos (by omega)]
          congr 2
          rw [List.append_assoc, List.getD_eq_getElem?_getD, List.getD_eq_getElem?_getD, List.getElem?_append_right (by rw [List.length_take]; omega), List.length_take, Nat.min_eq_left (by omega), List.getElem?_append_left (by rw [slc_len hj]; omega)]
          rw [← List.getD_eq_getElem?_getD, ← List.getD_eq_getElem?_getD, slc_get (by omega)]
          congr 1
          omega
        · rw [if_neg (by omega), if_pos (by omega), rk_getD h.2 (by omega)]
          congr 2
          rw [List.getD_eq_getElem?_getD, List.getD_eq_getElem?_getD, List.getElem?_append_right (by rw [List.length_append, List.length_take, slc_len hj]; omega), List.length_append, List.length_take, slc_len hj, Nat.min_eq_left (by omega), List.getElem?_drop, show q + (x - (p + (j - i))) = q + (x - (p + (j - i))) from rfl]
  · refine ⟨F, ?_, fun h => absurd h e, hF, fr_refl _ _ _ _⟩
    rw [decide_eq_false e, b2_f]
    unfold f_Text_replace
    simp (disch := omega) only [↓t_b ho, h.1, ↓reduceIte, n_ltT, n_ltF, n_leT, n_leF, n_eqT, n_eqF, nI_1, u_lt, u_le, u_eq, u_add, u_ix, u_ixL, u_ixR, u_cl, u_nm1, u_nm1', u_m1l, u_m1n, u_l0, Option.bind_some, Option.map_some, not_true_eq_false, not_false_eq_true, true_and, and_true, Nat.add_sub_cancel, Bool.false_eq_true, u_nar2]
    rw [hfc, Option.bind_some, cI_of hlen]
    simp (disch := omega) only [↓t_b ho, h.1, hrow, hnl, ↓reduceIte, n_ltT, n_ltF, n_leT, n_leF, n_eqT, n_eqF, nI_1, u_lt, u_le, u_eq, u_add, u_ix, u_ixL, u_ixR, u_cl, u_nm1, u_nm1', u_m1l, u_m1n, u_l0, Option.bind_some, Option.map_some, not_true_eq_false, not_false_eq_true, true_and, and_true, Nat.add_sub_cancel, Bool.false_eq_true, u_nar2]
end
