/-! the reference: a command is performed -/
theorem o_true : pq_ok q_true := by unfold pq_ok q_true; decide
theorem o_echo : pq_ok q_echo := by unfold pq_ok q_echo; decide
theorem o_touch : pq_ok q_touch := by unfold pq_ok q_touch; decide
theorem o_rm : pq_ok q_rm := by unfold pq_ok q_rm; decide
theorem o_cp : pq_ok q_cp := by unfold pq_ok q_cp; decide
theorem o_cat : pq_ok q_cat := by unfold pq_ok q_cat; decide
theorem o_gt : pq_ok [62] := by unfold pq_ok; decide
theorem c_true {w : List Nat} (h : pq_ok w) : (lg_cmp (pk w) (245152485 : Int64) = 0) = (w = q_true) := by rw [show (245152485 : Int64) = pk q_true from rfl]; exact pk2 (by decide) o_true h
theorem c_echo {w : List Nat} (h : pq_ok w) : (lg_cmp (pk w) (213447791 : Int64) = 0) = (w = q_echo) := by rw [show (213447791 : Int64) = pk q_echo from rfl]; exact pk2 (by decide) o_echo h
theorem c_touch {w : List Nat} (h : pq_ok w) : (lg_cmp (pk w) (31373226472 : Int64) = 0) = (w = q_touch) := by rw [show (31373226472 : Int64) = pk q_touch from rfl]; exact pk2 (by decide) o_touch h
theorem c_rm {w : List Nat} (h : pq_ok w) : (lg_cmp (pk w) (14701 : Int64) = 0) = (w = q_rm) := by rw [show (14701 : Int64) = pk q_rm from rfl]; exact pk2 (by decide) o_rm h
theorem c_cp {w : List Nat} (h : pq_ok w) : (lg_cmp (pk w) (12784 : Int64) = 0) = (w = q_cp) := by rw [show (12784 : Int64) = pk q_cp from rfl]; exact pk2 (by decide) o_cp h
theorem c_cat {w : List Nat} (h : pq_ok w) : (lg_cmp (pk w) (1634548 : Int64) = 0) = (w = q_cat) := by rw [show (1634548 : Int64) = pk q_cat from rfl]; exact pk2 (by decide) o_cat h
theorem c_gt {w : List Nat} (h : pq_ok w) : (lg_cmp (pk w) (62 : Int64) = 0) = (w = [62]) := by rw [show (62 : Int64) = pk [62] from rfl]; exact pk2 (by decide) o_gt h
def m_ps (F : fx_F) (S : PS) : Prop := m_names F (pN S) ∧ m_files F (pF S) (pC S) ∧ m_print F (pP S)
def pok (S : PS) : Prop := nok (pN S) ∧ (pP S).length ≤ 400
theorem m_ps_fr {zi za zl : List Nat} {F F' : fx_F} {S : PS} (h : m_ps F S) (hf : fr zi za zl F F') (hd : (3402 ∉ zi ∧ 36 ∉ zl) ∧ (3407 ∉ zi ∧ 37 ∉ za ∧ 38 ∉ za ∧ 39 ∉ za) ∧ (3472 ∉ zi ∧ 82 ∉ za)) : m_ps F' S := ⟨m_names_fr h.1 hf hd.1, m_files_fr h.2.1 hf hd.2.1, m_print_fr h.2.2 hf hd.2.2⟩
section
variable {σ : rb_St} {b : Nat} {F : fx_F}
theorem m_echo1 (hb : rb_b σ ≤ b) {o : List Nat} (ho : o.length ≤ 120) (hto : tk o) {W : List (Nat × Nat)} (hwo : wok o W) {k : Nat} (hk : k < W.length) : ∀ (m p : Nat) (F : fx_F) (pr : List Nat), p + m = (W.getD k (0, 0)).2 → fx_ln F → m_out F o → m_words F W → pr.length ≤ 400 → m_print F pr → ∃ F', rb_it (fun z : (Int32 × rb_St) => f_M_perform_b65 (some (fx_ad b 34)) (nI k) (z.1) z.2) (nI p, fx_mk σ b F) = some (.inl (nI (k + 1), fx_mk σ b F')) ∧ m_print F' (x_puts pr (slc o p (W.getD k (0, 0)).2 ++ [if k + 1 < W.length then 32 else 10])) ∧ fx_ln F' ∧ fr [3472] [82] [] F F' := by
  have hw60 := hwo.1
  have hq := (hwo.2 k hk).2
  intro m
  induction m with
  | zero =>
    intro p F pr hp hF hmo hw hpl hpr
    have hto2 := (hw.2 k hk).2
    obtain ⟨F1, a1, a2, a3, a4⟩ := m_put (σ := σ) (b := b) hb hF hpl hpr (if k + 1 < W.length then 32 else 10)
    have hs : slc o p (W.getD k (0, 0)).2 = [] := List.eq_nil_of_length_eq_zero (by rw [slc_len hq]; omega)
    rw [hs, List.nil_append]
    refine ⟨F1, ?_, a2, a3, a4⟩
    refine rb_it_r ?_
    show f_M_perform_b65 _ _ _ _ = _
    unfold f_M_perform_b65 f_M_perform_j111
    by_cases e : k + 1 < W.length
    · rw [if_pos e] at a1
      have a1' : f_M_put (some (fx_ad b 34)) (32 : Int32) (fx_mk σ b F) = some (none, fx_mk σ b F1) := a1
      simp (disch := omega) only [↓fx_bm, ↓bx_of rfl (show k < 2147483648 by omega) hto2, hw.1, ↓cV_of a1', cV_of a1, u_l32, ↓reduceIte, n_ltT, n_ltF, n_leT, n_leF, n_eqT, n_eqF, nI_1, u_lt, u_le, u_eq, u_add, u_ix, u_ixL, u_ixR, u_cl, u_nm1, u_nm1', u_m1l, u_m1n, u_l0, Option.bind_some, Option.map_some, not_true_eq_false, not_false_eq_true, true_and, and_true, Nat.add_sub_cancel, Bool.false_eq_true, u_nar2]
    · rw [if_neg e] at a1
      have a1' : f_M_put (some (fx_ad b 34)) (10 : Int32) (fx_mk σ b F) = some (none, fx_mk σ b F1) := a1
      simp (disch := omega) only [↓fx_bm, ↓bx_of rfl (show k < 2147483648 by omega) hto2, hw.1, ↓cV_of a1', cV_of a1, u_l10, ↓reduceIte, n_ltT, n_ltF, n_leT, n_leF, n_eqT, n_eqF, nI_1, u_lt, u_le, u_eq, u_add, u_ix, u_ixL, u_ixR, u_cl, u_nm1, u_nm1', u_m1l, u_m1n, u_l0, Option.bind_some, Option.map_some, not_true_eq_false, not_false_eq_true, true_and, and_true, Nat.add_sub_cancel, Bool.false_eq_true, u_nar2]
  | succ m ih =>
    intro p F pr hp hF hmo hw hpl hpr
    have hto2 := (hw.2 k hk).2
    have hg := rk_getD hmo.2 (i := p) (by omega)
    obtain ⟨F1, a1, a2, a3, a4⟩ := m_put (σ := σ) (b := b) hb hF hpl hpr (o.getD p 0)
    obtain ⟨F', e1, e2, e3, e4⟩ := ih (p + 1) F1 (x_puts pr [o.getD p 0]) (by omega) a3 (m_out_fr hmo a4 (by decide)) (m_words_fr hw a4 (by decide)) (puts_len _ _) a2
    refine ⟨F', ?_, ?_, e3, fr_trans a4 e4⟩
    · rw [← e1]
      refine rb_it_l ?_
      show f_M_perform_b65 _ _ _ _ = _
      unfold f_M_perform_b65
      simp (disch := omega) only [↓fx_bm, ↓bx_of rfl (show k < 2147483648 by omega) hto2, ↓bx_of rfl (show p < 2147483648 by omega) hg, ↓cV_of a1, ↓reduceIte, n_ltT, n_ltF, n_leT, n_leF, n_eqT, n_eqF, nI_1, u_lt, u_le, u_eq, u_add, u_ix, u_ixL, u_ixR, u_cl, u_nm1, u_nm1', u_m1l, u_m1n, u_l0, Option.bind_some, Option.map_some, not_true_eq_false, not_false_eq_true, true_and, and_true, Nat.add_sub_cancel, Bool.false_eq_true, u_nar2]
    · rw [puts_app, ← List.append_assoc] at e2
      have hs : slc o p (W.getD k (0, 0)).2 = [o.getD p 0] ++ slc o (p + 1) (W.getD k (0, 0)).2 := by
        unfold slc
        rw [List.drop_eq_getElem_cons (show p < o.length by omega), show (W.getD k (0, 0)).2 - p = ((W.getD k (0, 0)).2 - (p + 1)) + 1 by omega, List.take_succ_cons, getD_get (show p < o.length by omega)]
        rfl
      rw [hs]
      exact e2
theorem m_echo (hb : rb_b σ ≤ b) {o : List Nat} (ho : o.length ≤ 120) (hto : tk o) {W : List (Nat × Nat)} (hwo : wok o W) : ∀ (m k : Nat) (F : fx_F) (pr : List Nat), k + m + 1 = W.length → 1 ≤ k → fx_ln F → m_out F o → m_words F W → pr.length ≤ 400 → m_print F pr → ∃ F', rb_it (fun z : (Int32 × rb_St) => f_M_perform_b49 (some (fx_ad b 34)) (z.1) z.2) (nI k, fx_mk σ b F) = some (some (.int (nI 1)), fx_mk σ b F') ∧ m_print F' (x_puts pr (x_join ((wl o W).drop k) ++ [10])) ∧ fx_ln F' ∧ fr [3472] [82] [] F F' := by
  have hw60 := hwo.1
  intro m
  induction m with
  | zero =>
    intro k F pr hk hk1 hF hmo hw hpl hpr
    have hkW : k < W.length := by omega
    have hfm := (hw.2 k hkW).1
    have hpq := hwo.2 k hkW
    obtain ⟨F1, a1, a2, a3, a4⟩ := m_echo1 (σ := σ) (b := b) hb ho hto hwo hkW ((W.getD k (0, 0)).2 - (W.getD k (0, 0)).1) (W.getD k (0, 0)).1 F pr (by omega) hF hmo hw hpl hpr
    rw [if_neg (by omega)] at a2
    refine ⟨F1, ?_, ?_, a3, a4⟩
    · have hstep : f_M_perform_b49 (some (fx_ad b 34)) (nI k) (fx_mk σ b F) = some (.inl (nI (k + 1), fx_mk σ b F1)) := by
        unfold f_M_perform_b49
        simp (disch := omega) only [↓fx_bm, hw.1, ↓bx_of rfl (show k < 2147483648 by omega) hfm, ↓reduceIte, n_ltT, n_ltF, n_leT, n_leF, n_eqT, n_eqF, nI_1, u_lt, u_le, u_eq, u_add, u_ix, u_ixL, u_ixR, u_cl, u_nm1, u_nm1', u_m1l, u_m1n, u_l0, Option.bind_some, Option.map_some, not_true_eq_false, not_false_eq_true, true_and, and_true, Nat.add_sub_cancel, Bool.false_eq_true, u_nar2]
        exact a1
      refine (rb_it_l hstep).trans ?_
      refine rb_it_r ?_
      have hw1 := (m_words_fr hw a4 (by decide)).1
      show f_M_perform_b49 _ _ _ = _
      unfold f_M_perform_b49
      simp (disch := omega) only [↓fx_bm, hw1, u_l1, ↓reduceIte, n_ltT, n_ltF, n_leT, n_leF, n_eqT, n_eqF, nI_1, u_lt, u_le, u_eq, u_add, u_ix, u_ixL, u_ixR, u_cl, u_nm1, u_nm1', u_m1l, u_m1n, u_l0, Option.bind_some, Option.map_some, not_true_eq_false, not_false_eq_true, true_and, and_true, Nat.add_sub_cancel, Bool.false_eq_true, u_nar2]
    · rw [wl_drop hkW, wl_drop0 (by omega)]
      exact a2
  | succ m ih =>
    intro k F pr hk hk1 hF hmo hw hpl hpr
    have hkW : k < W.length := by omega
    have hfm := (hw.2 k hkW).1
    have hpq := hwo.2 k hkW
    obtain ⟨F1, a1, a2, a3, a4⟩ := m_echo1 (σ := σ) (b := b) hb ho hto hwo hkW ((W.getD k (0, 0)).2 - (W.getD k (0, 0)).1) (W.getD k (0, 0)).1 F pr (by omega) hF hmo hw hpl hpr
    rw [if_pos (by omega)] at a2
    obtain ⟨F', e1, e2, e3, e4⟩ := ih (k + 1) F1 _ (by omega) (by omega) a3 (m_out_fr hmo a4 (by decide)) (m_words_fr hw a4 (by decide)) (puts_len _ _) a2
    refine ⟨F', ?_, ?_, e3, fr_trans a4 e4⟩
    · rw [← e1]
      refine rb_it_l ?_
      show f_M_perform_b49 _ _ _ = _
      unfold f_M_perform_b49
      simp (disch := omega) only [↓fx_bm, hw.1, ↓bx_of rfl (show k < 2147483648 by omega) hfm, ↓reduceIte, n_ltT, n_ltF, n_leT, n_leF, n_eqT, n_eqF, nI_1, u_lt, u_le, u_eq, u_add, u_ix, u_ixL, u_ixR, u_cl, u_nm1, u_nm1', u_m1l, u_m1n, u_l0, Option.bind_some, Option.map_some, not_true_eq_false, not_false_eq_true, true_and, and_true, Nat.add_sub_cancel, Bool.false_eq_true, u_nar2]
      exact a1
    · rw [puts_app, ← List.append_assoc] at e2
      rw [wl_drop hkW, wl_drop (k := k + 1) (by omega)]
      rw [wl_drop (k := k + 1) (by omega)] at e2
      exact e2
theorem m_perform (hb : rb_b σ ≤ b) (hF : fx_ln F) {o : List Nat} (ho : o.length ≤ 120) (hto : tk o) (hmo : m_out F o) {S : PS} (hS : pok S) (hm : m_ps F S) : ∃ F', f_M_perform (some (fx_ad b 34)) (fx_mk σ b F) = some (some (.int (nI (b2 (x_perf (wl o (wds o o.length 0 o.length)) S).1))), fx_mk σ b F') ∧ m_ps F' (x_perf (wl o (wds o o.length 0 o.length)) S).2 ∧ fx_ln F' ∧ fr [3402, 3407, 3447, 3472] [37, 38, 39, 63, 64, 82] [36] F F' := by
  obtain ⟨hN, hP⟩ := hS
  have hlen0 := wds_len o o.length 0 o.length
  have hwo : wok o (wds o o.length 0 o.length) := by
    refine ⟨by omega, fun k hk => ?_⟩
    have := wds_in _ _ _ _ _ (getD_mem (d := (0, 0)) hk)
    omega
  have hw0 : m_words (fx_I F 3447 (nI 0)) [] := ⟨by rw [fx_I_1, if_pos rfl]; rfl, fun k hk => absurd hk (Nat.not_lt_zero _)⟩
  have hfr0 : fr [3447] [63, 64] [] F (fx_I F 3447 (nI 0)) := fr_I (fr_refl _ _ _ _) (by decide)
  obtain ⟨F1, a1, a2, a3, a4⟩ := m_split (σ := σ) (b := b) hb ho hto (q := o.length) (Nat.le_refl _) o.length 0 (fx_I F 3447 (nI 0)) [] (by omega) (fx_lnI hF) (m_out_fr hmo hfr0 (by decide)) hw0 (by rw [List.length_nil]; omega) (by omega)
  rw [List.nil_append] at a2
  have hfr1 : fr [3447] [63, 64] [] F F1 := fr_trans hfr0 a4
  have hmo1 := m_out_fr hmo hfr1 (by decide)
  have hm1 := m_ps_fr hm hfr1 (by decide)
  have hfr1' : fr [3402, 3407, 3447, 3472] [37, 38, 39, 63, 64, 82] [36] F F1 := fr_mono hfr1 (by decide) (by decide) (by decide)
  have a1' : f_M_split (some (fx_ad b 34)) (0 : Int32) ((fx_I F 3447 (0 : Int32)).1 3444) (fx_mk σ b (fx_I F 3447 (0 : Int32))) = some (none, fx_mk σ b F1) := by
    rw [fx_I_1, if_neg (by decide), hmo.1]
    exact a1
  generalize wds o o.length 0 o.length = W at *
  have hw60 := hwo.1
  have hwl := wl_len o W
  by_cases h0 : W.length = 0
  · have hws : wl o W = [] := List.eq_nil_of_length_eq_zero (by omega)
    have hx : x_perf (wl o W) S = (true, S) := if_pos hws
    rw [hx]
    refine ⟨F1, ?_, hm1, a3, hfr1'⟩
    have a21 := a2.1
    rw [h0] at a21
    unfold f_M_perform
    simp (disch := omega) only [↓fx_bm, ↓fx_vm hb, ↓cV_of a1', a21, ↓reduceIte, n_ltT, n_ltF, n_leT, n_leF, n_eqT, n_eqF, nI_1, u_lt, u_le, u_eq, u_add, u_ix, u_ixL, u_ixR, u_cl, u_nm1, u_nm1', u_m1l, u_m1n, u_l0, Option.bind_some, Option.map_some, not_true_eq_false, not_false_eq_true, true_and, and_true, Nat.add_sub_cancel, Bool.false_eq_true, u_nar2, b2_t, u_l1]
  · have hws : ¬ wl o W = [] := fun h => h0 (by rw [← hwl, h]; rfl)
    have hw0 : (wl o W).getD 0 [] = wd o W 0 := wl_get (by omega)
    have hok := tk_ok (wd_tk hto W 0)
    have hword : f_M_word (some (fx_ad b 34)) (0 : Int32) (fx_mk σ b F1) = some (some (.long (pk (wd o W 0))), fx_mk σ b F1) := m_word (F := F1) (σ := σ) (b := b) ho hto hmo1 hwo a2 (k := 0) (by omega)
    have hdr1 : ∀ n, n ≤ W.length → (((wl o W).take n).drop 1).length = n - 1 := fun n hn => by
      rw [List.length_drop, List.length_take, hwl]
      omega
    have hget1 : ∀ n i, n ≤ W.length → i < n - 1 → (((wl o W).take n).drop 1).getD i [] = wd o W (i + 1) := fun n i hn hi => by
      rw [List.getD_eq_getElem?_getD, List.getElem?_drop, List.getElem?_take_of_lt (by omega), ← List.getD_eq_getElem?_getD, Nat.add_comm 1 i, wl_get (by omega)]
    have key1 : ∀ (K : rb_St → Option rb_Rs), ((rb_pI (fx_mk σ b F) (some (fx_ad b 34)) 13 47 (0 : Int32)).bind fun σ_1 => (rb_gI σ_1 (some (fx_ad b 34)) 13 44).bind fun x_2 => (rb_fc σ_1 (some (fx_ad b 34)) 13).bind fun _ => rb_cV (f_M_split (some (fx_ad b 34)) ((0 : Int32)) (x_2) σ_1) K) = K (fx_mk σ b F1) := by
      intro K
      simp only [↓fx_bm, ↓fx_vm hb, ↓cV_of a1']
    have key2 : ∀ (K : Int32 → Option rb_Rs), ((rb_gI (fx_mk σ b F1) (some (fx_ad b 34)) 13 47).bind K) = K (nI W.length) := by
      intro K
      simp only [↓fx_bm, a2.1]
    have key3 : ∀ (K : Int64 → rb_St → Option rb_Rs), ((rb_fc (fx_mk σ b F1) (some (fx_ad b 34)) 13).bind fun _ => rb_cL (f_M_word (some (fx_ad b 34)) (0 : Int32) (fx_mk σ b F1)) K) = K (pk (wd o W 0)) (fx_mk σ b F1) := by
      intro K
      simp only [↓fx_bm, ↓cL_of hword]
    unfold f_M_perform
    rw [key1, key2, if_neg (show ¬ nI W.length = 0 by rw [u_l0, u_eq (by omega) (by omega)]; exact h0), key3]
    simp only [c_true hok, c_echo hok, c_touch hok, c_rm hok, c_cp hok, c_cat hok]
    unfold x_perf
    rw [if_neg hws, hw0]
    by_cases t1 : wd o W 0 = q_true
    · rw [if_pos t1, if_pos t1]
      exact ⟨F1, rfl, hm1, a3, hfr1'⟩
    · rw [if_neg t1, if_neg t1]
      by_cases t2 : wd o W 0 = q_echo
      · rw [if_pos t2, if_pos t2]
        by_cases h1 : W.length = 1
        · have a21 := a2.1
          rw [h1] at a21
          obtain ⟨F2, c1, c2, c3, c4⟩ := m_put (σ := σ) (b := b) hb a3 hP hm1.2.2 10
          have c1' : f_M_put (some (fx_ad b 34)) (10 : Int32) (fx_mk σ b F1) = some (none, fx_mk σ b F2) := c1
          rw [wl_drop0 (by omega)]
          refine ⟨F2, ?_, ⟨m_names_fr hm1.1 c4 (by decide), m_files_fr hm1.2.1 c4 (by decide), c2⟩, c3, fr_trans hfr1' (fr_mono c4 (by decide) (by decide) (by decide))⟩
          refine rb_it_r ?_
          show f_M_perform_b49 _ _ _ = _
          unfold f_M_perform_b49
          simp (disch := omega) only [↓fx_bm, a21, u_l1, ↓cV_of c1', ↓reduceIte, n_ltT, n_ltF, n_leT, n_leF, n_eqT, n_eqF, nI_1, u_lt, u_le, u_eq, u_add, u_ix, u_ixL, u_ixR, u_cl, u_nm1, u_nm1', u_m1l, u_m1n, u_l0, Option.bind_some, Option.map_some, not_true_eq_false, not_false_eq_true, true_and, and_true, Nat.add_sub_cancel, Bool.false_eq_true, u_nar2, b2_t]
        · obtain ⟨F2, c1, c2, c3, c4⟩ := m_echo (σ := σ) (b := b) hb ho hto hwo (W.length - 2) 1 F1 (pP S) (by omega) (by omega) a3 hmo1 a2 hP hm1.2.2
          exact ⟨F2, c1, ⟨m_names_fr hm1.1 c4 (by decide), m_files_fr hm1.2.1 c4 (by decide), c2⟩, c3, fr_trans hfr1' (fr_mono c4 (by decide) (by decide) (by decide))⟩
      · rw [if_neg t2, if_neg t2]
        -- touch and rm
        have hj152 : (wd o W 0 = q_touch ∨ wd o W 0 = q_rm) → ∃ F', f_M_perform_j152 (some (fx_ad b 34)) (pk (wd o W 0)) (fx_mk σ b F1) = some (some (.int (nI (b2 (if W.length < 2 then (false, S) else match x_meets ((wl o W).drop 1) (pN S) with
    | (none, N) => (false, ((N, pF S, pC S, pP S) : PS))
    | (some ks, N) => if wd o W 0 = q_touch then (true, (N, (x_touch ks (pF S) (pC S)).1, (x_touch ks (pF S) (pC S)).2, pP S)) else (true, (N, x_rm ks (pF S), pC S, pP S))).1))), fx_mk σ b F') ∧ m_ps F' (if W.length < 2 then (false, S) else match x_meets ((wl o W).drop 1) (pN S) with
    | (none, N) => (false, ((N, pF S, pC S, pP S) : PS))
    | (some ks, N) => if wd o W 0 = q_touch then (true, (N, (x_touch ks (pF S) (pC S)).1, (x_touch ks (pF S) (pC S)).2, pP S)) else (true, (N, x_rm ks (pF S), pC S, pP S))).2 ∧ fx_ln F' ∧ fr [3402, 3407, 3447, 3472] [37, 38, 39, 63, 64, 82] [36] F F' := by
          intro _
          unfold f_M_perform_j152
          by_cases h2 : W.length < 2
          · rw [if_pos h2]
            refine ⟨F1, ?_, hm1, a3, hfr1'⟩
            simp (disch := omega) only [↓fx_bm, a2.1, u_l1, ↓reduceIte, n_ltT, n_ltF, n_leT, n_leF, n_eqT, n_eqF, nI_1, u_lt, u_le, u_eq, u_add, u_ix, u_ixL, u_ixR, u_cl, u_nm1, u_nm1', u_m1l, u_m1n, u_l0, Option.bind_some, Option.map_some, not_true_eq_false, not_false_eq_true, true_and, and_true, Nat.add_sub_cancel, Bool.false_eq_true, u_nar2, b2_f]
          · rw [if_neg h2]
            obtain ⟨F2, c1, c2, c3, c4⟩ := m_allNames (σ := σ) (b := b) hb ho hto hwo (n := W.length) (Nat.le_refl _) (W.length - 1) 1 F1 (pN S) (by omega) a3 hmo1 a2 hN hm1.1
            have htk : (wl o W).take W.length = wl o W := List.take_of_length_le (by omega)
            have hg1 := hget1 W.length
            have hd1 := hdr1 W.length (Nat.le_refl _)
            rw [htk] at c1 c2 hg1 hd1
            have c1' : f_M_allNames (some (fx_ad b 34)) (F1.1 3447) (fx_mk σ b F1) = some (some (.int (nI (b2 (x_meets ((wl o W).drop 1) (pN S)).1.isSome))), fx_mk σ b F2) := by
              rw [a2.1]
              exact c1
            have hok2 := meets_ok ((wl o W).drop 1) (pN S) hN
            have hnf2 := meets_nf ((wl o W).drop 1) (pN S)
            have hfr2 : fr [3402, 3407, 3447, 3472] [37, 38, 39, 63, 64, 82] [36] F F2 := fr_trans hfr1' (fr_mono c4 (by decide) (by decide) (by decide))
            have hfi2 : m_files F2 (pF S) (pC S) := m_files_fr hm1.2.1 c4 (by decide)
            have hpr2 : m_print F2 (pP S) := m_print_fr hm1.2.2 c4 (by decide)
            have hw2 := m_words_fr a2 c4 (by decide)
            have hmo2 := m_out_fr hmo1 c4 (by decide)
            rcases hx : x_meets ((wl o W).drop 1) (pN S) with ⟨r, N⟩
            rw [hx] at c1' c2 hok2 hnf2
            cases r with
            | none =>
              refine ⟨F2, ?_, ⟨c2, hfi2, hpr2⟩, c3, hfr2⟩
              simp only [Option.isSome_none, b2_f] at c1'
              simp (disch := omega) only [↓fx_bm, a2.1, u_l1, ↓cI_of c1', ↓reduceIte, n_ltT, n_ltF, n_leT, n_leF, n_eqT, n_eqF, nI_1, u_lt, u_le, u_eq, u_add, u_ix, u_ixL, u_ixR, u_cl, u_nm1, u_nm1', u_m1l, u_m1n, u_l0, Option.bind_some, Option.map_some, not_true_eq_false, not_false_eq_true, true_and, and_true, Nat.add_sub_cancel, Bool.false_eq_true, u_nar2, b2_f]
            | some ks =>
              simp only [Option.isSome_some, b2_t] at c1'
              obtain ⟨k1, k2⟩ := hnf2 ks rfl
              rw [hd1] at k1 k2
              have hnf3 : ∀ i, i < ks.length → nf N (wd o W (i + 1)) = some (ks.getD i 0) := fun i hi => by
                rw [← hg1 i (Nat.le_refl _) (by omega)]
                exact k2 i (by omega)
              by_cases t3 : wd o W 0 = q_touch
              · simp only [if_pos t3]
                obtain ⟨F3, d1, d2, d3, d4⟩ := m_touch (σ := σ) (b := b) hb ho hto hwo hok2 (by omega) hnf3 ks.length 0 F2 (pF S) (pC S) (by omega) c3 hmo2 hw2 c2 hfi2
                rw [List.drop_zero] at d2
                have d1' : f_M_each (some (fx_ad b 34)) (1 : Int32) (fx_mk σ b F2) = some (some (.int (nI 1)), fx_mk σ b F3) := d1
                refine ⟨F3, ?_, ⟨m_names_fr c2 d4 (by decide), d2, m_print_fr hpr2 d4 (by decide)⟩, d3, fr_trans hfr2 (fr_mono d4 (by decide) (by decide) (by decide))⟩
                simp (disch := omega) only [↓fx_bm, a2.1, u_l1, ↓cI_of c1', ↓c_touch hok, t3, f_M_perform_j185, ↓cI_of d1', ↓reduceIte, n_ltT, n_ltF, n_leT, n_leF, n_eqT, n_eqF, nI_1, u_lt, u_le, u_eq, u_add, u_ix, u_ixL, u_ixR, u_cl, u_nm1, u_nm1', u_m1l, u_m1n, u_l0, Option.bind_some, Option.map_some, not_true_eq_false, not_false_eq_true, true_and, and_true, Nat.add_sub_cancel, Bool.false_eq_true, u_nar2, b2_t]
              · simp only [if_neg t3]
                obtain ⟨F3, d1, d2, d3, d4⟩ := m_rm (σ := σ) (b := b) hb ho hto hwo hok2 (by omega) hnf3 ks.length 0 F2 (pF S) (ck := pC S) (by omega) c3 hmo2 hw2 c2 hfi2
                rw [List.drop_zero] at d2
                have d1' : f_M_each (some (fx_ad b 34)) (0 : Int32) (fx_mk σ b F2) = some (some (.int (nI 1)), fx_mk σ b F3) := d1
                refine ⟨F3, ?_, ⟨m_names_fr c2 d4 (by decide), d2, m_print_fr hpr2 d4 (by decide)⟩, d3, fr_trans hfr2 (fr_mono d4 (by decide) (by decide) (by decide))⟩
                simp (disch := omega) only [↓fx_bm, a2.1, u_l1, ↓cI_of c1', ↓c_touch hok, t3, f_M_perform_j185, ↓cI_of d1', ↓reduceIte, n_ltT, n_ltF, n_leT, n_leF, n_eqT, n_eqF, nI_1, u_lt, u_le, u_eq, u_add, u_ix, u_ixL, u_ixR, u_cl, u_nm1, u_nm1', u_m1l, u_m1n, u_l0, Option.bind_some, Option.map_some, not_true_eq_false, not_false_eq_true, true_and, and_true, Nat.add_sub_cancel, Bool.false_eq_true, u_nar2, b2_t]
        by_cases t3 : wd o W 0 = q_touch
        · obtain ⟨F', e⟩ := hj152 (Or.inl t3)
          rw [if_pos t3, if_pos (show wd o W 0 = q_touch ∨ wd o W 0 = q_rm from Or.inl t3), hwl]
          exact ⟨F', e⟩
        · by_cases t4 : wd o W 0 = q_rm
          · obtain ⟨F', e⟩ := hj152 (Or.inr t4)
            rw [if_neg t3, if_pos t4, if_pos (show wd o W 0 = q_touch ∨ wd o W 0 = q_rm from Or.inr t4), hwl]
            exact ⟨F', e⟩
          · rw [if_neg t3, if_neg t4, if_neg (show ¬ (wd o W 0 = q_touch ∨ wd o W 0 = q_rm) from fun h => h.elim t3 t4)]
            by_cases t5 : wd o W 0 = q_cp
            · rw [if_pos t5, if_pos t5, hwl]
              by_cases h3 : W.length = 3
              · rw [if_neg (show ¬ W.length ≠ 3 from fun h => h h3)]
                have a21 := a2.1
                rw [h3] at a21
                obtain ⟨F2, c1, c2, c3, c4⟩ := m_allNames (σ := σ) (b := b) hb ho hto hwo (n := 3) (by omega) 2 1 F1 (pN S) (by omega) a3 hmo1 a2 hN hm1.1
                have htk : (wl o W).take 3 = wl o W := List.take_of_length_le (by omega)
                have hg1 := hget1 3
                have hd1 := hdr1 3 (by omega)
                rw [htk] at c1 c2 hg1 hd1
                have c1' : f_M_allNames (some (fx_ad b 34)) (3 : Int32) (fx_mk σ b F1) = some (some (.int (nI (b2 (x_meets ((wl o W).drop 1) (pN S)).1.isSome))), fx_mk σ b F2) := c1
                have hok2 := meets_ok ((wl o W).drop 1) (pN S) hN
                have hnf2 := meets_nf ((wl o W).drop 1) (pN S)
                have hfr2 : fr [3402, 3407, 3447, 3472] [37, 38, 39, 63, 64, 82] [36] F F2 := fr_trans hfr1' (fr_mono c4 (by decide) (by decide) (by decide))
                have hfi2 : m_files F2 (pF S) (pC S) := m_files_fr hm1.2.1 c4 (by decide)
                have hpr2 : m_print F2 (pP S) := m_print_fr hm1.2.2 c4 (by decide)
                have hw2 := m_words_fr a2 c4 (by decide)
                have hmo2 := m_out_fr hmo1 c4 (by decide)
                rcases hx : x_meets ((wl o W).drop 1) (pN S) with ⟨r, N⟩
                rw [hx] at c1' c2 hok2 hnf2
                cases r with
                | none =>
                  refine ⟨F2, ?_, ⟨c2, hfi2, hpr2⟩, c3, hfr2⟩
                  simp only [Option.isSome_none, b2_f] at c1'
                  simp (disch := omega) only [↓fx_bm, a21, u_l3, ↓cI_of c1', ↓reduceIte, n_ltT, n_ltF, n_leT, n_leF, n_eqT, n_eqF, nI_1, u_lt, u_le, u_eq, u_add, u_ix, u_ixL, u_ixR, u_cl, u_nm1, u_nm1', u_m1l, u_m1n, u_l0, Option.bind_some, Option.map_some, not_true_eq_false, not_false_eq_true, true_and, and_true, Nat.add_sub_cancel, Bool.false_eq_true, u_nar2, b2_f]
                | some ks =>
                  simp only [Option.isSome_some, b2_t] at c1'
                  obtain ⟨k1, k2⟩ := hnf2 ks rfl
                  rw [hd1] at k1 k2
                  have hx1 : nf N (wd o W 1) = some (ks.getD 0 0) := by
                    rw [← hg1 0 (by omega) (by omega)]
                    exact k2 0 (by omega)
                  have hy1 : nf N (wd o W 2) = some (ks.getD 1 0) := by
                    rw [← hg1 1 (by omega) (by omega)]
                    exact k2 1 (by omega)
                  obtain ⟨F3, d1, d2, d3, d4⟩ := m_copyF (σ := σ) (b := b) hb c3 ho hto hwo h3 hmo2 hw2 hok2 c2 hfi2 hx1 hy1
                  have hfr3 := fr_trans hfr2 (fr_mono d4 (by decide) (by decide) (by decide) : fr [3402, 3407, 3447, 3472] [37, 38, 39, 63, 64, 82] [36] F2 F3)
                  simp only
                  by_cases e : (pF S (ks.getD 0 0)).1 = 0
                  · rw [if_pos e, if_pos e] at d2
                    rw [if_pos e]
                    simp only [e, not_true_eq_false, decide_false, b2_f] at d1
                    refine ⟨F3, ?_, ⟨m_names_fr c2 d4 (by decide), d2, m_print_fr hpr2 d4 (by decide)⟩, d3, hfr3⟩
                    simp (disch := omega) only [↓fx_bm, a21, u_l3, ↓cI_of c1', ↓cI_of d1, ↓reduceIte, n_ltT, n_ltF, n_leT, n_leF, n_eqT, n_eqF, nI_1, u_lt, u_le, u_eq, u_add, u_ix, u_ixL, u_ixR, u_cl, u_nm1, u_nm1', u_m1l, u_m1n, u_l0, Option.bind_some, Option.map_some, not_true_eq_false, not_false_eq_true, true_and, and_true, Nat.add_sub_cancel, Bool.false_eq_true, u_nar2, b2_f]
                  · rw [if_neg e, if_neg e] at d2
                    rw [if_neg e]
                    simp only [e, not_false_eq_true, decide_true, b2_t] at d1
                    refine ⟨F3, ?_, ⟨m_names_fr c2 d4 (by decide), d2, m_print_fr hpr2 d4 (by decide)⟩, d3, hfr3⟩
                    simp (disch := omega) only [↓fx_bm, a21, u_l3, u_l1, ↓cI_of c1', ↓cI_of d1, ↓reduceIte, n_ltT, n_ltF, n_leT, n_leF, n_eqT, n_eqF, nI_1, u_lt, u_le, u_eq, u_add, u_ix, u_ixL, u_ixR, u_cl, u_nm1, u_nm1', u_m1l, u_m1n, u_l0, Option.bind_some, Option.map_some, not_true_eq_false, not_false_eq_true, true_and, and_true, Nat.add_sub_cancel, Bool.false_eq_true, u_nar2, b2_t]
              · rw [if_pos (show W.length ≠ 3 from h3)]
                refine ⟨F1, ?_, hm1, a3, hfr1'⟩
                simp (disch := omega) only [↓fx_bm, a2.1, u_l3, ↓reduceIte, n_ltT, n_ltF, n_leT, n_leF, n_eqT, n_eqF, nI_1, u_lt, u_le, u_eq, u_add, u_ix, u_ixL, u_ixR, u_cl, u_nm1, u_nm1', u_m1l, u_m1n, u_l0, Option.bind_some, Option.map_some, not_true_eq_false, not_false_eq_true, true_and, and_true, Nat.add_sub_cancel, Bool.false_eq_true, u_nar2, b2_f]
            · rw [if_neg t5, if_neg t5]
              by_cases t6 : wd o W 0 = q_cat
              · rw [if_pos t6, if_pos t6, hwl]
                by_cases h4 : W.length < 4
                · rw [if_pos (Or.inl h4)]
                  refine ⟨F1, ?_, hm1, a3, hfr1'⟩
                  simp (disch := omega) only [↓fx_bm, a2.1, u_l3, ↓reduceIte, n_ltT, n_ltF, n_leT, n_leF, n_eqT, n_eqF, nI_1, u_lt, u_le, u_eq, u_add, u_ix, u_ixL, u_ixR, u_cl, u_nm1, u_nm1', u_m1l, u_m1n, u_l0, Option.bind_some, Option.map_some, not_true_eq_false, not_false_eq_true, true_and, and_true, Nat.add_sub_cancel, Bool.false_eq_true, u_nar2, b2_f]
                · have hok2 := tk_ok (wd_tk hto W (W.length - 2))
                  have hgt : (wl o W).getD (W.length - 2) [] = wd o W (W.length - 2) := wl_get (by omega)
                  have hla : (wl o W).getD (W.length - 1) [] = wd o W (W.length - 1) := wl_get (by omega)
                  have hword2 : f_M_word (some (fx_ad b 34)) (F1.1 3447 - (2 : Int32)) (fx_mk σ b F1) = some (some (.long (pk (wd o W (W.length - 2)))), fx_mk σ b F1) := by
                    rw [a2.1, u_l2, u_sub (by omega)]
                    exact m_word (F := F1) (σ := σ) (b := b) ho hto hmo1 hwo a2 (by omega)
                  rw [hgt, hla]
                  by_cases t7 : wd o W (W.length - 2) = [62]
                  · rw [if_neg (show ¬ (W.length < 4 ∨ wd o W (W.length - 2) ≠ [62]) from fun h => h.elim h4 (fun h => h t7))]
                    obtain ⟨F2, c1, c2, c3, c4⟩ := m_allNames (σ := σ) (b := b) hb ho hto hwo (n := W.length - 2) (by omega) (W.length - 2 - 1) 1 F1 (pN S) (by omega) a3 hmo1 a2 hN hm1.1
                    have hg1 := hget1 (W.length - 2)
                    have hd1 := hdr1 (W.length - 2) (by omega)
                    have c1' : f_M_allNames (some (fx_ad b 34)) (F1.1 3447 - (2 : Int32)) (fx_mk σ b F1) = some (some (.int (nI (b2 (x_meets (((wl o W).take (W.length - 2)).drop 1) (pN S)).1.isSome))), fx_mk σ b F2) := by
                      rw [a2.1, u_l2, u_sub (by omega)]
                      exact c1
                    have hok3 := meets_ok (((wl o W).take (W.length - 2)).drop 1) (pN S) hN
                    have hnf2 := meets_nf (((wl o W).take (W.length - 2)).drop 1) (pN S)
                    have hfr2 : fr [3402, 3407, 3447, 3472] [37, 38, 39, 63, 64, 82] [36] F F2 := fr_trans hfr1' (fr_mono c4 (by decide) (by decide) (by decide))
                    have hfi2 : m_files F2 (pF S) (pC S) := m_files_fr hm1.2.1 c4 (by decide)
                    have hpr2 : m_print F2 (pP S) := m_print_fr hm1.2.2 c4 (by decide)
                    have hw2 := m_words_fr a2 c4 (by decide)
                    have hmo2 := m_out_fr hmo1 c4 (by decide)
                    have hc62 : (lg_cmp (pk (wd o W (W.length - 2))) (62 : Int64) = 0) = True := (c_gt hok2).trans (eq_true t7)
                    rcases hx : x_meets (((wl o W).take (W.length - 2)).drop 1) (pN S) with ⟨r, N⟩
                    rw [hx] at c1' c2 hok3 hnf2
                    cases r with
                    | none =>
                      refine ⟨F2, ?_, ⟨c2, hfi2, hpr2⟩, c3, hfr2⟩
                      simp only [Option.isSome_none, b2_f] at c1'
                      simp (disch := omega) only [↓fx_bm, a2.1, u_l3, ↓cL_of hword2, ↓hc62, ↓cI_of c1', ↓reduceIte, n_ltT, n_ltF, n_leT, n_leF, n_eqT, n_eqF, nI_1, u_lt, u_le, u_eq, u_add, u_ix, u_ixL, u_ixR, u_cl, u_nm1, u_nm1', u_m1l, u_m1n, u_l0, Option.bind_some, Option.map_some, not_true_eq_false, not_false_eq_true, true_and, and_true, Nat.add_sub_cancel, Bool.false_eq_true, u_nar2, b2_f]
                    | some ks =>
                      simp only [Option.isSome_some, b2_t] at c1'
                      obtain ⟨k1, k2⟩ := hnf2 ks rfl
                      rw [hd1] at k1 k2
                      have hok4 := tk_ok (wd_tk hto W (W.length - 1))
                      have hword3 : f_M_word (some (fx_ad b 34)) (F2.1 3447 - (1 : Int32)) (fx_mk σ b F2) = some (some (.long (pk (wd o W (W.length - 1)))), fx_mk σ b F2) := by
                        rw [hw2.1, u_l1, u_sub (by omega)]
                        exact m_word (F := F2) (σ := σ) (b := b) ho hto hmo2 hwo hw2 (by omega)
                      obtain ⟨F3, d1, d2, d3, d4⟩ := m_meet (σ := σ) (b := b) hb c3 hok3 c2 hok4
                      have hok5 := nmeet_ok hok3 (wd o W (W.length - 1))
                      have hkeep := fun i (hi : i < ks.length) => nmeet_keep (w := wd o W (W.length - 1)) (show nf N (wd o W (i + 1)) = some (ks.getD i 0) by
                        rw [← hg1 i (by omega) (by omega)]
                        exact k2 i (by omega))
                      have hnfl := @nmeet_nf N (wd o W (W.length - 1))
                      have hltl := @nmeet_lt N (wd o W (W.length - 1))
                      have hfr3 : fr [3402, 3407, 3447, 3472] [37, 38, 39, 63, 64, 82] [36] F F3 := fr_trans hfr2 (fr_mono d4 (by decide) (by decide) (by decide))
                      have hfi3 : m_files F3 (pF S) (pC S) := m_files_fr hfi2 d4 (by decide)
                      have hpr3 : m_print F3 (pP S) := m_print_fr hpr2 d4 (by decide)
                      simp only
                      rcases hy : nmeet N (wd o W (W.length - 1)) with ⟨r2, N2⟩
                      rw [hy] at d1 d2 hok5 hkeep hnfl hltl
                      cases r2 with
                      | none =>
                        refine ⟨F3, ?_, ⟨d2, hfi3, hpr3⟩, d3, hfr3⟩
                        simp only [oi_none] at d1
                        simp (disch := omega) only [↓fx_bm, a2.1, u_l3, ↓cL_of hword2, ↓hc62, ↓cI_of c1', ↓cL_of hword3, ↓cI_of d1, ↓reduceIte, n_ltT, n_ltF, n_leT, n_leF, n_eqT, n_eqF, nI_1, u_lt, u_le, u_eq, u_add, u_ix, u_ixL, u_ixR, u_cl, u_nm1, u_nm1', u_m1l, u_m1n, u_l0, Option.bind_some, Option.map_some, not_true_eq_false, not_false_eq_true, true_and, and_true, Nat.add_sub_cancel, Bool.false_eq_true, u_nar2, b2_f, u_m10]
                      | some y =>
                        simp only [oi_some] at d1
                        have hy32 : y < 32 := Nat.lt_of_lt_of_le (hltl rfl) hok5.1
                        obtain ⟨F4, j1, j2, j3, j4⟩ := m_join (σ := σ) (b := b) hb d3 ho hto hwo (m_out_fr hmo2 d4 (by decide)) (m_words_fr hw2 d4 (by decide)) hok5 d2 hfi3 (ks := ks) (by omega) hkeep (hnfl rfl) ks.length 0 0 (by omega)
                        rw [List.drop_zero] at j1 j2
                        have j1' : f_M_join (some (fx_ad b 34)) (fx_mk σ b F3) = some (some (.int (nI (b2 (x_sum (pF S) ks 0).isSome))), fx_mk σ b F4) := j1
                        have hfr4 : fr [3402, 3407, 3447, 3472] [37, 38, 39, 63, 64, 82] [36] F F4 := fr_trans hfr3 (fr_mono j4 (by decide) (by decide) (by decide))
                        simp only
                        cases hsum : x_sum (pF S) ks 0 with
                        | none =>
                          rw [hsum] at j1' j2
                          simp only [Option.isSome_none, b2_f] at j1'
                          refine ⟨F4, ?_, ⟨m_names_fr d2 j4 (by decide), j2, m_print_fr hpr3 j4 (by decide)⟩, j3, hfr4⟩
                          simp (disch := omega) only [↓fx_bm, a2.1, u_l3, ↓cL_of hword2, ↓hc62, ↓cI_of c1', ↓cL_of hword3, ↓cI_of d1, ↓cI_of j1', ↓reduceIte, n_ltT, n_ltF, n_leT, n_leF, n_eqT, n_eqF, nI_1, u_lt, u_le, u_eq, u_add, u_ix, u_ixL, u_ixR, u_cl, u_nm1, u_nm1', u_m1l, u_m1n, u_l0, Option.bind_some, Option.map_some, not_true_eq_false, not_false_eq_true, true_and, and_true, Nat.add_sub_cancel, Bool.false_eq_true, u_nar2, b2_f]
                        | some v =>
                          rw [hsum] at j1' j2
                          simp only [Option.isSome_some, b2_t] at j1'
                          refine ⟨F4, ?_, ⟨m_names_fr d2 j4 (by decide), j2, m_print_fr hpr3 j4 (by decide)⟩, j3, hfr4⟩
                          simp (disch := omega) only [↓fx_bm, a2.1, u_l3, u_l1, ↓cL_of hword2, ↓hc62, ↓cI_of c1', ↓cL_of hword3, ↓cI_of d1, ↓cI_of j1', ↓reduceIte, n_ltT, n_ltF, n_leT, n_leF, n_eqT, n_eqF, nI_1, u_lt, u_le, u_eq, u_add, u_ix, u_ixL, u_ixR, u_cl, u_nm1, u_nm1', u_m1l, u_m1n, u_l0, Option.bind_some, Option.map_some, not_true_eq_false, not_false_eq_true, true_and, and_true, Nat.add_sub_cancel, Bool.false_eq_true, u_nar2, b2_t]
                  · rw [if_pos (show W.length < 4 ∨ wd o W (W.length - 2) ≠ [62] from Or.inr t7)]
                    have hc62 : (lg_cmp (pk (wd o W (W.length - 2))) (62 : Int64) = 0) = False := (c_gt hok2).trans (eq_false t7)
                    refine ⟨F1, ?_, hm1, a3, hfr1'⟩
                    simp (disch := omega) only [↓fx_bm, a2.1, u_l3, ↓cL_of hword2, ↓hc62, ↓reduceIte, n_ltT, n_ltF, n_leT, n_leF, n_eqT, n_eqF, nI_1, u_lt, u_le, u_eq, u_add, u_ix, u_ixL, u_ixR, u_cl, u_nm1, u_nm1', u_m1l, u_m1n, u_l0, Option.bind_some, Option.map_some, not_true_eq_false, not_false_eq_true, true_and, and_true, Nat.add_sub_cancel, Bool.false_eq_true, u_nar2, b2_f]
              · rw [if_neg t6, if_neg t6]
                exact ⟨F1, rfl, hm1, a3, hfr1'⟩
end
