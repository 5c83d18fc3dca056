/-! the class: expanding -/
def cf (zi za zr zq : List Nat) (F F' : fx_F) : Prop := (∀ z, z ∉ zi → F'.1 z = F.1 z) ∧ (∀ o, o ∉ za → F'.2.1 o = F.2.1 o) ∧ F'.2.2.1 = F.2.2.1 ∧ (∀ z, z ∉ zr → F'.2.2.2.1 z = F.2.2.2.1 z) ∧ ∀ o, o ∉ zq → F'.2.2.2.2 o = F.2.2.2.2 o
theorem cf_refl (zi za zr zq : List Nat) (F : fx_F) : cf zi za zr zq F F := ⟨fun _ _ => rfl, fun _ _ => rfl, rfl, fun _ _ => rfl, fun _ _ => rfl⟩
theorem cf_trans {zi za zr zq : List Nat} {F G H : fx_F} (h1 : cf zi za zr zq F G) (h2 : cf zi za zr zq G H) : cf zi za zr zq F H := ⟨fun z h => (h2.1 z h).trans (h1.1 z h), fun z h => (h2.2.1 z h).trans (h1.2.1 z h), h2.2.2.1.trans h1.2.2.1, fun z h => (h2.2.2.2.1 z h).trans (h1.2.2.2.1 z h), fun z h => (h2.2.2.2.2 z h).trans (h1.2.2.2.2 z h)⟩
theorem cf_mono {zi za zr zq zi' za' zr' zq' : List Nat} {F G : fx_F} (h : cf zi za zr zq F G) (h1 : ∀ z, z ∈ zi → z ∈ zi') (h2 : ∀ z, z ∈ za → z ∈ za') (h3 : ∀ z, z ∈ zr → z ∈ zr') (h4 : ∀ z, z ∈ zq → z ∈ zq') : cf zi' za' zr' zq' F G := ⟨fun z q => h.1 z (fun r => q (h1 z r)), fun z q => h.2.1 z (fun r => q (h2 z r)), h.2.2.1, fun z q => h.2.2.2.1 z (fun r => q (h3 z r)), fun z q => h.2.2.2.2 z (fun r => q (h4 z r))⟩
theorem cf_fr {zi za : List Nat} {F G : fx_F} (h : fr zi za [] F G) : cf zi za [] [] F G := ⟨h.1, h.2.1, by funext o; exact h.2.2.1 o (fun h => by cases h), fun z _ => by rw [h.2.2.2], fun z _ => by rw [h.2.2.2]⟩
theorem cf_nch {F G : fx_F} (h : nch F G) : cf [301] [] [] [4] F G := ⟨fun z hz => h.1 z (fun e => hz (by rw [e]; exact List.mem_singleton.mpr rfl)), fun o _ => by rw [h.2.1], h.2.2.1, fun z _ => by rw [h.2.2.2.1], fun o ho => h.2.2.2.2 o (fun e => ho (by rw [e]; exact List.mem_singleton.mpr rfl))⟩
theorem cf_I {zi za zr zq : List Nat} {F G : fx_F} (h : cf zi za zr zq F G) {z : Nat} {x : Int32} (hz : z ∈ zi) : cf zi za zr zq F (fx_I G z x) := ⟨fun y hy => by
  rw [fx_I_1, if_neg (fun e => hy (by rw [e]; exact hz))]
  exact h.1 y hy, h.2.1, h.2.2.1, h.2.2.2.1, h.2.2.2.2⟩
theorem cf_A {zi za zr zq : List Nat} {F G : fx_F} (h : cf zi za zr zq F G) {z : Nat} {x : List Int32} (hz : z ∈ za) : cf zi za zr zq F (fx_A G z x) := ⟨h.1, fun y hy => by
  rw [fx_A_A, if_neg (fun e => hy (by rw [e]; exact hz))]
  exact h.2.1 y hy, h.2.2.1, h.2.2.2.1, h.2.2.2.2⟩
theorem cf_R {zi za zr zq : List Nat} {F G : fx_F} (h : cf zi za zr zq F G) {z : Nat} {x : Option Nat} (hz : z ∈ zr) : cf zi za zr zq F (fx_R G z x) := ⟨h.1, h.2.1, h.2.2.1, fun y hy => by
  rw [fx_R_R, if_neg (fun e => hy (by rw [e]; exact hz))]
  exact h.2.2.2.1 y hy, h.2.2.2.2⟩
theorem cf_Q {zi za zr zq : List Nat} {F G : fx_F} (h : cf zi za zr zq F G) {z : Nat} {x : List (Option Nat)} (hz : z ∈ zq) : cf zi za zr zq F (fx_Q G z x) := ⟨h.1, h.2.1, h.2.2.1, h.2.2.2.1, fun y hy => by
  rw [fx_Q_Q, if_neg (fun e => hy (by rw [e]; exact hz))]
  exact h.2.2.2.2 y hy⟩
theorem tw_cf {zi za zr zq : List Nat} {F F' : fx_F} {o : Nat} {l : List Nat} (h : tw F o l) (hf : cf zi za zr zq F F') (h1 : 100 * o + 1 ∉ zi) (h2 : o + 1 ∉ za) : tw F' o l := by
  unfold tw at *
  rw [hf.1 _ h1, hf.2.1 _ h2]
  exact h
section
variable {σ : rb_St} {b : Nat} {F : fx_F} {o : Nat}
theorem c_addPart8 (ho : tO o) (hb : rb_b σ ≤ b) {a : Nat} {s : List Nat} (hs : sx σ b a s) {Q : Nat} (hQ : s.length ≤ Q) (hQ2 : Q ≤ 1000) : ∀ (m i : Nat) (F : fx_F) (l : List Nat), i + m = s.length → fx_ln F → tw F o l → ∃ F', rb_it (fun z : (Int32 × rb_St) => f_Text_addPart_b7 (some (fx_ad b o)) (some a) (nI Q) (z.1) z.2) (nI i, fx_mk σ b F) = some (some (.int (nI (b2 (decide (l.length + m ≤ tcap o))))), fx_mk σ b F') ∧ tw F' o ((l ++ slc s i s.length).take (tcap o)) ∧ fx_ln F' ∧ fr [100 * o + 1] [o + 1] [] F F' := by
  have h400 := (tcap_le ho).1
  have hsl := hs.2.2
  obtain ⟨v, rest, k1, k2, k3, k4, k5, k6⟩ := hsl
  intro m
  induction m with
  | zero =>
    intro i F l hi hF h
    have hl := tw_len hF h
    have hz : slc s i s.length = [] := List.eq_nil_of_length_eq_zero (by rw [slc_len (Nat.le_refl _)]; omega)
    rw [hz, List.append_nil, List.take_of_length_le hl, Nat.add_zero, decide_eq_true hl]
    refine ⟨F, ?_, h, hF, fr_refl _ _ _ _⟩
    refine rb_it_r ?_
    show f_Text_addPart_b7 _ _ _ _ _ = _
    unfold f_Text_addPart_b7 f_Text_addPart_j67
    have hlen := c_len (F := F) hs
    have hfc := fo_fk (F := F) hs.1 k3
    by_cases eQ : Q ≤ i
    · simp (disch := omega) only [↓reduceIte, n_ltT, n_ltF, n_leT, n_leF, n_eqT, n_eqF, nI_1, u_lt, u_le, u_eq, u_add, u_ix, u_ixL, u_ixR, u_cl, u_nm1, u_nm1', u_m1l, u_m1n, u_l0, Option.bind_some, Option.map_some, not_true_eq_false, not_false_eq_true, true_and, and_true, Nat.add_sub_cancel, Bool.false_eq_true, u_nar2, b2_t, u_l1]
    · simp (disch := omega) only [hfc, ↓cI_of hlen, ↓reduceIte, n_ltT, n_ltF, n_leT, n_leF, n_eqT, n_eqF, nI_1, u_lt, u_le, u_eq, u_add, u_ix, u_ixL, u_ixR, u_cl, u_nm1, u_nm1', u_m1l, u_m1n, u_l0, Option.bind_some, Option.map_some, not_true_eq_false, not_false_eq_true, true_and, and_true, Nat.add_sub_cancel, Bool.false_eq_true, u_nar2, b2_t, u_l1]
  | succ m ih =>
    intro i F l hi hF h
    have hl := tw_len hF h
    have hrow : (F.2.1 (o + 1)).length = tcap o := hF.1 _
    have hlen := c_len (F := F) hs
    have hfc := fo_fk (F := F) hs.1 k3
    by_cases e : l.length = tcap o
    · rw [decide_eq_false (by omega), List.take_append, e, Nat.sub_self, List.take_zero, List.append_nil, List.take_of_length_le (by omega)]
      refine ⟨F, ?_, h, hF, fr_refl _ _ _ _⟩
      have h1 := h.1
      rw [e] at h1
      refine rb_it_r ?_
      show f_Text_addPart_b7 _ _ _ _ _ = _
      unfold f_Text_addPart_b7
      simp (disch := omega) only [hfc, ↓cI_of hlen, ↓t_b ho, h1, hrow, ↓reduceIte, n_ltT, n_ltF, n_leT, n_leF, n_eqT, n_eqF, nI_1, u_lt, u_le, u_eq, u_add, u_ix, u_ixL, u_ixR, u_cl, u_nm1, u_nm1', u_m1l, u_m1n, u_l0, Option.bind_some, Option.map_some, not_true_eq_false, not_false_eq_true, true_and, and_true, Nat.add_sub_cancel, Bool.false_eq_true, u_nar2, b2_f]
    · have hch := c_charAt (F := F) hs (i := i) (by omega)
      have hcc := k5 _ (getD_mem (d := 0) (show i < s.length by omega))
      generalize hF1 : fx_I (fx_A F (o + 1) ((F.2.1 (o + 1)).set l.length (nI (s.getD i 0)))) (100 * o + 1) (nI (l.length + 1)) = F1
      have hfr1 : fr [100 * o + 1] [o + 1] [] F F1 := by
        subst hF1
        exact fr_I (fr_A (fr_refl _ _ _ _) (List.mem_singleton.mpr rfl)) (List.mem_singleton.mpr rfl)
      have hln1 : fx_ln F1 := by
        subst hF1
        exact fx_lnI (fx_lnA hF (by rw [List.length_set]; exact hF.1 _))
      have h1 : tw F1 o (l ++ [s.getD i 0]) := by
        subst hF1
        refine ⟨by rw [fx_I_1, if_pos rfl, List.length_append, List.length_cons, List.length_nil], ?_⟩
        rw [fx_I_A, fx_A_A, if_pos rfl]
        exact rk_push h.2 (by omega) _
      obtain ⟨F', e1, e2, e3, e4⟩ := ih (i + 1) F1 (l ++ [s.getD i 0]) (by omega) hln1 h1
      have hsp : slc s i s.length = [s.getD i 0] ++ slc s (i + 1) s.length := by
        unfold slc
        rw [List.drop_eq_getElem_cons (show i < s.length by omega), show s.length - i = (s.length - (i + 1)) + 1 by omega, List.take_succ_cons, getD_get (show i < s.length by omega)]
        rfl
      rw [hsp, ← List.append_assoc]
      refine ⟨F', ?_, e2, e3, fr_trans hfr1 e4⟩
      rw [List.length_append, List.length_cons, List.length_nil, show l.length + (0 + 1) + m = l.length + (m + 1) by omega] at e1
      rw [← e1]
      refine rb_it_l ?_
      subst hF1
      show f_Text_addPart_b7 _ _ _ _ _ = _
      unfold f_Text_addPart_b7
      simp (disch := omega) only [hfc, ↓cI_of hlen, ↓t_b ho, ↓t_v ho hb, h.1, hrow, ↓cI_of hch, fx_A_1, u_nar1, ↓reduceIte, n_ltT, n_ltF, n_leT, n_leF, n_eqT, n_eqF, nI_1, u_lt, u_le, u_eq, u_add, u_ix, u_ixL, u_ixR, u_cl, u_nm1, u_nm1', u_m1l, u_m1n, u_l0, Option.bind_some, Option.map_some, not_true_eq_false, not_false_eq_true, true_and, and_true, Nat.add_sub_cancel, Bool.false_eq_true, u_nar2]
theorem c_addPart8F (ho : tO o) (hb : rb_b σ ≤ b) {a : Nat} {s : List Nat} (hs : sx σ b a s) {q : Nat} (hq : s.length ≤ q) (hq2 : q ≤ 1000) (hF : fx_ln F) {l : List Nat} (h : tw F o l) : ∃ F', f_Text_addPart (some (fx_ad b o)) (some a) (0 : Int32) (nI q) (fx_mk σ b F) = some (some (.int (nI (b2 (decide (l.length + s.length ≤ tcap o))))), fx_mk σ b F') ∧ tw F' o ((l ++ s).take (tcap o)) ∧ fx_ln F' ∧ fr [100 * o + 1] [o + 1] [] F F' := by
  obtain ⟨F', e1, e2⟩ := c_addPart8 (σ := σ) (b := b) ho hb hs hq hq2 s.length 0 F l (by omega) hF h
  rw [show slc s 0 s.length = s by simp [slc]] at e2
  refine ⟨F', ?_, e2⟩
  unfold f_Text_addPart
  rw [show rb_mx (0 : Int32) (0 : Int32) = nI 0 from rfl]
  exact e1
theorem c_fill (hb : rb_b σ ≤ b) : ∀ (m k : Nat) (F : fx_F), k + m = 156 → fx_ln F → ∃ F', rb_it (fun z : (Int32 × rb_St) => f_Arr_fill_b5 (some (fx_ad b 20)) (-1 : Int32) (z.1) (nI 156) z.2) (nI k, fx_mk σ b F) = some (none, fx_mk σ b F') ∧ fx_ln F' ∧ fr [] [20] [] F F' ∧ ∀ j, (F'.2.1 20)[j]? = if k ≤ j ∧ j < 156 then some (-1 : Int32) else (F.2.1 20)[j]? := by
  intro m
  induction m with
  | zero =>
    intro k F hk hF
    refine ⟨F, rb_it_r ?_, hF, fr_refl _ _ _ _, fun j => by rw [if_neg (by omega)]⟩
    show f_Arr_fill_b5 _ _ _ _ _ = _
    unfold f_Arr_fill_b5
    rw [if_pos (nI_le (by omega) (by omega))]
    rfl
  | succ m ih =>
    intro k F hk hF
    have hl := hF.1 20
    simp only [fx_cI] at hl
    have hF1 : fx_ln (fx_A F 20 ((F.2.1 20).set k (-1))) := fx_lnA hF (by rw [List.length_set]; exact hF.1 _)
    obtain ⟨F', e1, e2, e3, e4⟩ := ih (k + 1) (fx_A F 20 ((F.2.1 20).set k (-1))) (by omega) hF1
    refine ⟨F', ?_, e2, fr_trans (fr_A (fr_refl _ _ _ _) (by decide)) e3, fun j => ?_⟩
    · rw [← e1]
      refine rb_it_l ?_
      show f_Arr_fill_b5 _ _ _ _ _ = _
      unfold f_Arr_fill_b5
      rw [if_neg (show ¬ nI 156 ≤ nI k by rw [u_le (by omega) (by omega)]; omega)]
      simp (disch := omega) only [↓fx_vc hb, u_l0, u_lt, n_ltF, u_cl, not_false_eq_true, true_and, hl, if_pos, show k < 156 by omega, u_nar2]
      rw [show nI k + 1 = nI (k + 1) by rw [u_l1, u_add]]
      rfl
    · rw [e4, fx_A_A, if_pos rfl, set_get (by omega)]
      by_cases h1 : k + 1 ≤ j ∧ j < 156
      · rw [if_pos h1, if_pos (by omega)]
      · rw [if_neg h1]
        by_cases h2 : j = k
        · rw [if_pos h2, if_pos (by omega)]
        · rw [if_neg h2, if_neg (by omega)]
theorem c_expand (hb : rb_b σ ≤ b) (hk : kx σ b) {A : Nat → Option (List Nat)} {gv df : Nat → Option (List Nat)} (hA : aok A) (hV : vok (vl gv df)) (hvl : ∀ m, (vl gv df m).length ≤ 320) (hg : vx σ b F 18 gv) (hd : vx σ b F 19 df) (hF : fx_ln F) (hlg : lg F) {r : Option Nat} (hU : ∀ F', cf zX zY [1306] [] F F' → F'.2.2.2.1 1306 = r → AU σ b A (vl gv df) F') {a : Nat} {s : List Nat} (hs : sx σ b a s) (hts : tk s) (hsl : s.length ≤ 320) : ∃ F', f_Exp_expand (some (fx_ad b 13)) (some a) r (fx_mk σ b F) = some (some (.int (nI (b2 (xr A (vl gv df) s).isSome))), fx_mk σ b F') ∧ fx_ln F' ∧ cf zX zY [1306] [] F F' ∧ lg F' ∧ ∀ t, xr A (vl gv df) s = some t → tw F' 14 t ∧ tk t := by
  have ho : tO 14 := Or.inr (Or.inl rfl)
  obtain ⟨F1, a1, a2, a3, a4⟩ := c_clear (σ := σ) (F := fx_R F 1306 r) ho hb (fx_lnR hF)
  obtain ⟨F2, f1, f2, f3, f4⟩ := c_fill (σ := σ) hb 156 0 F1 rfl a3
  have hcf2 : cf zX zY [1306] [] F F2 := cf_trans (cf_R (cf_refl _ _ _ _ _) (by decide)) (cf_trans (cf_mono (cf_fr a4) (by decide) (by decide) (by decide) (by decide)) (cf_mono (cf_fr f3) (by decide) (by decide) (by decide) (by decide)))
  have hR2 : F2.2.2.2.1 1306 = r := by
    rw [f3.2.2.2, a4.2.2.2]
    rw [fx_R_R, if_pos rfl]
  obtain ⟨L, g1, g2⟩ := hlg
  have hL2 : F2.1 1305 = nI L := by
    rw [f3.1 1305 (by decide), a4.1 1305 (by decide)]
    exact g2
  have hX : xst F2 A (vl gv df) [] L := by
    refine ⟨f2, tw_fr a2 f3 (by decide) (by decide), hL2, by simp, g1, fun lv m h1 h2 => Or.inl ?_, fun c hc => by cases hc⟩
    rw [f4, if_pos (by omega)]
  have hg2 : vx σ b F2 18 gv := vx_hx hg (hx_refl _) (hcf2.2.2.2.2 18 (by decide))
  have hd2 : vx σ b F2 19 df := vx_hx hd (hx_refl _) (hcf2.2.2.2.2 19 (by decide))
  obtain ⟨F3, t1, t2⟩ := c_textN hb hk hA hV hvl 8 0 (by decide) (by decide) F2 [] L a s (hU F2 hcf2 hR2) hg2 hd2 hX hs hts hsl
  have hcf3 : cf zX zY [1306] [] F2 F3 := cf_mono (cf_fr t2.1) (by decide) (by decide) (by decide) (by decide)
  have hxr : xgood [] (xe A (vl gv df) (6 - 0) s) = (xr A (vl gv df) s).isSome := by
    unfold xr
    show xgood [] (xe A (vl gv df) 6 s) = _
    cases xe A (vl gv df) 6 s with
    | none => rfl
    | some e =>
      show decide ([].length + e.2 ≤ 120) = (if e.2 ≤ 120 then some e.1 else none).isSome
      by_cases h : e.2 ≤ 120
      · rw [if_pos h]
        exact decide_eq_true (by simpa using h)
      · rw [if_neg h]
        exact decide_eq_false (by simpa using h)
  rw [hxr] at t1
  refine ⟨F3, ?_, t2.2.1, cf_trans hcf2 hcf3, t2.2.2.2, fun t ht => ?_⟩
  · unfold f_Exp_expand
    have hl1 := a3.1 20
    simp only [fx_cI] at hl1
    have hfill : f_Arr_fill (some (fx_ad b 20)) (-1 : Int32) (fx_mk σ b F1) = some (none, fx_mk σ b F2) := by
      unfold f_Arr_fill
      simp only [↓fx_bc, hl1]
      exact f1
    have t1' : f_Exp_expandText (some (fx_ad b 13)) (some a) (0 : Int32) (fx_mk σ b F2) = _ := t1
    simp only [↓fx_vc hb, ↓fx_bc, ↓(show ∀ (G : fx_F) {β : Type} (f : List Value → Option β), (rb_fc (fx_mk σ b G) (some (fx_ad b 14)) 2).bind f = f (fx_row b G 14) from fun G => (t_b ho).1), ↓cV_of a1, ↓cV_of hfill, ↓cI_of t1']
    rw [if_pos (isZ_b2 _)]
  · unfold xr at ht
    cases hxe : xe A (vl gv df) 6 s with
    | none => rw [hxe] at ht; cases ht
    | some e =>
      rw [hxe] at ht
      have ht' : (if e.2 ≤ 120 then some e.1 else none) = some t := ht
      by_cases h : e.2 ≤ 120
      · rw [if_pos h] at ht'
        injection ht' with ht'
        subst ht'
        have := t2.2.2.1 e hxe (by simpa using h)
        exact ⟨this.2.1, this.2.2.2.2.2.2⟩
      · rw [if_neg h] at ht'
        cases ht'
end
