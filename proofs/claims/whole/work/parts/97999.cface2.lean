/-! the class: its face, the rest -/
section
variable {σ : rb_St} {b : Nat} {F : fx_F} {X : XS}
/-- a name is met by the draft -/
theorem CRx_meet {ad : Nat → Nat} {I : Nat → Nat → Int32} {src : Nat → Option Nat} (h : CRx σ b F X ad I src) (hok : xok X) : ∃ σ' F' ad' I' src', f_Store_meet (some (fx_ad b 3)) (some (fx_ad b 1)) (0 : Int32) (nI (xD X).length) (fx_mk σ b F) = some (some (va_rf ((nmeet (rN (xR X)) (xD X)).1.map ad')), fx_mk σ' b F') ∧ CRx σ' b F' (xD X, X.2.1, xV X, wN (xR X) (nmeet (rN (xR X)) (xD X)).2, X.2.2.2.2) ad' I' src' ∧ hx σ σ' ∧ gw 128 1280 σ σ' ∧ cF F F' := by
  obtain ⟨c1, c2, c3, c4, c5, c6, c7, c8, c9, c10, c11⟩ := h
  have hN := hok.2.2.2.2.1.1.1
  have hc : ∀ c, c ∈ xD X → c < 128 := fun c hc => ((tk_ok hok.2.1) c hc).2
  obtain ⟨σ1, F1, ad1, I1, src1, a1, a2, a3, a4, a5, a6, a7⟩ := c_meet (F := F) hN c2 c1 c5.1 tO1 c4 hc (p := 0) (q := (xD X).length) (Nat.zero_le _) (Nat.le_refl _)
  rw [slc_all] at a1 a2 a3 a5
  have hN' := nmeet_ok hN (xD X)
  have hcf := cf_nch a6
  have hcf2 : cf [301] [] [] [4, 24] F F1 := cf_mono hcf (by decide) (by decide) (by decide) (by decide)
  refine ⟨σ1, F1, ad1, I1, src1, a1, ⟨kx_hx c1 a4.1, a7, lg_cf c3 hcf (by decide), tw_cf c4 hcf (by decide) (by decide), cps_nxt c5 a2 a3 hcf (by decide) (by decide) (by decide), cr_meet c6 hok.2.2.2.2.1 a3 a4.1 hcf2, c7, vx_hx c8 a4.1 (hcf.2.2.2.2 18 (by decide)), by rw [hcf.1 3107 (by decide)]; exact c9, fun k hk => ?_, fun k hk => c11 k (Nat.le_trans a3.1 hk)⟩, a4.1, gn_32 a5 hN', cF_cf hcf (by decide) (by decide)⟩
  by_cases e : k < (rN (xR X)).length
  · rw [(a3.2.1 k e).2.2.1]
    exact c10 k e
  · rw [(a3.2.2 k (by omega) hk).1]
    refine ⟨?_, rfl⟩
    show nI0 k 10 = nI (xG X k)
    rw [c11 k (by omega)]
    rfl
theorem r_edit (h : CR σ b F X) (hx : xok X) (c : Int32) : ∃ σ' F', f_RB_edit (some (fx_ad b 0)) c (fx_mk σ b F) = some (some (.int (c_edit c X).1), fx_mk σ' b F') ∧ fres σ b F 128 1280 (c_edit c X).2 σ' F' := by
  obtain ⟨ad, I, src, h0⟩ := h
  have hlen := c_tlen (σ := σ) (b := b) tO1 h0.2.2.2.1
  obtain ⟨σ1, F1, ad1, I1, src1, a1, a2, a3, a4, a5⟩ := CRx_meet h0 hx
  have hlt := @nmeet_lt (rN (xR X)) (xD X)
  unfold c_edit
  rcases hm : nmeet (rN (xR X)) (xD X) with ⟨r, N⟩
  rw [hm] at a1 a2 hlt
  cases r with
  | none =>
    refine ⟨σ1, F1, ?_, ⟨ad1, I1, src1, a2⟩, a3, a4, a5⟩
    unfold f_RB_edit
    simp only [↓fx_bc, ↓fc1, ↓cI_of hlen, ↓cR_of a1]
    rw [if_pos (show (none : Option Nat).map ad1 = none from rfl)]
  | some k =>
    have hk : k < N.length := hlt rfl
    obtain ⟨c1, c2, c3, c4, c5, c6, c7, c8, c9, c10, c11⟩ := a2
    obtain ⟨σ2, d1, d2, d3, d4⟩ := cps_write c1.1 c5 (k := k) hk c
    have hcf : cf [302] [] [] [] F1 (fx_I F1 302 (nI (xC X + 1))) := cf_I (cf_refl _ _ _ _ _) (by decide)
    have hI : ∀ j f, f ≠ 2 → f ≠ 3 → up2 (up2 I1 k 2 (nI (xC X + 1))) k 3 c j f = I1 j f := fun j f h2 h3 => by
      rw [up2_ne (fun hc => h3 hc.2), up2_ne (fun hc => h2 hc.2)]
    obtain ⟨r1, r2, r3, r4, r5, r6, r7⟩ := cr_hx c6 d3 hcf (by decide) (by decide) (by decide) (by decide)
    have hcr : CRx σ2 b (fx_I F1 302 (nI (xC X + 1))) (xD X, (up1 (xF X) k (xC X + 1, c), xC X + 1), xV X, wN (xR X) N, X.2.2.2.2) ad1 (up2 (up2 I1 k 2 (nI (xC X + 1))) k 3 c) src1 := ⟨kx_hx c1 d3, fx_lnI c2, lg_cf c3 hcf (by decide), tw_cf c4 hcf (by decide) (by decide), d2, ⟨r1, r2, r3, r4, r5, fun j hj => by rw [hI j 4 (by decide) (by decide), hI j 5 (by decide) (by decide), hI j 6 (by decide) (by decide), hI j 7 (by decide) (by decide), hI j 9 (by decide) (by decide)]; exact r6 j hj, r7⟩, c7, vx_hx c8 d3 rfl, by rw [hcf.1 3107 (by decide)]; exact c9, fun j hj => by rw [hI j 10 (by decide) (by decide), hI j 11 (by decide) (by decide)]; exact c10 j hj, c11⟩
    obtain ⟨F3, g1, g2, g3⟩ := c_clear1 hcr
    have g0 : rb_gI (fx_mk σ2 b F3) (some (ad1 k)) 12 0 = some (nI k) := by
      have hnx3 := g2.2.2.2.2.1.1
      rw [n_gI hnx3 hk (f := 0) ⟨by decide, by decide, by decide⟩, (hnx3.2.1 k hk).2.2.2.2.1]
    refine ⟨σ2, F3, ?_, ⟨ad1, _, src1, g2⟩, hx_trans a3 d3, gw_mono (gw_trans a4 d4) (by decide) (by decide), cF_trans a5 (cF_trans (cF_cf hcf (by decide) (by decide)) g3)⟩
    unfold f_RB_edit
    simp only [↓fx_bc, ↓fc1, ↓cI_of hlen, ↓cR_of a1]
    rw [if_neg (show ¬ ((some k).map ad1 = none) from fun h => by cases h)]
    simp only [Option.map_some, ↓fx_bc, ↓cV_of d1, ↓fc1, ↓cV_of g1, g0, Option.bind_some]
theorem r_erase (h : CR σ b F X) (hx : xok X) (hC : xC X < 2147483648) : ∃ σ' F', f_RB_erase (some (fx_ad b 0)) (fx_mk σ b F) = some (some (.int (c_erase X).1), fx_mk σ' b F') ∧ fres σ b F 0 0 (c_erase X).2 σ' F' := by
  obtain ⟨ad, I, src, h0⟩ := h
  have h1 := h0
  obtain ⟨c1, c2, c3, c4, c5, c6, c7, c8, c9, c10, c11⟩ := h1
  have hN := hx.2.2.2.2.1.1.1
  have hc6 : ∀ c, c ∈ xD X → c < 65536 := fun c h => Nat.lt_trans ((tk_ok hx.2.1) c h).2 (by decide)
  have hlen := c_tlen (σ := σ) (b := b) tO1 c4
  have hfd := c_find (F := F) hN c2 c5.1 tO1 c4 hc6 (p := 0) (q := (xD X).length) (Nat.zero_le _) (Nat.le_refl _)
  rw [slc_all] at hfd
  have hfd' : f_Store_find (some (fx_ad b 3)) (some (fx_ad b 1)) (0 : Int32) (nI (xD X).length) (fx_mk σ b F) = _ := hfd
  have hstay : fres σ b F 0 0 X σ F := ⟨⟨ad, I, src, h0⟩, hx_refl _, gw_refl _, cF_refl _⟩
  unfold c_erase
  cases hn : nf (rN (xR X)) (xD X) with
  | none =>
    rw [hn] at hfd'
    refine ⟨σ, F, ?_, hstay⟩
    unfold f_RB_erase
    simp only [↓fx_bc, ↓fc1, ↓cI_of hlen, ↓cR_of hfd']
    rw [if_pos (show (none : Option Nat).map ad = none from rfl)]
    rfl
  | some k =>
    rw [hn] at hfd'
    have hk : k < (rN (xR X)).length := nf_lt hn
    have hif := cps_isFile c5 hC hk
    obtain ⟨v, hv⟩ := n_fc c5.1 hk
    have hpre : f_RB_erase (some (fx_ad b 0)) (fx_mk σ b F) = if nI (b2 (decide (¬ (xF X k).1 = 0))) = 0 then (some (some (Value.int (0 : Int32)), fx_mk σ b F)) else (rb_cV (f_Name_remove (some (ad k)) (fx_mk σ b F)) fun σ_10 => (rb_gR σ_10 (some (fx_ad b 0)) 1 0).bind fun r_11 => (rb_fc σ_10 r_11 2).bind fun _ => rb_cV (f_Text_clear (r_11)  σ_10) fun σ_12 => some (some (Value.int (1 : Int32)), σ_12)) := by
      unfold f_RB_erase
      simp only [↓fx_bc, ↓fc1, ↓cI_of hlen, ↓cR_of hfd']
      rw [if_neg (show ¬ ((some k).map ad = none) from fun h => by cases h)]
      simp only [Option.map_some, hv, Option.bind_some, ↓cI_of hif]
    rw [hpre]
    simp only
    by_cases e : (xF X k).1 = 0
    · rw [if_pos e, decide_eq_false (fun h => h e), if_pos (show nI (b2 false) = 0 from rfl)]
      exact ⟨σ, F, rfl, hstay⟩
    · rw [if_neg e, decide_eq_true e, if_neg (show ¬ nI (b2 true) = 0 by decide)]
      obtain ⟨σ2, d1, d2, d3, d4⟩ := cps_remove c5 (k := k) hk
      have hI : ∀ j f, f ≠ 2 → f ≠ 3 → up2 (up2 I k 2 0) k 3 0 j f = I j f := fun j f h2 h3 => by
        rw [up2_ne (fun hc => h3 hc.2), up2_ne (fun hc => h2 hc.2)]
      obtain ⟨r1, r2, r3, r4, r5, r6, r7⟩ := cr_hx c6 d3 (cf_refl [] [] [] [] _) (by decide) (by decide) (by decide) (by decide)
      have hcr : CRx σ2 b F (xD X, (up1 (xF X) k (0, 0), xC X), X.2.2) ad (up2 (up2 I k 2 0) k 3 0) src := ⟨kx_hx c1 d3, c2, c3, c4, d2, ⟨r1, r2, r3, r4, r5, fun j hj => by rw [hI j 4 (by decide) (by decide), hI j 5 (by decide) (by decide), hI j 6 (by decide) (by decide), hI j 7 (by decide) (by decide), hI j 9 (by decide) (by decide)]; exact r6 j hj, r7⟩, c7, vx_hx c8 d3 rfl, c9, fun j hj => by rw [hI j 10 (by decide) (by decide), hI j 11 (by decide) (by decide)]; exact c10 j hj, c11⟩
      obtain ⟨F3, g1, g2, g3⟩ := c_clear1 hcr
      refine ⟨σ2, F3, ?_, ⟨ad, _, src, g2⟩, d3, d4, g3⟩
      simp only [↓cV_of d1, ↓fx_bc, ↓fc1, ↓cV_of g1]
      rfl
/-- a build, once the goal is known -/
theorem c_bGo {ad : Nat → Nat} {I : Nat → Nat → Int32} {src : Nat → Option Nat} {N : List (List Nat)} (h : CRx σ b F (xD X, X.2.1, xV X, wN (xR X) N, X.2.2.2.2) ad I src) (hx : xok X) (hck : xC X + 57632 ≤ 2000000000) {w : Nat} (hw : w < 64) (hN : nok N) (hNl : (rN (xR X)).length ≤ N.length) {t : Nat} (ht : t < N.length) : ∃ σ' F', f_RB_build_j51 (some (fx_ad b 0)) (nI w) (some (ad t)) (fx_mk σ b F) = some (some (.int (if bG (x_run w t N X) t = 3 then nI 2 else if op w 8 = true ∧ (x_run w t N X).2.2.1 = true then nI 1 else nI 0)), fx_mk σ' b F') ∧ fres σ b F 128 1280 ([], (pF (x_run w t N X).1, pC (x_run w t N X).1), xV X, wN (xR X) (pN (x_run w t N X).1), bG (x_run w t N X), pP (x_run w t N X).1, (x_run w t N X).2.1) σ' F' := by
  obtain ⟨F1, g1, g2, g3⟩ := c_clear1 h
  obtain ⟨c1, c2, c3, c4, c5, c6, c7, c8, c9, c10, c11⟩ := g2
  have hb := c1.1
  obtain ⟨x1, x2, x3, x4, x5, x6, x7⟩ := hx
  -- begin
  generalize hF2 : fx_I (fx_I (fx_I F1 3105 (nI w)) 3106 0) 3107 0 = F2
  have hcf2 : cf [3105, 3106, 3107] [] [] [] F1 F2 := by
    subst hF2
    exact cf_I (cf_I (cf_I (cf_refl _ _ _ _ _) (by decide)) (by decide)) (by decide)
  have hln2 : fx_ln F2 := by
    subst hF2
    exact fx_lnI (fx_lnI (fx_lnI c2))
  obtain ⟨F3, e1, e2, e3, e4⟩ := c_clear (σ := σ) (b := b) (F := F2) tO26 hb hln2
  have hcf3 : cf [2601, 3105, 3106, 3107] [27] [] [] F1 F3 := cf_trans (cf_mono hcf2 (by decide) (by decide) (by decide) (by decide)) (cf_mono (cf_fr e4) (by decide) (by decide) (by decide) (by decide))
  have hnx3 : nx σ b F3 N ad I src := nx_cf c5.1 hcf3 (by decide) (by decide)
  obtain ⟨σ4, I4, p1, p2, p3, p4, p5⟩ := c_forgetFates hN hnx3
  have hbeg : f_Bld_begin (some (fx_ad b 31)) (nI w) (fx_mk σ b F1) = some (none, fx_mk σ4 b F3) := by
    subst hF2
    unfold f_Bld_begin
    simp only [↓fx_bc, ↓fx_vc hb]
    rw [if_pos (Or.inl trivial)]
    simp only [↓fx_bc, ↓fc26, ↓cV_of e1, ↓cV_of p1]
  have hI4 : ∀ k, k < N.length → ∀ f, f ≠ 10 → I4 k f = I k f := fun k hk f hf => by rw [p5 k hk, up1_ne hf]
  have hcps4 : cps σ4 b F3 (N, xF X, xC X, []) ad I4 src := ⟨p2, by rw [hcf3.1 302 (by decide)]; exact c5.2.1, fun k hk => by rw [hI4 k hk 2 (by decide), hI4 k hk 3 (by decide)]; exact c5.2.2.1 k hk, c5.2.2.2.1, e2, c5.2.2.2.2.2⟩
  obtain ⟨r1, r2, r3, r4, r5, r6, r7⟩ := cr_hx c6 p3 hcf3 (by decide) (by decide) (by decide) (by decide)
  have hbst : bst σ4 b F3 (xR X) (xV X) w [] ((N, xF X, xC X, []), 0, false, fun _ => 0) ad I4 src := by
    refine ⟨⟨kx_hx c1 p3, e3, lg_cf c3 hcf3 (by decide), hcps4, hN, ⟨r1, r2, r3, r4, r5, fun k hk => ?_, r7⟩, vx_hx c8 p3 (hcf3.2.2.2.2 18 (by decide)), ?_, ?_⟩, ?_, fun k hk => ⟨?_, ?_⟩, fun _ _ => rfl⟩
    · rw [hI4 k hk 4 (by decide), hI4 k hk 5 (by decide), hI4 k hk 6 (by decide), hI4 k hk 7 (by decide), hI4 k hk 9 (by decide)]
      exact r6 k hk
    · rw [e4.1 3105 (by decide)]
      subst hF2
      rfl
    · rw [e4.1 3107 (by decide)]
      subst hF2
      rfl
    · rw [e4.1 3106 (by decide)]
      subst hF2
      rfl
    · rw [p5 k hk, up1_eq]
      rfl
    · rw [hI4 k hk 11 (by decide), (c10 k hk).2]
      rfl
  have hS : bok (xR X) ((N, xF X, xC X, []), 0, false, fun _ => 0) := by
    refine ⟨⟨hN, Nat.zero_le _⟩, x3, ?_, fun j => Nat.zero_le _, hNl⟩
    show xC X + 1801 * muN (fun _ => 0) 32 ≤ _
    rw [muN_0]
    omega
  have hgv : ∀ m v, xV X m = some v → tk v ∧ v.length ≤ 320 := fun m v hv => ⟨(x4 m v hv).2, Nat.le_trans (x4 m v hv).1 (by decide)⟩
  obtain ⟨σ5, F5, q1, ad5, I5, src5, q2, q3, q4, q5, q6⟩ := c_call (b := b) (gv := xV X) x5 c7 hgv hw 6 33 [] (by simp) t σ4 F3 ((N, xF X, xC X, []), 0, false, fun _ => 0) ad I4 src ht ⟨List.nodup_nil, fun j hj => (by cases hj)⟩ hS hbst
  have hcall : x_call (x_upd (xR X) (xV X) w 33 []) [] t ((N, xF X, xC X, []), 0, false, fun _ => 0) = (decide (¬ bG (x_run w t N X) t = 3), x_run w t N X) := if_pos ⟨rfl, fun h => by cases h⟩
  rw [hcall] at q1 q2 q3 q5
  have hN5 := q2.1.2.2.2.2.1
  simp only at q1 q2 q3 q5 hN5
  generalize x_run w t N X = S' at q1 q2 q3 q5 hN5 ⊢
  obtain ⟨⟨s1, s2, s3, s4, s5, s6, s7, s8, s9⟩, s10, s11, s12⟩ := q2
  have q1' : f_Bld_update (some (fx_ad b 31)) (some (ad t)) (0 : Int32) (fx_mk σ4 b F3) = some (some (.int (nI (b2 (decide (¬ bG S' t = 3))))), fx_mk σ5 b F5) := q1
  have h8 : f_Bld_has (some (fx_ad b 31)) (8 : Int32) (fx_mk σ5 b F5) = _ := c_has (σ := σ5) (b := b) s8 hw (i := 8) (by decide)
  refine ⟨σ5, F5, ?_, ⟨ad5, I5, src5, s1, s2, s3, tw_cf (tw_cf c4 hcf3 (by decide) (by decide)) q6 (by decide) (by decide), s4, s6, c7, s7, s9, fun k hk => ⟨(s11 k hk).1, (s11 k hk).2⟩, s12⟩, hx_trans p3 q4, ?_, ?_⟩
  · unfold f_RB_build_j51
    rw [if_neg (show ¬ (some (ad t) = none) from fun h => by cases h)]
    simp only [↓fx_bc, ↓fc1, ↓cV_of g1, ↓cV_of hbeg, ↓cI_of q1']
    by_cases e3' : bG S' t = 3
    · rw [if_pos e3', decide_eq_false (fun h => h e3'), if_pos (show nI (b2 false) = 0 from rfl)]
      rfl
    · rw [if_neg e3', decide_eq_true e3', if_neg (show ¬ nI (b2 true) = 0 by decide)]
      unfold f_Bld_answerOfSuccess
      simp only [↓fx_bc, ↓cI_of h8, s10]
      cases op w 8 <;> cases S'.2.2.1 <;> rfl
  · have hg5 := gn_32 q5 hN5
    exact gw_mono (gw_trans p4 hg5) (by decide) (by decide)
  · exact cF_trans g3 (cF_trans (cF_cf hcf3 (by decide) (by decide)) (cF_cf q6 (by decide) (by decide)))
theorem r_build (h : CR σ b F X) (hx : xok X) (hck : xC X + 57632 ≤ 2000000000) (w : Int32) : ∃ σ' F', f_RB_build (some (fx_ad b 0)) w (fx_mk σ b F) = some (some (.int (c_build w X).1), fx_mk σ' b F') ∧ fres σ b F 256 2560 (c_build w X).2 σ' F' := by
  obtain ⟨ad, I, src, h0⟩ := h
  have hstay : fres σ b F 256 2560 X σ F := ⟨⟨ad, I, src, h0⟩, hx_refl _, gw_mono (gw_refl _) (by decide) (by decide), cF_refl _⟩
  unfold c_build f_RB_build
  by_cases w0 : w < 0
  · rw [if_pos w0, if_pos w0]
    exact ⟨σ, F, rfl, hstay⟩
  · rw [if_neg w0, if_neg w0]
    by_cases w63 : w ≤ 63
    · rw [if_pos w63, if_neg (show ¬ ¬ w ≤ 63 from fun h => h w63)]
      obtain ⟨e, hlt⟩ := i_nn w0
      have hw : w.toNatClampNeg < 64 := by
        rw [e, show (63 : Int32) = nI 63 from rfl, u_le hlt (by omega)] at w63
        omega
      generalize w.toNatClampNeg = n at e hw ⊢
      subst e
      have hN := hx.2.2.2.2.1.1.1
      have hlen := c_tlen (σ := σ) (b := b) tO1 h0.2.2.2.1
      have hdl := hx.1
      unfold x_goal
      by_cases hd : xD X = []
      · rw [if_pos hd]
        have h512 : F.2.2.2.1 512 = (rOp (xR X) 1).map ad := h0.2.2.2.2.2.1.2.2.2.2.1.2.1
        have hl0 : (xD X).length = 0 := by rw [hd]; rfl
        have hpre : ((rb_gR (fx_mk σ b F) (some (fx_ad b 0)) 1 0).bind fun r_1 => (rb_fc (fx_mk σ b F) r_1 2).bind fun _ => rb_cI (f_Text_length (r_1)  (fx_mk σ b F)) fun x_2 σ_3 => if x_2 = 0 then ((rb_gR σ_3 (some (fx_ad b 0)) 1 2).bind fun r_4 => (rb_gR σ_3 r_4 4 12).bind fun r_5 => f_RB_build_j51 (some (fx_ad b 0)) (nI n) (r_5) σ_3) else ((rb_gR σ_3 (some (fx_ad b 0)) 1 1).bind fun r_16 => (rb_gR σ_3 (some (fx_ad b 0)) 1 0).bind fun r_17 => (rb_gR σ_3 (some (fx_ad b 0)) 1 0).bind fun r_18 => (rb_fc σ_3 r_18 2).bind fun _ => rb_cI (f_Text_length (r_18)  σ_3) fun x_19 σ_20 => (rb_fc σ_20 r_16 3).bind fun _ => rb_cR (f_Store_meet (r_16) (r_17) ((0 : Int32)) (x_19) σ_20) fun r_21 σ_22 => f_RB_build_j51 (some (fx_ad b 0)) (nI n) (r_21) σ_22)) = f_RB_build_j51 (some (fx_ad b 0)) (nI n) ((rOp (xR X) 1).map ad) (fx_mk σ b F) := by
          simp only [↓fx_bc, ↓fc1, ↓cI_of hlen]
          rw [if_pos (show nI (xD X).length = 0 by rw [hl0]; rfl), h512]
        rw [hpre]
        cases ho : rOp (xR X) 1 with
        | none =>
          refine ⟨σ, F, ?_, hstay⟩
          unfold f_RB_build_j51
          rw [if_pos (show (none : Option Nat).map ad = none from rfl)]
        | some t =>
          have htl := hx.2.2.2.2.1.1.2.2.2.2.2.2.1 t ho
          obtain ⟨σ2, F2, a1, a2, a3, a4, a5⟩ := c_bGo (X := X) (N := rN (xR X)) h0 hx hck hw hN (Nat.le_refl _) htl
          exact ⟨σ2, F2, a1, a2, a3, gw_mono a4 (by decide) (by decide), a5⟩
      · rw [if_neg hd]
        have hdl0 : ¬ (xD X).length = 0 := fun h => hd (List.eq_nil_of_length_eq_zero h)
        obtain ⟨σ1, F1, ad1, I1, src1, a1, a2, a3, a4, a5⟩ := CRx_meet h0 hx
        have hN' := nmeet_ok hN (xD X)
        have hNl := nmeet_len (rN (xR X)) (xD X)
        have hltm := @nmeet_lt (rN (xR X)) (xD X)
        rcases hm : nmeet (rN (xR X)) (xD X) with ⟨r, N⟩
        rw [hm] at a1 a2 hN' hNl hltm
        have hpre : ((rb_gR (fx_mk σ b F) (some (fx_ad b 0)) 1 0).bind fun r_1 => (rb_fc (fx_mk σ b F) r_1 2).bind fun _ => rb_cI (f_Text_length (r_1)  (fx_mk σ b F)) fun x_2 σ_3 => if x_2 = 0 then ((rb_gR σ_3 (some (fx_ad b 0)) 1 2).bind fun r_4 => (rb_gR σ_3 r_4 4 12).bind fun r_5 => f_RB_build_j51 (some (fx_ad b 0)) (nI n) (r_5) σ_3) else ((rb_gR σ_3 (some (fx_ad b 0)) 1 1).bind fun r_16 => (rb_gR σ_3 (some (fx_ad b 0)) 1 0).bind fun r_17 => (rb_gR σ_3 (some (fx_ad b 0)) 1 0).bind fun r_18 => (rb_fc σ_3 r_18 2).bind fun _ => rb_cI (f_Text_length (r_18)  σ_3) fun x_19 σ_20 => (rb_fc σ_20 r_16 3).bind fun _ => rb_cR (f_Store_meet (r_16) (r_17) ((0 : Int32)) (x_19) σ_20) fun r_21 σ_22 => f_RB_build_j51 (some (fx_ad b 0)) (nI n) (r_21) σ_22)) = f_RB_build_j51 (some (fx_ad b 0)) (nI n) (r.map ad1) (fx_mk σ1 b F1) := by
          simp only [↓fx_bc, ↓fc1, ↓cI_of hlen]
          rw [if_neg (show ¬ nI (xD X).length = 0 by rw [u_l0, u_eq (by omega) (by omega)]; exact hdl0)]
          simp only [↓fx_bc, ↓fc1, ↓cI_of hlen, ↓cR_of a1]
        rw [hpre]
        cases r with
        | none =>
          refine ⟨σ1, F1, ?_, ⟨ad1, I1, src1, a2⟩, a3, gw_mono a4 (by decide) (by decide), a5⟩
          unfold f_RB_build_j51
          rw [if_pos (show (none : Option Nat).map ad1 = none from rfl)]
        | some t =>
          obtain ⟨σ2, F2, d1, d2, d3, d4, d5⟩ := c_bGo (X := X) (N := N) a2 hx hck hw hN' hNl (hltm rfl)
          exact ⟨σ2, F2, d1, d2, hx_trans a3 d3, gw_mono (gw_trans a4 d4) (by decide) (by decide), cF_trans a5 d5⟩
    · rw [if_neg w63, if_pos w63]
      exact ⟨σ, F, rfl, hstay⟩
end
