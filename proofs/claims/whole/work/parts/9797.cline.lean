/-! the class: a line -/
section
variable {σ : rb_St} {b : Nat} {F : fx_F}
theorem c_isDef {o : Nat} (ho : tO o) (hF : fx_ln F) {l : List Nat} (h : tw F o l) (hc : ∀ c, c ∈ l → c < 65536) (hl : l.length ≤ 2000) {p e : Nat} (hpe : p ≤ e) (he : e ≤ l.length) : f_Exp_isDefinition (some (fx_ad b o)) (nI p) (nI e) (fx_mk σ b F) = some (some (.int (nI (b2 (decide (cap (l.getD p 0) = true ∧ p + 1 < e ∧ l.getD (p + 1) 0 = 61))))), fx_mk σ b F) := by
  unfold f_Exp_isDefinition
  rw [u_sub hpe]
  by_cases e1 : p + 1 < e
  · rw [if_neg (show ¬ nI (e - p) < (2 : Int32) by rw [u_l2, u_lt (by omega) (by omega)]; omega)]
    have hat := c_at (σ := σ) (b := b) ho hF h hc (i := p) (by omega)
    have hat2 := c_at (σ := σ) (b := b) ho hF h hc (i := p + 1) (by omega)
    have hlt := hc (l.getD p 0) (getD_mem (by omega))
    have hlt2 := hc (l.getD (p + 1) 0) (getD_mem (by omega))
    have hcap := c_isCapital (fx_mk σ b F) hlt
    rw [(t_b ho).1, cI_of hat, cI_of hcap]
    by_cases e2 : cap (l.getD p 0) = true
    · rw [e2, b2_t, if_neg (show ¬ nI 1 = 0 by decide), (t_b ho).1, show nI p + (1 : Int32) = nI (p + 1) by rw [u_l1, u_add], cI_of hat2]
      by_cases e3 : l.getD (p + 1) 0 = 61
      · rw [if_pos (show nI (l.getD (p + 1) 0) = (61 : Int32) by rw [e3]; rfl), decide_eq_true ⟨rfl, e1, e3⟩]
        rfl
      · rw [if_neg (show ¬ nI (l.getD (p + 1) 0) = (61 : Int32) by rw [u_l61, u_eq (by omega) (by omega)]; exact e3), decide_eq_false (fun h => e3 h.2.2)]
        rfl
    · rw [Bool.eq_false_iff.mpr e2, b2_f, if_pos (show nI 0 = 0 from rfl), decide_eq_false (fun h => by cases h.1)]
      rfl
  · rw [if_pos (show nI (e - p) < (2 : Int32) by rw [u_l2, u_lt (by omega) (by omega)]; omega), decide_eq_false (fun h => e1 h.2.1)]
    rfl
theorem c_define (hk : kx σ b) (hF : fx_ln F) {g : Nat → Option (List Nat)} (hg : vx σ b F 19 g) {c : Nat} (hc : cap c = true) {s : Nat} {v : List Nat} (hs : sx σ b s v) : ∃ σ' F', f_Exp_define (some (fx_ad b 13)) (nI c) (some s) (fx_mk σ b F) = some (none, fx_mk σ' b F') ∧ vx σ' b F' 19 (up1 g (c - 65) (some v)) ∧ hn σ σ' ∧ gw 1 1 σ σ' ∧ cf [] [] [] [19] F F' ∧ fx_ln F' := by
  have hcc : 65 ≤ c ∧ c ≤ 90 := of_decide_eq_true hc
  have hcap := c_isCapital (fx_mk σ b F) (c := c) (by omega)
  rw [hc] at hcap
  obtain ⟨σ1, F1, a1, a2, a3, a4, a5, a6⟩ := c_phrase hk hF (Or.inr rfl) hg (m := c - 65) (by omega) hs
  refine ⟨σ1, F1, ?_, a2, a3, a4, ?_, a6⟩
  · unfold f_Exp_define
    rw [cI_of hcap, if_neg (show ¬ nI (b2 true) = 0 by decide)]
    simp only [↓fx_bc]
    rw [show nI c - (65 : Int32) = nI (c - 65) by rw [u_l65, u_sub hcc.1]]
    exact a1
  · rw [a5]
    exact cf_Q (cf_refl _ _ _ _ _) (by decide)
theorem c_give1 (hk : kx σ b) (hF : fx_ln F) {g : Nat → Option (List Nat)} (hg : vx σ b F 18 g) {c : Nat} (hc : cap c = true) {s : Nat} {v : List Nat} (hs : sx σ b s v) : ∃ σ' F', f_Exp_give (some (fx_ad b 13)) (nI c) (some s) (fx_mk σ b F) = some (none, fx_mk σ' b F') ∧ vx σ' b F' 18 (up1 g (c - 65) (some v)) ∧ hn σ σ' ∧ gw 1 1 σ σ' ∧ cf [] [] [] [18] F F' ∧ fx_ln F' := by
  have hcc : 65 ≤ c ∧ c ≤ 90 := of_decide_eq_true hc
  have hcap := c_isCapital (fx_mk σ b F) (c := c) (by omega)
  rw [hc] at hcap
  obtain ⟨σ1, F1, a1, a2, a3, a4, a5, a6⟩ := c_phrase hk hF (Or.inl rfl) hg (m := c - 65) (by omega) hs
  refine ⟨σ1, F1, ?_, a2, a3, a4, ?_, a6⟩
  · unfold f_Exp_give
    rw [cI_of hcap, if_neg (show ¬ nI (b2 true) = 0 by decide)]
    simp only [↓fx_bc]
    rw [show nI c - (65 : Int32) = nI (c - 65) by rw [u_l65, u_sub hcc.1]]
    exact a1
  · rw [a5]
    exact cf_Q (cf_refl _ _ _ _ _) (by decide)
end
section
variable {σ : rb_St} {b : Nat} {F : fx_F} {R : RS} {ad : Nat → Nat} {I : Nat → Nat → Int32} {src : Nat → Option Nat}
theorem c_line {gv : Nat → Option (List Nat)} (hr : rs σ b F R ad I src gv) (hnu : rNu R 0 < 1000) {t : List Nat} (ht : tw F 29 t) (htk : tk t) : ∃ σ' F', f_Reader_readLine (some (fx_ad b 28)) (fx_mk σ b F) = some (some (.int (nI (b2 (x_line gv R t).1))), fx_mk σ' b F') ∧ rres σ b F (rN R) ad I (150 * (t.length + 1)) (10500 * (t.length + 1)) (x_line gv R t) σ' F' := by
  have hr0 := hr
  obtain ⟨hk, hF, hlg, hin, h, hd, hg, hnx, hv, hgv⟩ := hr0
  have hb := hk.1
  have htl := tw_len hF ht
  rw [show tcap 29 = 320 from rfl] at htl
  have hc : ∀ c, c ∈ t → c < 128 := fun c hc => ((tk_ok htk) c hc).2
  have hc6 : ∀ c, c ∈ t → c < 65536 := fun c h => Nat.lt_trans (hc c h) (by decide)
  have hat0 : f_Text_at (some (fx_ad b 29)) (0 : Int32) (fx_mk σ b F) = some (some (.int (nI (t.getD 0 0))), fx_mk σ b F) := c_at (σ := σ) (b := b) tO29 hF ht hc6 (i := 0) (by omega)
  unfold x_line
  by_cases h9 : t.head? = some 9
  · rw [if_pos h9]
    obtain ⟨t', ht'⟩ : ∃ t', t = 9 :: t' := by
      cases t with
      | nil => cases h9
      | cons x xs =>
        injection h9 with h9
        exact ⟨xs, by rw [h9]⟩
    subst ht'
    rw [List.length_cons] at htl
    obtain ⟨σ1, F1, a1, a2⟩ := c_cmdLine hk hF hlg hin h hd hg hnx (t := t') (fun c hc => htk c (List.mem_cons_of_mem _ hc)) (by omega) ht
    refine ⟨σ1, F1, ?_, rres_mono a2 (by rw [List.length_cons]; omega) (by rw [List.length_cons]; omega)⟩
    unfold f_Reader_readLine
    simp only [↓fx_bc, ↓fc29, ↓cI_of hat0]
    rw [if_pos (show nI ((9 :: t').getD 0 0) = (9 : Int32) from rfl)]
    simp only [↓fx_bc, ↓cI_of a1]
    rw [if_pos (isZ_b2 _)]
    rfl
  · rw [if_neg h9]
    have hg0 : t.getD 0 0 < 128 ∧ ¬ t.getD 0 0 = 9 := by
      cases t with
      | nil => exact ⟨by decide, by decide⟩
      | cons x xs => exact ⟨hc x (List.mem_cons_self ..), fun e => h9 (by show some x = some 9; rw [show x = 9 from e])⟩
    have hidx : f_Text_indexOf (some (fx_ad b 29)) (35 : Int32) (fx_mk σ b F) = _ := c_indexOf (σ := σ) (b := b) tO29 hF ht hc6 (c := 35) (by decide)
    have hcle := (fi_le (P := fun k => decide (t.getD k 0 = 35)) (n := t.length) (k := 0) (Nat.zero_le _)).2
    simp only
    generalize hcc : fi (fun k => decide (t.getD k 0 = 35)) t.length 0 = c at hidx hcle ⊢
    have hbeh : f_Text_behindSpaces (some (fx_ad b 29)) (0 : Int32) (nI c) (fx_mk σ b F) = _ := c_behind (σ := σ) (b := b) tO29 hF ht hc6 (p := 0) (q := c) (Nat.zero_le _) hcle
    have hple := (fi_le (P := fun k => decide (¬ t.getD k 0 = 32)) (n := c) (k := 0) (Nat.zero_le _)).2
    generalize hpp : fi (fun k => decide (¬ t.getD k 0 = 32)) c 0 = p at hbeh hple ⊢
    have hbef : f_Text_beforeSpaces (some (fx_ad b 29)) (nI p) (nI c) (fx_mk σ b F) = _ := c_before (σ := σ) (b := b) tO29 hF ht hc6 (p := p) c hcle hple
    have hbk := bk_le t p c
    generalize hee : bk t p c = e at hbef hbk ⊢
    have hpe := hbk.2 hple
    have hec := hbk.1
    have hpre : f_Reader_readLine (some (fx_ad b 28)) (fx_mk σ b F) = if nI p = nI e then (some (some (.int (1 : Int32)), fx_mk σ b F)) else ((rb_gR (fx_mk σ b F) (some (fx_ad b 28)) 8 4).bind fun r_15 => rb_cI (f_Exp_isDefinition (r_15) (nI p) (nI e) (fx_mk σ b F)) fun x_16 σ_17 => if x_16 = 0 then ((rb_gR σ_17 (some (fx_ad b 28)) 8 4).bind fun r_18 => (rb_fc σ_17 r_18 2).bind fun _ => rb_cR (f_Text_cut (r_18) (nI p) (nI e) σ_17) fun r_19 σ_20 => (rb_fc σ_20 (some (fx_ad b 28)) 8).bind fun _ => rb_cI (f_Reader_readRuleLine (some (fx_ad b 28)) (r_19) σ_20) fun x_21 σ_22 => if rb_isZ x_21 then some (some (.int x_21), σ_22) else none) else ((rb_gR σ_17 (some (fx_ad b 28)) 8 4).bind fun r_23 => (rb_fc σ_17 r_23 2).bind fun _ => rb_cI (f_Text_behindSpaces (r_23) ((nI p + (2 : Int32))) (nI e) σ_17) fun x_24 σ_25 => (rb_gR σ_25 (some (fx_ad b 28)) 8 2).bind fun r_26 => (rb_gR σ_25 (some (fx_ad b 28)) 8 4).bind fun r_27 => (rb_fc σ_25 r_27 2).bind fun _ => rb_cI (f_Text_at (r_27) (nI p) σ_25) fun x_28 σ_29 => (rb_gR σ_29 (some (fx_ad b 28)) 8 4).bind fun r_30 => (rb_fc σ_29 r_30 2).bind fun _ => rb_cR (f_Text_cut (r_30) (x_24) (nI e) σ_29) fun r_31 σ_32 => (rb_fc σ_32 r_26 5).bind fun _ => rb_cV (f_Exp_define (r_26) (x_28) (r_31) σ_32) fun σ_33 => some (some (.int (1 : Int32)), σ_33))) := by
      unfold f_Reader_readLine
      simp only [↓fx_bc, ↓fc29, ↓cI_of hat0]
      rw [if_neg (show ¬ nI (t.getD 0 0) = (9 : Int32) by rw [u_l9, u_eq (by omega) (by omega)]; exact hg0.2)]
      simp only [↓fx_bc, ↓fc29, ↓cI_of hidx, ↓cI_of hbeh, ↓cI_of hbef]
    rw [hpre]
    by_cases e0 : p = e
    · rw [if_pos (show nI p = nI e by rw [e0]), if_pos e0]
      exact ⟨σ, F, rfl, ad, I, src, hnx, nxr_refl _ _ _, hx_refl _, gw_mono (gw_refl _) (Nat.zero_le _) (Nat.zero_le _), cf_refl _ _ _ _ _, hF, hlg, fun _ => ⟨h, hd, hg⟩⟩
    · have htn : 1 ≤ t.length := by omega
      rw [if_neg (show ¬ nI p = nI e by rw [u_eq (by omega) (by omega)]; exact e0), if_neg e0]
      have hdef := c_isDef (σ := σ) (b := b) tO29 hF ht hc6 (by omega) hpe (by omega)
      by_cases edf : cap (t.getD p 0) = true ∧ p + 1 < e ∧ t.getD (p + 1) 0 = 61
      · rw [if_pos edf]
        rw [decide_eq_true edf] at hdef
        have hbeh2 := c_behind (σ := σ) (b := b) tO29 hF ht hc6 (p := p + 2) (q := e) (by omega) (by omega)
        have hq := fi_le (P := fun k => decide (¬ t.getD k 0 = 32)) (n := e) (k := p + 2) (by omega)
        generalize hqq : fi (fun k => decide (¬ t.getD k 0 = 32)) e (p + 2) = q at hbeh2 hq ⊢
        have hat := c_at (σ := σ) (b := b) tO29 hF ht hc6 (i := p) (by omega)
        obtain ⟨σ1, a, a1, a2, a3, a4⟩ := c_cut (σ := σ) (b := b) tO29 hF hk ht hc (p := q) (q := e) hq.2 (by omega)
        obtain ⟨σ2, F2, d1, d2, d3, d4, d5, d6⟩ := c_define (F := F) (kx_hx hk a3.1) hF (vx_hx h.2.2.2.2.2.2 a3.1 rfl) edf.1 a2
        have hh : hn σ σ2 := hn_trans a3 d3
        obtain ⟨c1, c2, c3, c4, c5, c6, c7⟩ := h
        refine ⟨σ2, F2, ?_, ad, I, src, nx_cf (nx_hn hnx hh) d5 (by decide) (by decide), nxr_refl _ _ _, hh.1, gw_mono (gw_trans a4 d4) (by omega) (by omega), cf_mono d5 (by decide) (by decide) (by decide) (by decide), d6, lg_cf hlg d5 (by decide), fun _ => ⟨⟨cr1_hx c1 hh.1 d5 (by decide) (by decide), cr2_hx c2 hh.1 d5 (by decide) (by decide) (by decide) (by decide), cr3_hx c3 hh.1 d5 (by decide) (by decide), cr4_cf c4 d5 (by decide) (by decide) (by decide), cr5_cf c5 d5 (by decide) (by decide) (by decide) (by decide), c6, d2⟩, ⟨?_, fun h2 => ?_, fun h3 => ?_, fun h4 k hk => hd.2.2.2 h4 k hk⟩, hg⟩⟩
        · simp only [↓fx_bc, ↓cI_of hdef]
          rw [if_neg (show ¬ nI (b2 true) = 0 by decide)]
          simp only [↓fx_bc, ↓fc29, show nI p + (2 : Int32) = nI (p + 2) by rw [u_l2, u_add], ↓cI_of hbeh2, ↓cI_of hat, ↓cR_of a1, ↓cV_of d1]
          rfl
        · rw [d5.1 2805 (by decide)]; exact hd.1
        · rw [d5.1 2807 (by decide)]; exact hd.2.1 h2
        · rw [d5.1 2806 (by decide)]; exact hd.2.2.1 h3
      · rw [if_neg edf]
        rw [decide_eq_false edf] at hdef
        obtain ⟨σ1, a, a1, a2, a3, a4⟩ := c_cut (σ := σ) (b := b) tO29 hF hk ht hc (p := p) (q := e) hpe (by omega)
        have hr1 : rs σ1 b F R ad I src gv := ⟨kx_hx hk a3.1, hF, hlg, hin, cr_hx h a3.1 (cf_refl [] [] [] [] _) (by decide) (by decide) (by decide) (by decide), hd, hg, nx_hn hnx a3, vx_hx hv a3.1 rfl, hgv⟩
        obtain ⟨σ2, F2, d1, d2⟩ := c_ruleLine hr1 hnu a2 (slc_tk htk _ _) (by rw [slc_len (by omega)]; omega)
        refine ⟨σ2, F2, ?_, rres_mono (rres_pre a3.1 a4 (cf_refl _ _ _ _ _) d2) (by omega) (by omega)⟩
        simp only [↓fx_bc, ↓cI_of hdef]
        rw [if_pos (show nI (b2 false) = 0 from rfl)]
        simp only [↓fx_bc, ↓fc29, ↓cR_of a1, ↓cI_of d1]
        rw [if_pos (isZ_b2 _)]
/-- all is forgotten -/
theorem c_defLoop {σ : rb_St} (hb : rb_b σ ≤ b) : ∀ (m k : Nat) (F : fx_F), k + m = 26 → fx_ln F → (∀ j, j < k → (F.2.2.2.2 19)[j]? = some none) → ∃ F', rb_it (fun z : (Int32 × rb_St) => f_Exp_forgetDefinitions_b2 (some (fx_ad b 13)) (z.1) z.2) (nI k, fx_mk σ b F) = some (none, fx_mk σ b F') ∧ (∀ j, j < 26 → (F'.2.2.2.2 19)[j]? = some none) ∧ fx_ln F' ∧ cf [] [] [] [19] F F' := by
  intro m
  induction m with
  | zero =>
    intro k F hk hF h
    refine ⟨F, rb_it_m ?_, fun j hj => h j (by omega), hF, cf_refl _ _ _ _ _⟩
    show f_Exp_forgetDefinitions_b2 _ _ _ = _
    unfold f_Exp_forgetDefinitions_b2
    rw [if_pos (show (26 : Int32) ≤ nI k from nI_le (a := 26) (by omega) (by omega))]
  | succ m ih =>
    intro k F hk hF h
    have hl := hF.2.2 19
    simp only [fx_cR] at hl
    have hsr : rb_sR (fx_mk σ b F) (some (fx_ad b 19)) 111 (nI k) none = some (fx_mk σ b (fx_Q F 19 ((F.2.2.2.2 19).set k none))) := by
      rw [fx_sR (o := 19) (t := 111) (by decide) rfl (by decide) hb (fun a ha => by cases ha), u_cl (by omega), if_pos ⟨by rw [u_l0, u_lt (by omega) (by omega)]; omega, by omega⟩]
    have hF1 : fx_ln (fx_Q F 19 ((F.2.2.2.2 19).set k none)) := fx_lnQ hF (by rw [List.length_set]; exact hF.2.2 19)
    obtain ⟨F2, a1, a2, a3, a4⟩ := ih (k + 1) (fx_Q F 19 ((F.2.2.2.2 19).set k none)) (by omega) hF1 (fun j hj => by
      rw [fx_Q_Q, if_pos rfl, set_get (by omega)]
      by_cases e : j = k
      · rw [if_pos e]
      · rw [if_neg e]
        exact h j (by omega))
    refine ⟨F2, (rb_it_l ?_).trans a1, a2, a3, cf_trans (cf_Q (cf_refl _ _ _ _ _) (by decide)) a4⟩
    show f_Exp_forgetDefinitions_b2 _ _ _ = _
    unfold f_Exp_forgetDefinitions_b2
    rw [if_neg (show ¬ (26 : Int32) ≤ nI k by rw [u_l26, u_le (by omega) (by omega)]; omega)]
    simp only [↓fx_bc]
    rw [hsr, Option.bind_some, show nI k + 1 = nI (k + 1) by rw [u_l1, u_add]]
abbrev zFg : List Nat := [501, 505, 507, 510, 511, 513, 514, 2805]
theorem gin_r0 (N : List (List Nat)) : gin (r0 N) := by
  refine ⟨fun k g h => ?_, fun g h => ?_, fun i g h => ?_, fun h => absurd rfl h, fun h => ?_⟩
  · have : (none : Option Nat) = some g := h
    cases this
  · have : (none : Option Nat) = some g := h
    cases this
  · have : (none : Option Nat) = some g := h
    cases this
  · have : (0 : Nat) = 3 := h
    omega
theorem c_forgetAll (hk : kx σ b) (hF : fx_ln F) (hN : nok (rN R)) (hnx : nx σ b F (rN R) ad I src) : ∃ σ' F' I', f_Reader_forgetAll (some (fx_ad b 28)) (fx_mk σ b F) = some (none, fx_mk σ' b F') ∧ nx σ' b F' (rN R) ad I' src ∧ hx σ σ' ∧ gw 0 0 σ σ' ∧ cf zFg [] [512] [19] F F' ∧ fx_ln F' ∧ (∀ k, k < (rN R).length → I' k = nfg (I k)) ∧ cr σ' b F' (r0 (rN R)) ad I' ∧ rd F' (r0 (rN R)) I' ∧ gin (r0 (rN R)) := by
  have hb := hk.1
  generalize hF1 : fx_I (fx_I (fx_R (fx_I (fx_I (fx_I (fx_I (fx_I F 501 0) 505 0) 507 0) 510 0) 511 (-1)) 512 none) 513 0) 514 0 = F1
  have hfo : f_Rules_forget (some (fx_ad b 5)) (fx_mk σ b F) = some (none, fx_mk σ b F1) := by
    subst hF1
    unfold f_Rules_forget
    simp only [↓fx_bc, ↓fx_vc hb]
    rw [if_pos (Or.inl trivial), if_pos (Or.inl trivial)]
  have hln1 : fx_ln F1 := by
    subst hF1
    exact fx_lnI (fx_lnI (fx_lnR (fx_lnI (fx_lnI (fx_lnI (fx_lnI (fx_lnI hF)))))))
  have hcf1 : cf zFg [] [512] [19] F F1 := by
    subst hF1
    exact cf_I (cf_I (cf_R (cf_I (cf_I (cf_I (cf_I (cf_I (cf_refl _ _ _ _ _) (by decide)) (by decide)) (by decide)) (by decide)) (by decide)) (by decide)) (by decide)) (by decide)
  have hv1 : F1.1 501 = 0 ∧ F1.1 505 = 0 ∧ F1.1 507 = 0 ∧ F1.1 510 = 0 ∧ F1.1 511 = -1 ∧ F1.2.2.2.1 512 = none ∧ F1.1 513 = 0 ∧ F1.1 514 = 0 := by
    subst hF1
    exact ⟨rfl, rfl, rfl, rfl, rfl, rfl, rfl, rfl⟩
  obtain ⟨F2, a1, a2, a3, a4⟩ := c_defLoop (b := b) hb 26 0 F1 (by omega) hln1 (fun j hj => absurd hj (Nat.not_lt_zero _))
  have a1' : f_Exp_forgetDefinitions (some (fx_ad b 13)) (fx_mk σ b F1) = some (none, fx_mk σ b F2) := a1
  have hcf2 : cf zFg [] [512] [19] F F2 := cf_trans hcf1 (cf_mono a4 (by decide) (by decide) (by decide) (by decide))
  obtain ⟨σ3, I3, c1, c2, c3, c4, c5⟩ := c_forgetNames hN (nx_cf hnx hcf2 (by decide) (by decide))
  have hb3 : rb_b σ3 ≤ b := by rw [c3.2.1]; exact hb
  have hcf3 : cf [2805] [] [] [] F2 (fx_I F2 2805 0) := cf_I (cf_refl _ _ _ _ _) (by decide)
  refine ⟨σ3, fx_I F2 2805 0, I3, ?_, nx_cf c2 hcf3 (by decide) (by decide), c3, c4, cf_trans hcf2 (cf_mono hcf3 (by decide) (by decide) (by decide) (by decide)), fx_lnI a3, c5, ⟨⟨?_, fun i hi => absurd hi (Nat.not_lt_zero _)⟩, ⟨?_, fun i hi => absurd hi (Nat.not_lt_zero _), fun i hi => absurd hi (Nat.not_lt_zero _)⟩, ⟨?_, fun i hi => absurd hi (Nat.not_lt_zero _)⟩, ⟨?_, fun i hi => absurd hi (Nat.not_lt_zero _)⟩, ⟨?_, ?_, ?_, ?_⟩, fun k hk => ?_, fun m hm => ⟨fun _ => a2 m hm, fun v hv => ?_⟩⟩, ⟨?_, fun h => ?_, fun h => ?_, fun h => ?_⟩, gin_r0 _⟩
  · unfold f_Reader_forgetAll
    simp only [↓fx_bc, ↓cV_of hfo, ↓cV_of a1', ↓cV_of c1, ↓fx_vc hb3]
  · rw [hcf3.1 501 (by decide), a4.1 501 (by decide), hv1.1]; rfl
  · rw [hcf3.1 505 (by decide), a4.1 505 (by decide), hv1.2.1]; rfl
  · rw [hcf3.1 507 (by decide), a4.1 507 (by decide), hv1.2.2.1]; rfl
  · rw [hcf3.1 510 (by decide), a4.1 510 (by decide), hv1.2.2.2.1]; rfl
  · rw [hcf3.1 511 (by decide), a4.1 511 (by decide), hv1.2.2.2.2.1]; rfl
  · rw [hcf3.2.2.2.1 512 (by decide), a4.2.2.2.1 512 (by decide), hv1.2.2.2.2.2.1]; rfl
  · rw [hcf3.1 513 (by decide), a4.1 513 (by decide), hv1.2.2.2.2.2.2.1]; rfl
  · rw [hcf3.1 514 (by decide), a4.1 514 (by decide), hv1.2.2.2.2.2.2.2]; rfl
  · have hk' : k < (rN R).length := hk
    rw [c5 k hk']
    exact ⟨rfl, rfl, rfl, rfl, rfl⟩
  · have : (none : Option (List Nat)) = some v := hv
    cases this
  · rw [fx_I_1, if_pos rfl]; rfl
  · have : 2 ≤ (0 : Nat) := h
    omega
  · have : (0 : Nat) = 3 := h
    omega
  · have : (0 : Nat) = 4 := h
    omega
end
