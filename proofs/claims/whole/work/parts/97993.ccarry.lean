/-! the class: a command is carried out -/
def cst (σ : rb_St) (b : Nat) (F : fx_F) (R : RS) (gv : Nat → Option (List Nat)) (w : Nat) (S : PS) (n : Nat) (ad : Nat → Nat) (I : Nat → Nat → Int32) (src : Nat → Option Nat) : Prop := kx σ b ∧ fx_ln F ∧ lg F ∧ cps σ b F S ad I src ∧ nok (pN S) ∧ cr σ b F (wN R (pN S)) ad I ∧ vx σ b F 18 gv ∧ F.1 3105 = nI w ∧ F.1 3107 = nI n
def ct (F : fx_F) (R : RS) (N : List (List Nat)) (ad : Nat → Nat) (I : Nat → Nat → Int32) (src : Nat → Option Nat) (t : Nat) (ch : CH) (ds : List Nat) (nw : List Bool) : Prop := src t = ch.2.1.map (fun x => ad x.1) ∧ (∀ x, ch.2.1 = some x → ∃ k, k ≤ (N.getD t []).length ∧ x.2 = (N.getD t []).take k ∧ I t 15 = nI k) ∧ I t 13 = nI (b2 ch.2.2) ∧ I t 12 = og (rCm R) ch.1 ∧ tw F 16 ((x_join (x_newer N ds nw)).take 121)
abbrev zUi : List Nat := [301, 302, 1305, 1401, 2104, 2601, 3107]
abbrev zUa : List Nat := [15, 20, 22, 23, 27]
def cres (σ : rb_St) (b : Nat) (F : fx_F) (R : RS) (gv : Nat → Option (List Nat)) (w : Nat) (S : PS) (ad : Nat → Nat) (I : Nat → Nat → Int32) (src : Nat → Option Nat) (σ' : rb_St) (F' : fx_F) (S' : PS) (n' : Nat) : Prop := ∃ ad' I' src', cst σ' b F' R gv w S' n' ad' I' src' ∧ nxo (pN S) ad I src (pN S') ad' I' src' ∧ hx σ σ' ∧ gn (pN S) (pN S') σ σ' ∧ cf zUi zUa [1306] [4, 24] F F'
theorem newer_ext {N N' : List (List Nat)} {ds : List Nat} (h : ∀ d, d ∈ ds → N'.getD d [] = N.getD d []) (nw : List Bool) : x_newer N' ds nw = x_newer N ds nw := by
  unfold x_newer
  refine List.map_congr_left (fun x hx => h x.1 ?_)
  exact (List.of_mem_zip (List.mem_filter.mp hx).1).1
theorem ct_nxo {zi za zr zq : List Nat} {F F' : fx_F} {R : RS} {N N' : List (List Nat)} {ad ad' : Nat → Nat} {I I' : Nat → Nat → Int32} {src src' : Nat → Option Nat} {t : Nat} {ch : CH} {ds : List Nat} {nw : List Bool} (h : ct F R N ad I src t ch ds nw) (hx : nxo N ad I src N' ad' I' src') (hf : cf zi za zr zq F F') (h1 : 1601 ∉ zi) (h2 : 17 ∉ za) (ht : t < N.length) (hc : chok N ch) (hds : ∀ d, d ∈ ds → d < N.length) : ct F' R N' ad' I' src' t ch ds nw := by
  obtain ⟨c1, c2, c3, c4, c5⟩ := h
  obtain ⟨x1, x2, x3, x4⟩ := hx.2.1 t ht
  refine ⟨?_, fun x hx2 => ?_, ?_, ?_, ?_⟩
  · rw [x4, c1]
    cases hcc : ch.2.1 with
    | none => rfl
    | some x =>
      show some (ad x.1) = some (ad' x.1)
      rw [(hx.2.1 x.1 (hc.1 x hcc).1).2.1]
  · rw [x1, x3 15 (by decide) (by decide)]
    exact c2 x hx2
  · rw [x3 13 (by decide) (by decide)]
    exact c3
  · rw [x3 12 (by decide) (by decide)]
    exact c4
  · rw [newer_ext (N := N) (fun d hd => (hx.2.1 d (hds d hd)).1)]
    exact tw_cf c5 hf h1 h2
theorem cr_nxo {zi za zr zq : List Nat} {σ σ' : rb_St} {b : Nat} {F F' : fx_F} {R : RS} {N N' : List (List Nat)} {ad ad' : Nat → Nat} {I I' : Nat → Nat → Int32} {src src' : Nat → Option Nat} (h : cr σ b F (wN R N) ad I) (hin : rin R) (hl : (rN R).length ≤ N.length) (ht : nxo N ad I src N' ad' I' src') (hh : hx σ σ') (hf : cf zi za zr zq F F') (h1 : ∀ z, z ∈ zCi → z ∉ zi) (h2 : 9 ∉ za) (h3 : 512 ∉ zr) (h4 : ∀ z, z ∈ zCq → z ∉ zq) : cr σ' b F' (wN R N') ad' I' := by
  obtain ⟨c1, c2, c3, c4, c5, c6, c7⟩ := cr_hx h hh hf h1 h2 h3 h4
  obtain ⟨⟨_, _, _, _, r5, _, r7, _⟩, _, _, e3, e4⟩ := hin
  refine ⟨c1, c2, c3, ⟨c4.1, fun i hi => ?_⟩, ⟨c5.1, ?_, c5.2.2⟩, fun k hk => ?_, c7⟩
  · have h1 := r5.2 i hi
    rw [(ht.2.1 _ (Nat.lt_of_lt_of_le h1.1 hl)).2.1, (ht.2.1 _ (Nat.lt_of_lt_of_le h1.2 hl)).2.1]
    exact c4.2 i hi
  · rw [c5.2.1]
    show (rOp R 1).map ad = (rOp R 1).map ad'
    cases hx : rOp R 1 with
    | none => rfl
    | some k =>
      show some (ad k) = some (ad' k)
      rw [(ht.2.1 k (Nat.lt_of_lt_of_le (r7 k hx) hl)).2.1]
  · show I' k 4 = nI (b2 (rFl R 0 k)) ∧ I' k 5 = nI (b2 (rFl R 1 k)) ∧ I' k 6 = nI (b2 (rFl R 2 k)) ∧ I' k 7 = nI (b2 (rFl R 3 k)) ∧ I' k 9 = og (rCm R) (rOw R k)
    by_cases e : k < N.length
    · have hx := (ht.2.1 k e).2.2.1
      rw [hx 4 (by decide) (by decide), hx 5 (by decide) (by decide), hx 6 (by decide) (by decide), hx 7 (by decide) (by decide), hx 9 (by decide) (by decide)]
      exact c6 k e
    · have hx := (ht.2.2 k (by omega) hk).1
      rw [hx 4 (by decide) (by decide), hx 5 (by decide) (by decide), hx 6 (by decide) (by decide), hx 7 (by decide) (by decide), hx 9 (by decide) (by decide), e3 0 k (by omega), e3 1 k (by omega), e3 2 k (by omega), e3 3 k (by omega), e4 k (by omega)]
      exact ⟨rfl, rfl, rfl, rfl, rfl⟩
theorem cst_cf {zi za zr zq : List Nat} {σ : rb_St} {b : Nat} {F F' : fx_F} {R : RS} {gv : Nat → Option (List Nat)} {w : Nat} {S : PS} {n : Nat} {ad : Nat → Nat} {I : Nat → Nat → Int32} {src : Nat → Option Nat} (h : cst σ b F R gv w S n ad I src) (hf : cf zi za zr zq F F') (hF : fx_ln F') (hlg : lg F') (h1 : ∀ z, z ∈ [301, 302, 2601, 3105, 3107] ++ zCi → z ∉ zi) (h2 : ∀ z, z ∈ [9, 27] → z ∉ za) (h3 : 512 ∉ zr) (h4 : ∀ z, z ∈ [4, 18] ++ zCq → z ∉ zq) : cst σ b F' R gv w S n ad I src := by
  obtain ⟨c1, c2, c3, c4, c5, c6, c7, c8, c9⟩ := h
  exact ⟨c1, hF, hlg, cps_fr c4 hf (h1 301 (by decide)) (h1 302 (by decide)) (h1 2601 (by decide)) (h2 27 (by decide)) (h4 4 (by decide)), c5, cr_hx c6 (hx_refl _) hf (fun z hz => h1 z (List.mem_append.mpr (Or.inr hz))) (h2 9 (by decide)) h3 (fun z hz => h4 z (List.mem_append.mpr (Or.inr hz))), vx_hx c7 (hx_refl _) (hf.2.2.2.2 18 (h4 18 (by decide))), by rw [hf.1 3105 (h1 3105 (by decide))]; exact c8, by rw [hf.1 3107 (h1 3107 (by decide))]; exact c9⟩
/-- behind the expansion -/
def x_aft (w : Nat) (c : List Nat) (fgv q : Bool) (o : List Nat) (S : PS) (n : Nat) : Bool × PS × Nat :=
  let S1 : PS := if op w 8 = true ∨ q = true then S else (pN S, pF S, pC S, x_puts (pP S) (o ++ [10]))
  if x_has c 43 = false ∧ op w 2 = true then (true, S1, n)
  else ((x_perf (wl o (wds o o.length 0 o.length)) S1).1 || fgv, (x_perf (wl o (wds o o.length 0 o.length)) S1).2, n + 1)
theorem x_carry_eq (R : RS) (gv : Nat → Option (List Nat)) (w t : Nat) (ch : CH) (ds : List Nat) (nw : List Bool) (c : List Nat) (S : PS) (n : Nat) : x_carry R gv w t ch ds nw c S n = if x_has c 43 = false ∧ (op w 8 = true ∨ op w 4 = true ∧ op w 2 = false) then (true, S, n) else match xr (x_auto (pN S) ch ds nw t) (vl gv (rDf R)) (c.drop (nmk c)) with | none => (x_forg R w t c, S, n) | some o => x_aft w c (x_forg R w t c) ((x_has c 64 || x_silent R w t) && !op w 2) o S n := by
  unfold x_carry x_aft
  by_cases e : x_has c 43 = false ∧ (op w 8 = true ∨ op w 4 = true ∧ op w 2 = false)
  · rw [if_pos e, if_pos e]
  · rw [if_neg e, if_neg e]
    cases hx : xr (x_auto (pN S) ch ds nw t) (vl gv (rDf R)) (c.drop (nmk c)) with
    | none => rfl
    | some o =>
      simp only
      have hiff : (op w 8 = true ∨ (x_has c 64 = true ∨ x_silent R w t = true) ∧ op w 2 = false) = (op w 8 = true ∨ ((x_has c 64 || x_silent R w t) && !op w 2) = true) := by
        cases op w 8 <;> cases op w 2 <;> cases x_has c 64 <;> cases x_silent R w t <;> simp
      simp only [hiff]
section
variable {σ : rb_St} {b : Nat} {F : fx_F} {R : RS} {gv : Nat → Option (List Nat)} {w : Nat} {S : PS} {n : Nat} {ad : Nat → Nat} {I : Nat → Nat → Int32} {src : Nat → Option Nat}
theorem c_isSilent (h : cst σ b F R gv w S n ad I src) (hw : w < 64) {t : Nat} (ht : t < (pN S).length) : f_Bld_isSilent (some (fx_ad b 31)) (some (ad t)) (fx_mk σ b F) = some (some (.int (nI (b2 (x_silent R w t)))), fx_mk σ b F) := by
  obtain ⟨c1, c2, c3, c4, c5, c6, c7, c8, c9⟩ := h
  have g7 := n_gI c4.1 ht (f := 7) ⟨by decide, by decide, by decide⟩
  rw [(c6.2.2.2.2.2.1 t ht).2.2.2.1] at g7
  have h514 := c6.2.2.2.2.1.2.2.2
  have h32 := c_has (σ := σ) (b := b) c8 hw (i := 32) (by decide)
  have h32' : f_Bld_has (some (fx_ad b 31)) (32 : Int32) (fx_mk σ b F) = _ := h32
  have g7' : rb_gI (fx_mk σ b F) (some (ad t)) 12 7 = some (nI (b2 (rFl R 3 t))) := g7
  have h514' : F.1 514 = nI (b2 (rBo R 1)) := h514
  unfold f_Bld_isSilent x_silent
  simp only [g7', Option.bind_some, ↓fx_bc, h514', ↓cI_of h32']
  cases rFl R 3 t <;> cases rBo R 1 <;> cases op w 32 <;> rfl
theorem c_j165 (hin : rin R) (hl : (rN R).length ≤ (pN S).length) (h : cst σ b F R gv w S n ad I src) (hC : pC S + 60 < 2147483648) {o : List Nat} (ht : tw F 14 o) (hto : tk o) (fgv : Bool) : ∃ σ' F', f_Bld_carryOut_j165 (some (fx_ad b 31)) (nI (b2 fgv)) (fx_mk σ b F) = some (some (.int (nI (b2 ((x_perf (wl o (wds o o.length 0 o.length)) S).1 || fgv)))), fx_mk σ' b F') ∧ cres σ b F R gv w S ad I src σ' F' (x_perf (wl o (wds o o.length 0 o.length)) S).2 (n + 1) := by
  obtain ⟨c1, c2, c3, c4, c5, c6, c7, c8, c9⟩ := h
  have hb := c1.1
  have hf1 : cf [3107] [] [] [] F (fx_I F 3107 (nI (n + 1))) := cf_I (cf_refl _ _ _ _ _) (by decide)
  obtain ⟨σ2, F2, a1, ad2, I2, src2, a2, a3, a4, a5, a6, a7, a8⟩ := c_act (F := fx_I F 3107 (nI (n + 1))) c1 (fx_lnI c2) (tw_cf ht hf1 (by decide) (by decide)) hto (cps_fr c4 hf1 (by decide) (by decide) (by decide) (by decide) (by decide)) c5 hC
  have hcf : cf zUi zUa [1306] [4, 24] F F2 := cf_trans (cf_mono hf1 (by decide) (by decide) (by decide) (by decide)) (cf_mono a6 (by decide) (by decide) (by decide) (by decide))
  refine ⟨σ2, F2, ?_, ad2, I2, src2, ⟨kx_hx c1 a4, a7, lg_cf c3 (cf_trans (cf_mono hf1 (by decide) (by decide) (by decide) (by decide)) (cf_mono a6 (by decide) (by decide) (by decide) (by decide)) : cf (3107 :: zP) zPa [] zPq F F2) (by decide), a2, a8, cr_nxo c6 hin hl a3 a4 hcf (by decide) (by decide) (by decide) (by decide), vx_hx c7 a4 (hcf.2.2.2.2 18 (by decide)), by rw [hcf.1 3105 (by decide)]; exact c8, by rw [a6.1 3107 (by decide), fx_I_1, if_pos rfl]⟩, a3, a4, a5, hcf⟩
  unfold f_Bld_carryOut_j165
  simp only [↓fx_bc, ↓fx_vc hb, c9, show nI n + (1 : Int32) = nI (n + 1) by rw [u_l1, u_add], ↓cI_of a1]
  cases (x_perf (wl o (wds o o.length 0 o.length)) S).1 <;> cases fgv <;> rfl
theorem cps_print (h : cps σ b F S ad I src) {F' : fx_F} {l : List Nat} (hp : tw F' 26 l) (hf : fr [2601] [27] [] F F') : cps σ b F' (pN S, pF S, pC S, l) ad I src := by
  obtain ⟨c1, c2, c3, c4, c5, c6⟩ := h
  exact ⟨nx_cf c1 (cf_fr hf) (by decide) (by decide), by rw [hf.1 302 (by decide)]; exact c2, c3, c4, hp, c6⟩
theorem cres_pre {σ1 σ' : rb_St} {F1 F' : fx_F} {S1 S' : PS} {n' : Nat} (hh : hx σ σ1) (hg : gn (pN S) (pN S1) σ σ1) (hf : cf zUi zUa [1306] [4, 24] F F1) (hN : pN S1 = pN S) (h : cres σ1 b F1 R gv w S1 ad I src σ' F' S' n') : cres σ b F R gv w S ad I src σ' F' S' n' := by
  obtain ⟨ad', I', src', h1, h2, h3, h4, h5⟩ := h
  rw [hN] at h2
  have hle : (pN S).length ≤ (pN S1).length := by rw [hN]; exact Nat.le_refl _
  have hle2 : (pN S1).length ≤ (pN S').length := by rw [hN]; exact h2.1
  exact ⟨ad', I', src', h1, h2, hx_trans hh h3, gn_trans hg h4 hle hle2, cf_trans hf h5⟩
theorem gn_same {σ1 : rb_St} {N : List (List Nat)} (h : gw 0 0 σ σ1) : gn N N σ σ1 := gw_mono h (Nat.zero_le _) (Nat.zero_le _)
theorem c_j118 (hin : rin R) (hl : (rN R).length ≤ (pN S).length) (hw : w < 64) (h : cst σ b F R gv w S n ad I src) (hC : pC S + 60 < 2147483648) {o : List Nat} (ht : tw F 14 o) (hto : tk o) {p : Nat} {first : Int32} {c : List Nat} (hcm : cmx σ b p first c) (fgv q : Bool) : ∃ σ' F', f_Bld_carryOut_j118 (some (fx_ad b 31)) (some p) (nI (b2 fgv)) (nI (b2 q)) (fx_mk σ b F) = some (some (.int (nI (b2 (x_aft w c fgv q o S n).1))), fx_mk σ' b F') ∧ cres σ b F R gv w S ad I src σ' F' (x_aft w c fgv q o S n).2.1 (x_aft w c fgv q o S n).2.2 := by
  obtain ⟨m1, m2, s, m3, m4, m5⟩ := hcm
  have hj148 : ∀ (F1 : fx_F) (S1 : PS), cst σ b F1 R gv w S1 n ad I src → pN S1 = pN S → pC S1 = pC S → cf zUi zUa [1306] [4, 24] F F1 → tw F1 14 o → ∃ σ' F', f_Bld_carryOut_j148 (some (fx_ad b 31)) (some p) (nI (b2 fgv)) (fx_mk σ b F1) = some (some (.int (nI (b2 (if x_has c 43 = false ∧ op w 2 = true then true else ((x_perf (wl o (wds o o.length 0 o.length)) S1).1 || fgv))))), fx_mk σ' b F') ∧ cres σ b F R gv w S ad I src σ' F' (if x_has c 43 = false ∧ op w 2 = true then S1 else (x_perf (wl o (wds o o.length 0 o.length)) S1).2) (if x_has c 43 = false ∧ op w 2 = true then n else n + 1) := by
    intro F1 S1 h1 hN1 hC1 hf1 ht1
    have g4 : rb_gI (fx_mk σ b F1) (some p) 11 4 = some (nI (b2 (x_has c 43))) := fo_gI m1 m3 rfl
    have h2 : f_Bld_has (some (fx_ad b 31)) (2 : Int32) (fx_mk σ b F1) = _ := c_has (σ := σ) (b := b) h1.2.2.2.2.2.2.2.1 hw (i := 2) (by decide)
    have hgn : gn (pN S) (pN S1) σ σ := by rw [hN1]; exact gn_same (gw_refl _)
    by_cases e : x_has c 43 = false ∧ op w 2 = true
    · rw [if_pos e, if_pos e, if_pos e]
      refine ⟨σ, F1, ?_, ad, I, src, h1, by rw [hN1]; exact nxo_refl _ _ _ _, hx_refl _, hgn, hf1⟩
      unfold f_Bld_carryOut_j148
      simp only [g4, Option.bind_some, ↓fx_bc, ↓cI_of h2]
      rw [e.1, e.2]
      rfl
    · rw [if_neg e, if_neg e, if_neg e]
      obtain ⟨σ2, F2, a1, a2⟩ := c_j165 hin (by rw [hN1]; exact hl) h1 (by rw [hC1]; exact hC) ht1 hto fgv
      refine ⟨σ2, F2, ?_, cres_pre (hx_refl _) hgn hf1 hN1 a2⟩
      unfold f_Bld_carryOut_j148
      simp only [g4, Option.bind_some, ↓fx_bc, ↓cI_of h2]
      cases e43 : x_has c 43 with
      | true => rw [if_neg (show ¬ nI (b2 true) = 0 by decide), a1]
      | false =>
        rw [if_pos (show nI (b2 false) = 0 from rfl)]
        cases e2 : op w 2 with
        | true => exact absurd ⟨e43, e2⟩ e
        | false => rw [if_pos (show nI (b2 false) = 0 from rfl), a1]
  have h8 : f_Bld_has (some (fx_ad b 31)) (8 : Int32) (fx_mk σ b F) = _ := c_has (σ := σ) (b := b) h.2.2.2.2.2.2.2.1 hw (i := 8) (by decide)
  have hxa : ∀ S1 : PS, (if op w 8 = true ∨ q = true then S else (pN S, pF S, pC S, x_puts (pP S) (o ++ [10]))) = S1 → x_aft w c fgv q o S n = (if x_has c 43 = false ∧ op w 2 = true then true else ((x_perf (wl o (wds o o.length 0 o.length)) S1).1 || fgv), if x_has c 43 = false ∧ op w 2 = true then S1 else (x_perf (wl o (wds o o.length 0 o.length)) S1).2, if x_has c 43 = false ∧ op w 2 = true then n else n + 1) := by
    intro S1 hS1
    unfold x_aft
    simp only
    rw [hS1]
    by_cases e : x_has c 43 = false ∧ op w 2 = true
    · rw [if_pos e, if_pos e, if_pos e, if_pos e]
    · rw [if_neg e, if_neg e, if_neg e, if_neg e]
  by_cases e : op w 8 = true ∨ q = true
  · rw [hxa S (if_pos e)]
    obtain ⟨σ2, F2, a1, a2⟩ := hj148 F S h rfl rfl (cf_refl _ _ _ _ _) ht
    refine ⟨σ2, F2, ?_, a2⟩
    unfold f_Bld_carryOut_j118
    simp only [↓fx_bc, ↓cI_of h8]
    cases e8 : op w 8 with
    | true => rw [if_neg (show ¬ nI (b2 true) = 0 by decide), a1]
    | false =>
      rw [if_pos (show nI (b2 false) = 0 from rfl)]
      cases e2 : q with
      | true => rw [if_neg (show ¬ nI (b2 true) = 0 by decide), a1]
      | false =>
        rw [e8, e2] at e
        exact absurd e (by decide)
  · rw [hxa _ (if_neg e)]
    obtain ⟨c1, c2, c3, c4, c5, c6, c7, c8, c9⟩ := h
    have hcc : ∀ c, c ∈ o → c < 128 := fun c hc => ((tk_ok hto) c hc).2
    obtain ⟨F1, p1, p2, p3, p4⟩ := c_printLine (σ := σ) (b := b) c1.1 c2 ht hcc c4.2.2.2.2.1
    have hcf := cf_fr p4
    have h1 : cst σ b F1 R gv w (pN S, pF S, pC S, x_puts (pP S) (o ++ [10])) n ad I src := ⟨c1, p3, lg_cf c3 hcf (by decide), cps_print c4 p2 p4, c5, cr_hx c6 (hx_refl _) hcf (by decide) (by decide) (by decide) (by decide), vx_hx c7 (hx_refl _) (hcf.2.2.2.2 18 (by decide)), by rw [hcf.1 3105 (by decide)]; exact c8, by rw [hcf.1 3107 (by decide)]; exact c9⟩
    obtain ⟨σ2, F2, a1, a2⟩ := hj148 F1 (pN S, pF S, pC S, x_puts (pP S) (o ++ [10])) h1 rfl rfl (cf_mono hcf (by decide) (by decide) (by decide) (by decide)) (tw_cf ht hcf (by decide) (by decide))
    refine ⟨σ2, F2, ?_, a2⟩
    unfold f_Bld_carryOut_j118
    simp only [↓fx_bc, ↓cI_of h8]
    have e8 : op w 8 = false := Bool.eq_false_iff.mpr (fun h => e (Or.inl h))
    have eq0 : q = false := Bool.eq_false_iff.mpr (fun h => e (Or.inr h))
    rw [e8, eq0, if_pos (show nI (b2 false) = 0 from rfl), if_pos (show nI (b2 false) = 0 from rfl)]
    simp only [↓cV_of p1]
    exact a1
theorem c_carry (hin : rin R) (hgv : ∀ m v, gv m = some v → tk v ∧ v.length ≤ 320) (hl : (rN R).length ≤ (pN S).length) (hw : w < 64) (h : cst σ b F R gv w S n ad I src) (hC : pC S + 60 < 2147483648) {t : Nat} (ht : t < (pN S).length) {ch : CH} (hch : chok (pN S) ch) {ds : List Nat} (hds : ∀ d, d ∈ ds → d < (pN S).length) {nw : List Bool} (hct : ct F R (pN S) ad I src t ch ds nw) {p : Nat} {first : Int32} {c : List Nat} (hcm : cmx σ b p first c) (hck : tk c) : ∃ σ' F', f_Bld_carryOut (some (fx_ad b 31)) (some p) (some (ad t)) (fx_mk σ b F) = some (some (.int (nI (b2 (x_carry R gv w t ch ds nw c S n).1))), fx_mk σ' b F') ∧ cres σ b F R gv w S ad I src σ' F' (x_carry R gv w t ch ds nw c S n).2.1 (x_carry R gv w t ch ds nw c S n).2.2 := by
  have hcm0 := hcm
  obtain ⟨m1, m2, s, m3, m4, m5⟩ := hcm0
  have h0 := h
  obtain ⟨c1, c2, c3, c4, c5, c6, c7, c8, c9⟩ := h0
  have hb := c1.1
  obtain ⟨t1, t2, t3, t4, t5⟩ := hct
  have g4 : rb_gI (fx_mk σ b F) (some p) 11 4 = some (nI (b2 (x_has c 43))) := fo_gI m1 m3 rfl
  have g2 : rb_gI (fx_mk σ b F) (some p) 11 2 = some (nI (b2 (x_has c 45))) := fo_gI m1 m3 rfl
  have gs : rb_gR (fx_mk σ b F) (some p) 11 0 = some (some s) := fo_gR (r := some s) m1 m3 rfl
  have h8 : f_Bld_has (some (fx_ad b 31)) (8 : Int32) (fx_mk σ b F) = _ := c_has (σ := σ) (b := b) c8 hw (i := 8) (by decide)
  have h4 : f_Bld_has (some (fx_ad b 31)) (4 : Int32) (fx_mk σ b F) = _ := c_has (σ := σ) (b := b) c8 hw (i := 4) (by decide)
  have h2 : f_Bld_has (some (fx_ad b 31)) (2 : Int32) (fx_mk σ b F) = _ := c_has (σ := σ) (b := b) c8 hw (i := 2) (by decide)
  have h16 : f_Bld_has (some (fx_ad b 31)) (16 : Int32) (fx_mk σ b F) = _ := c_has (σ := σ) (b := b) c8 hw (i := 16) (by decide)
  have g6 : rb_gI (fx_mk σ b F) (some (ad t)) 12 6 = some (nI (b2 (rFl R 2 t))) := by
    rw [n_gI c4.1 ht (f := 6) ⟨by decide, by decide, by decide⟩, (c6.2.2.2.2.2.1 t ht).2.2.1]
  have h513 : F.1 513 = nI (b2 (rBo R 0)) := c6.2.2.2.2.1.2.2.1
  -- from the expansion on
  have hj72 : ∀ fgv : Bool, ∃ σ' F', f_Bld_carryOut_j72 (some (fx_ad b 31)) (some p) (some (ad t)) (nI (b2 fgv)) (fx_mk σ b F) = some (some (.int (nI (b2 (match xr (x_auto (pN S) ch ds nw t) (vl gv (rDf R)) (c.drop (nmk c)) with | none => (fgv, S, n) | some o => x_aft w c fgv ((x_has c 64 || x_silent R w t) && !op w 2) o S n).1))), fx_mk σ' b F') ∧ cres σ b F R gv w S ad I src σ' F' (match xr (x_auto (pN S) ch ds nw t) (vl gv (rDf R)) (c.drop (nmk c)) with | none => (fgv, S, n) | some o => x_aft w c fgv ((x_has c 64 || x_silent R w t) && !op w 2) o S n).2.1 (match xr (x_auto (pN S) ch ds nw t) (vl gv (rDf R)) (c.drop (nmk c)) with | none => (fgv, S, n) | some o => x_aft w c fgv ((x_has c 64 || x_silent R w t) && !op w 2) o S n).2.2 := by
    intro fgv
    obtain ⟨hV, hVl⟩ := vl_ok2 hin hgv
    have hA := auto_ok c5 hch hds (nw := nw) ht
    have h16c : ∀ c, c ∈ x_join (x_newer (pN S) ds nw) → c < 128 := join_c (fun s hs => by
      obtain ⟨x, x1, x2⟩ := List.mem_map.mp hs
      rw [← x2]
      exact (sp_ok (c5.2 x.1 (hds x.1 (List.of_mem_zip (List.mem_filter.mp x1).1).1))).2.2)
    obtain ⟨F1, a1, a2, a3, a4, a5⟩ := c_expand (F := F) hb c1 hA hV hVl c7 c6.2.2.2.2.2.2 c2 c3 (r := some (ad t)) (fun F' hf' hR' => c_auto hb (nx_cf c4.1 hf' (by decide) (by decide)) c5 ht t1 (fun x hx => ⟨(hch.1 x hx).1, t2 x hx⟩) t3 (tw_cf t5 hf' (by decide) (by decide)) h16c hR' _) m4 (fun d hd => hck d (List.mem_of_mem_drop hd)) (by rw [List.length_drop]; omega)
    have h1 : cst σ b F1 R gv w S n ad I src := cst_cf h a3 a2 a4 (by decide) (by decide) (by decide) (by decide)
    have hcf1 : cf zUi zUa [1306] [4, 24] F F1 := cf_mono a3 (by decide) (by decide) (by decide) (by decide)
    cases hx : xr (x_auto (pN S) ch ds nw t) (vl gv (rDf R)) (c.drop (nmk c)) with
    | none =>
      rw [hx] at a1
      refine ⟨σ, F1, ?_, ad, I, src, h1, nxo_refl _ _ _ _, hx_refl _, gn_same (gw_refl _), hcf1⟩
      unfold f_Bld_carryOut_j72
      simp only [↓fx_bc, gs, Option.bind_some, ↓cI_of a1]
      rw [if_pos (show nI (b2 (none : Option (List Nat)).isSome) = 0 from rfl), if_pos (isZ_b2 _)]
    | some o =>
      rw [hx] at a1
      obtain ⟨hto1, hto2⟩ := a5 o hx
      simp only
      obtain ⟨σ2, F2, d1, d2⟩ := c_j118 hin hl hw h1 hC hto1 hto2 hcm fgv ((x_has c 64 || x_silent R w t) && !op w 2)
      refine ⟨σ2, F2, ?_, cres_pre (hx_refl _) (gn_same (gw_refl _)) hcf1 rfl d2⟩
      have g3 : rb_gI (fx_mk σ b F1) (some p) 11 3 = some (nI (b2 (x_has c 64))) := fo_gI m1 m3 rfl
      have hsil := c_isSilent h1 hw ht
      have h21 : f_Bld_has (some (fx_ad b 31)) (2 : Int32) (fx_mk σ b F1) = _ := c_has (σ := σ) (b := b) h1.2.2.2.2.2.2.2.1 hw (i := 2) (by decide)
      have hj105 : (x_has c 64 || x_silent R w t) = true → f_Bld_carryOut_j105 (some (fx_ad b 31)) (some p) (nI (b2 fgv)) (fx_mk σ b F1) = f_Bld_carryOut_j118 (some (fx_ad b 31)) (some p) (nI (b2 fgv)) (nI (b2 ((x_has c 64 || x_silent R w t) && !op w 2))) (fx_mk σ b F1) := by
        intro hq
        unfold f_Bld_carryOut_j105 f_Bld_carryOut_j117
        simp only [↓fx_bc, ↓cI_of h21]
        rw [hq]
        cases op w 2 <;> rfl
      unfold f_Bld_carryOut_j72
      simp only [↓fx_bc, gs, Option.bind_some, ↓cI_of a1]
      rw [if_neg (show ¬ nI (b2 (some o).isSome) = 0 from (by decide : ¬ nI (b2 true) = 0)), g3, Option.bind_some]
      cases e64 : x_has c 64 with
      | true =>
        rw [if_neg (show ¬ nI (b2 true) = 0 by decide), hj105 (by rw [e64, Bool.true_or]), d1]
        rw [e64]
      | false =>
        rw [if_pos (show nI (b2 false) = 0 from rfl)]
        simp only [↓cI_of hsil]
        cases es : x_silent R w t with
        | true =>
          rw [if_neg (show ¬ nI (b2 true) = 0 by decide), hj105 (by rw [es, Bool.or_true]), d1]
          rw [e64, es]
        | false =>
          rw [if_pos (show nI (b2 false) = 0 from rfl)]
          unfold f_Bld_carryOut_j117
          rw [e64, es] at d1
          exact d1
  have hj34 : f_Bld_carryOut_j34 (some (fx_ad b 31)) (some p) (some (ad t)) (fx_mk σ b F) = f_Bld_carryOut_j72 (some (fx_ad b 31)) (some p) (some (ad t)) (nI (b2 (x_forg R w t c))) (fx_mk σ b F) := by
    unfold f_Bld_carryOut_j34 f_Bld_carryOut_j67 x_forg
    simp only [g2, g6, Option.bind_some, ↓fx_bc, h513, ↓cI_of h16]
    cases x_has c 45 <;> cases rFl R 2 t <;> cases rBo R 0 <;> cases op w 16 <;> rfl
  rw [x_carry_eq]
  by_cases e : x_has c 43 = false ∧ (op w 8 = true ∨ op w 4 = true ∧ op w 2 = false)
  · rw [if_pos e]
    refine ⟨σ, F, ?_, ad, I, src, h, nxo_refl _ _ _ _, hx_refl _, gn_same (gw_refl _), cf_refl _ _ _ _ _⟩
    unfold f_Bld_carryOut
    simp only [g4, Option.bind_some, ↓fx_bc, ↓cI_of h8, ↓cI_of h4, ↓cI_of h2]
    rw [e.1, if_pos (show nI (b2 false) = 0 from rfl)]
    rcases e.2 with e8 | ⟨e4, e2⟩
    · rw [e8]
      rfl
    · rw [e4, e2]
      cases op w 8 <;> rfl
  · rw [if_neg e]
    obtain ⟨σ2, F2, a1, a2⟩ := hj72 (x_forg R w t c)
    refine ⟨σ2, F2, ?_, a2⟩
    rw [← hj34] at a1
    unfold f_Bld_carryOut
    simp only [g4, Option.bind_some, ↓fx_bc, ↓cI_of h8, ↓cI_of h4, ↓cI_of h2]
    cases e43 : x_has c 43 with
    | true =>
      rw [if_neg (show ¬ nI (b2 true) = 0 by decide)]
      exact a1
    | false =>
      rw [if_pos (show nI (b2 false) = 0 from rfl)]
      cases e8 : op w 8 with
      | true => exact absurd ⟨e43, Or.inl e8⟩ e
      | false =>
        rw [if_pos (show nI (b2 false) = 0 from rfl)]
        cases e4 : op w 4 with
        | false =>
          rw [if_pos (show nI (b2 false) = 0 from rfl)]
          exact a1
        | true =>
          rw [if_neg (show ¬ nI (b2 true) = 0 by decide)]
          cases e2 : op w 2 with
          | false => exact absurd ⟨e43, Or.inr ⟨e4, e2⟩⟩ e
          | true =>
            rw [if_neg (show ¬ nI (b2 true) = 0 by decide)]
            rw [e2] at a1
            exact a1
end
