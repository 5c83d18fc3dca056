/-! the class: a rule line, whole -/
def xrB (R : RS) (n : Nat) (ws : List (List Nat)) (only : List Nat) : Bool × RS :=
  if only = q_SUF then x_sufL R ws
  else if only = q_PHO ∨ only = q_IGN ∨ only = q_SIL then x_markL R only ws
  else if only = q_DEF then (if ws.length = 1 then (true, wNu R (up1 (rNu R) 1 2)) else (false, R))
  else if n = 1 ∧ ws.length = 1 then (match x_from (rSf R) only with
    | some rs => x_end R rs
    | none => x_plain R n ws)
  else x_plain R n ws
theorem x_rule_eq (R : RS) (n : Nat) (ws : List (List Nat)) : x_rule R n ws = xrB (RL R) n ws (if n = 1 then ws.getD 0 [] else []) := (rfl)
section
variable {σ : rb_St} {b : Nat} {F : fx_F} {R : RS} {ad : Nat → Nat} {I : Nat → Nat → Int32} {src : Nat → Option Nat} {o : List Nat} {W : List (Nat × Nat)}
theorem rq_kind {σ1 : rb_St} (hq : rq σ b F R ad I src o W) (hh : hn σ σ1) (K : Int32) : rq σ1 b (fx_I F 2805 K) R ad I src o W := by
  obtain ⟨hk, hF, hlg, hin, h, hg, h0, hnx, h7, ht, hto, hwo, hw, h1, hkd, hnu⟩ := hq
  have hf : cf [2805] [] [] [] F (fx_I F 2805 K) := cf_I (cf_refl _ _ _ _ _) (by decide)
  exact ⟨kx_hx hk hh.1, fx_lnI hF, lg_cf hlg hf (by decide), hin, cr_hx h hh.1 hf (by decide) (by decide) (by decide) (by decide), hg, h0, nx_cf (nx_hn hnx hh) hf (by decide) (by decide), by rw [hf.1 2807 (by decide)]; exact h7, tw_cf ht hf (by decide) (by decide), hto, hwo, wc_cf hw hf (by decide) (by decide) (by decide), h1, hkd, hnu⟩
theorem c_ruleRest (hq : rq σ b F R ad I src o W) {n : Nat} (hn1 : 1 ≤ n) (hn : n ≤ W.length) {a : Nat} {only : List Nat} (hol : only.length ≤ 320) (hs : sx σ b a only) : ∃ σ' F', f_Reader_readRuleLine_j107 (some (fx_ad b 28)) (nI n) (some a) (fx_mk σ b F) = some (some (.int (nI (b2 (xrB R n (wl o W) only).1))), fx_mk σ' b F') ∧ rres σ b F (rN R) ad I 264 19860 (xrB R n (wl o W) only) σ' F' := by
  have hq0 := hq
  obtain ⟨hk, hF, hlg, hin, h, hg, h0, hnx, h7, ht, hto, hwo, hw, h1, hkd, hnu⟩ := hq0
  have h60 := hwo.1
  obtain ⟨σ1, k1, k2, k3⟩ := c_kindOf (F := F) hk h.1 hin.1.2.1.1 hin.1.2.1 hw h60 hol hs
  have hk1 := kx_hx hk k2.1
  have hb1 := hk1.1
  have hs1 := sx_hx hs k2.1
  obtain ⟨v, hv⟩ := sx_fc hs1
  have hfr : ∀ K, cf zQi zQa zQr zQq F (fx_I F 2805 K) := fun K => cf_I (cf_refl _ _ _ _ _) (by decide)
  have h5 : ∀ K, (fx_I F 2805 K).1 2805 = K := fun K => by rw [fx_I_1, if_pos rfl]
  have he : ∀ K, f_Str_equals (some a) (some (rb_k (fx_mk σ1 b (fx_I F 2805 K)) 1)) (fx_mk σ1 b (fx_I F 2805 K)) = some (some (.int (nI (b2 (decide (only = q_SUF))))), fx_mk σ1 b (fx_I F 2805 K)) := fun K => c_equals (F := fx_I F 2805 K) hs1 (hk1.2.2 1 (by decide))
  have hcnt : ∀ K, f_Words_count (some (fx_ad b 21)) (fx_mk σ1 b (fx_I F 2805 K)) = some (some (.int (nI W.length)), fx_mk σ1 b (fx_I F 2805 K)) := fun K => c_wcount (σ := σ1) (b := b) (rq_kind hq k2 K).2.2.2.2.2.2.2.2.2.2.2.2.1
  have hwl := wl_len o W
  unfold xrB
  by_cases e1 : only = q_SUF
  · have hK : knd (rSf R) W.length only = 1 := if_pos (Or.inl e1)
    rw [hK] at k1
    obtain ⟨σ2, F2, d1, d2⟩ := c_ruleSuf (rq_kind hq k2 1) (h5 1)
    rw [if_pos e1]
    refine ⟨σ2, F2, ?_, rres_mono (rres_pre k2.1 k3 (hfr 1) d2) (by decide) (by decide)⟩
    have he1 := he 1
    rw [decide_eq_true e1] at he1
    unfold f_Reader_readRuleLine_j107
    simp only [↓fx_bc, ↓cI_of k1, ↓fx_vc hb1, h5, hv, Option.bind_some, ↓cI_of he1, ↓cI_of d1]
    rw [if_pos trivial, if_neg (show ¬ nI (b2 true) = 0 by decide), if_pos (isZ_b2 _)]
  · rw [if_neg e1]
    by_cases e2 : only = q_PHO ∨ only = q_IGN ∨ only = q_SIL
    · have hK : knd (rSf R) W.length only = 1 := if_pos (Or.inr e2)
      rw [hK] at k1
      obtain ⟨σ2, F2, d1, d2⟩ := c_ruleMark (rq_kind hq k2 1) (h5 1) hs1
      rw [if_pos e2]
      refine ⟨σ2, F2, ?_, rres_mono (rres_pre k2.1 k3 (hfr 1) d2) (by decide) (by decide)⟩
      have he1 := he 1
      rw [decide_eq_false e1] at he1
      have hc1 := hcnt 1
      unfold f_Reader_readRuleLine_j107
      simp only [↓fx_bc, ↓cI_of k1, ↓fx_vc hb1, h5, hv, Option.bind_some, ↓cI_of he1, ↓cI_of hc1]
      rw [if_pos trivial, if_pos (show nI (b2 false) = 0 from rfl)]
      exact d1
    · rw [if_neg e2]
      have hn4 : ¬ (only = q_SUF ∨ only = q_PHO ∨ only = q_IGN ∨ only = q_SIL) := fun h => h.elim e1 e2
      by_cases e5 : only = q_DEF
      · have hK : knd (rSf R) W.length only = 4 := by unfold knd; rw [if_neg hn4, if_pos e5]
        rw [hK] at k1
        rw [if_pos e5, hwl]
        have hc4 := hcnt 4
        obtain ⟨_, f2, f3, _, f5, _, _, f8, f9, _⟩ := rq_kind hq k2 4
        have hfun : f_Reader_readRuleLine_j107 (some (fx_ad b 28)) (nI n) (some a) (fx_mk σ b F) = some (some (.int (nI (b2 (decide (W.length = 1))))), fx_mk σ1 b (fx_I F 2805 4)) := by
          unfold f_Reader_readRuleLine_j107
          simp only [↓fx_bc, ↓cI_of k1, ↓fx_vc hb1, h5, ↓cI_of hc4]
          rw [if_neg (show ¬ (4 : Int32) = 1 by decide), if_neg (show ¬ (4 : Int32) = 2 by decide), if_neg (show ¬ (4 : Int32) = 3 by decide), if_pos trivial]
          by_cases ew : W.length = 1
          · rw [if_pos (show nI W.length = (1 : Int32) by rw [ew]; rfl), decide_eq_true ew]
            rfl
          · rw [if_neg (show ¬ nI W.length = (1 : Int32) by rw [u_l1, u_eq (by omega) (by omega)]; exact ew), decide_eq_false ew]
            rfl
        refine ⟨σ1, fx_I F 2805 4, ?_, ?_⟩
        · rw [hfun]
          by_cases ew : W.length = 1
          · rw [if_pos ew, decide_eq_true ew]
          · rw [if_neg ew, decide_eq_false ew]
        · by_cases ew : W.length = 1
          · rw [if_pos ew]
            refine ⟨ad, I, src, f8, nxr_refl _ _ _, k2.1, gw_mono k3 (by decide) (by decide), hfr 4, f2, f3, fun _ => ⟨f5, ⟨?_, fun _ => ?_, fun h2 => absurd (show (2 : Nat) = 3 from h2) (by decide), fun h2 => absurd (show (2 : Nat) = 4 from h2) (by decide)⟩, ⟨hg.1, hg.2.1, hg.2.2.1, fun hc => absurd h0 hc, fun h2 => absurd (show (2 : Nat) = 3 from h2) (by decide)⟩⟩⟩
            · show (fx_I F 2805 4).1 2805 = kd 2
              rw [h5]
              rfl
            · show (fx_I F 2805 4).1 2807 = oi (fg (rCm R) (rNu R 0))
              rw [f9, h0]
              rfl
          · rw [if_neg ew]
            exact ⟨ad, I, src, f8, nxr_refl _ _ _, k2.1, gw_mono k3 (by decide) (by decide), hfr 4, f2, f3, fun h => by cases h⟩
      · rw [if_neg e5, hwl]
        have hplain : knd (rSf R) W.length only = 2 → ∃ σ' F', f_Reader_readRuleLine_j107 (some (fx_ad b 28)) (nI n) (some a) (fx_mk σ b F) = some (some (.int (nI (b2 (x_plain R n (wl o W)).1))), fx_mk σ' b F') ∧ rres σ b F (rN R) ad I 264 19860 (x_plain R n (wl o W)) σ' F' := by
          intro hK
          rw [hK] at k1
          obtain ⟨σ2, F2, d1, d2⟩ := c_rulePlain (rq_kind hq k2 2) (h5 2) hn1 hn
          refine ⟨σ2, F2, ?_, rres_mono (rres_pre k2.1 k3 (hfr 2) d2) (by decide) (by decide)⟩
          have hc2 := hcnt 2
          unfold f_Reader_readRuleLine_j107
          simp only [↓fx_bc, ↓cI_of k1, ↓fx_vc hb1, h5, ↓cI_of hc2]
          rw [if_neg (show ¬ (2 : Int32) = 1 by decide), if_pos trivial]
          exact d1
        by_cases ew : n = 1 ∧ W.length = 1
        · rw [if_pos ew]
          cases hx : x_from (rSf R) only with
          | none =>
            exact hplain (by unfold knd; rw [if_neg hn4, if_neg e5, hx, if_neg (fun h => by cases h.2)])
          | some rs =>
            have hK : knd (rSf R) W.length only = 3 := by unfold knd; rw [if_neg hn4, if_neg e5, hx, if_pos ⟨ew.2, rfl⟩]
            rw [hK] at k1
            obtain ⟨σ2, F2, d1, d2⟩ := c_ruleEnd (rq_kind hq k2 3) (h5 3) hol hs1 hx
            refine ⟨σ2, F2, ?_, rres_mono (rres_pre k2.1 k3 (hfr 3) d2) (by decide) (by decide)⟩
            unfold f_Reader_readRuleLine_j107
            simp only [↓fx_bc, ↓cI_of k1, ↓fx_vc hb1, h5, ↓cI_of d1]
            rw [if_neg (show ¬ (3 : Int32) = 1 by decide), if_neg (show ¬ (3 : Int32) = 2 by decide), if_pos trivial, if_pos (isZ_b2 _)]
        · rw [if_neg ew]
          refine hplain ?_
          unfold knd
          rw [if_neg hn4, if_neg e5, if_neg (fun h => ew ⟨by omega, h.1⟩)]
theorem au_none {σ : rb_St} {b : Nat} {V : Nat → List Nat} {F : fx_F} (h : F.2.2.2.1 1306 = none) : AU σ b (fun _ => none) V F := ⟨rfl, Or.inl ⟨h, fun _ => rfl⟩⟩
/-- what the reader holds between two lines -/
def rs (σ : rb_St) (b : Nat) (F : fx_F) (R : RS) (ad : Nat → Nat) (I : Nat → Nat → Int32) (src : Nat → Option Nat) (gv : Nat → Option (List Nat)) : Prop := kx σ b ∧ fx_ln F ∧ lg F ∧ rin R ∧ cr σ b F R ad I ∧ rd F R I ∧ gin R ∧ nx σ b F (rN R) ad I src ∧ vx σ b F 18 gv ∧ (∀ m v, gv m = some v → tk v ∧ v.length ≤ 320)
theorem vl_ok2 {gv : Nat → Option (List Nat)} {R : RS} (hin : rin R) (hgv : ∀ m v, gv m = some v → tk v ∧ v.length ≤ 320) : vok (vl gv (rDf R)) ∧ ∀ m, (vl gv (rDf R) m).length ≤ 320 := by
  have hdf := hin.1.2.2.2.2.2.1
  have key : ∀ m, tk (vl gv (rDf R) m) ∧ (vl gv (rDf R) m).length ≤ 320 := by
    intro m
    unfold vl
    cases hg : gv m with
    | some v => exact hgv m v hg
    | none =>
      cases hd : rDf R m with
      | some v => exact hdf m v hd
      | none => exact ⟨fun c hc => (by cases hc), Nat.zero_le _⟩
  exact ⟨fun m => (key m).1, fun m => (key m).2⟩
theorem c_ruleLine {gv : Nat → Option (List Nat)} (hr : rs σ b F R ad I src gv) (hnu : rNu R 0 < 1000) {a : Nat} {s : List Nat} (hs : sx σ b a s) (hts : tk s) (hsl : s.length ≤ 320) : ∃ σ' F', f_Reader_readRuleLine (some (fx_ad b 28)) (some a) (fx_mk σ b F) = some (some (.int (nI (b2 (x_ruleT gv R s).1))), fx_mk σ' b F') ∧ rres σ b F (rN R) ad I 267 20110 (x_ruleT gv R s) σ' F' := by
  obtain ⟨hk, hF, hlg, hin, h, hd, hg, hnx, hv, hgv⟩ := hr
  have hb := hk.1
  obtain ⟨hV, hVl⟩ := vl_ok2 hin hgv
  obtain ⟨F1, a1, a2, a3, a4, a5⟩ := c_expand (F := F) hb hk (A := fun _ => none) (gv := gv) (df := rDf R) (fun d l h => by cases h) hV hVl hv h.2.2.2.2.2.2 hF hlg (r := none) (fun F' _ h => au_none h) hs hts hsl
  have hcf1 : cf zQi zQa zQr zQq F F1 := cf_mono a3 (by decide) (by decide) (by decide) (by decide)
  have hnx1 : nx σ b F1 (rN R) ad I src := nx_cf hnx a3 (by decide) (by decide)
  unfold x_ruleT
  have hfail : ∀ (G : fx_F), cf zQi zQa zQr zQq F G → G.1 301 = F.1 301 → G.2.2.2.2 4 = F.2.2.2.2 4 → fx_ln G → lg G → rres σ b F (rN R) ad I 267 20110 (false, R) σ G := fun G g1 g2 g3 g4 g5 => ⟨ad, I, src, nx_fr hnx ⟨g2, g3⟩, nxr_refl _ _ _, hx_refl _, gw_mono (gw_refl _) (by decide) (by decide), g1, g4, g5, fun h => by cases h⟩
  cases hx : xr (fun _ => none) (vl gv (rDf R)) s with
  | none =>
    rw [hx] at a1
    refine ⟨σ, F1, ?_, hfail F1 hcf1 (a3.1 301 (by decide)) (a3.2.2.2.2 4 (by decide)) a2 a4⟩
    unfold f_Reader_readRuleLine
    simp only [↓fx_bc, ↓cI_of a1]
    rw [if_pos (show nI (b2 (none : Option (List Nat)).isSome) = 0 from rfl)]
    rfl
  | some o =>
    rw [hx] at a1
    obtain ⟨ht, hto⟩ := a5 o hx
    have hol := tw_len a2 ht
    rw [show tcap 14 = 120 from rfl] at hol
    have hc : ∀ c, c ∈ o → c < 128 := fun c hc => ((tk_ok hto) c hc).2
    have hc6 : ∀ c, c ∈ o → c < 65536 := fun c h => Nat.lt_trans (hc c h) (by decide)
    have hidx := c_indexOf (σ := σ) (b := b) tO14 a2 ht hc6 (c := 58) (by decide)
    have hidx' : f_Text_indexOf (some (fx_ad b 14)) (58 : Int32) (fx_mk σ b F1) = _ := hidx
    have hcle := (fi_le (P := fun k => decide (o.getD k 0 = 58)) (n := o.length) (k := 0) (Nat.zero_le _)).2
    generalize hcc : fi (fun k => decide (o.getD k 0 = 58)) o.length 0 = c at hidx' hcle
    have hclr := c_wclear (σ := σ) (F := F1) hb
    have hf2 : cf [2104] [] [] [] F1 (fx_I F1 2104 0) := cf_I (cf_refl _ _ _ _ _) (by decide)
    have hwl1 := wds_len o c 0 c
    obtain ⟨F3, w1, w2, w3, w4⟩ := c_addWords (b := b) hb hc6 (q := c) hcle hol (c + 1) 0 0 [] (fx_I F1 2104 0) (by omega) (Nat.le_refl _) (fun h => by omega) (fun j j1 j2 => by omega) (by
      show (wds o c 0 c).length ≤ 61
      omega) (fx_lnI a2) (tw_cf ht hf2 (by decide) (by decide)) (wc_nil F1)
    have w2' : wc F3 (wds o c 0 c) := w2
    have w1' : f_Words_addWords (some (fx_ad b 21)) (0 : Int32) (nI c) (fx_mk σ b (fx_I F1 2104 0)) = some (none, fx_mk σ b F3) := w1
    have hcf3 : cf [2104] [22, 23] [] [] F1 F3 := cf_trans (cf_mono hf2 (by decide) (by decide) (by decide) (by decide)) (cf_fr w4)
    have hcf3' : cf zQi zQa zQr zQq F F3 := cf_trans hcf1 (cf_mono hcf3 (by decide) (by decide) (by decide) (by decide))
    have ht3 : tw F3 14 o := tw_cf ht hcf3 (by decide) (by decide)
    have hcnt3 := c_wcount (σ := σ) (b := b) w2'
    have hlg3 : lg F3 := lg_cf a4 hcf3 (by decide)
    have h301 : F3.1 301 = F.1 301 := (hcf3.1 301 (by decide)).trans (a3.1 301 (by decide))
    have h4 : F3.2.2.2.2 4 = F.2.2.2.2 4 := (hcf3.2.2.2.2 4 (by decide)).trans (a3.2.2.2.2 4 (by decide))
    have hilc := c_isLastColon (σ := σ) (b := b) w3 ht3 hc6 hcle
    have hpre : f_Reader_readRuleLine (some (fx_ad b 28)) (some a) (fx_mk σ b F) = if nI (wds o c 0 c).length = 0 then (some (some (.int (0 : Int32)), fx_mk σ b F3)) else (rb_cI (f_Reader_isLastColon (some (fx_ad b 14)) (nI c) (fx_mk σ b F3)) fun x_15 σ_16 => if x_15 = 0 then (some (some (.int (0 : Int32)), σ_16)) else ((rb_gR σ_16 (some (fx_ad b 28)) 8 3).bind fun r_17 => (rb_fc σ_16 (some (fx_ad b 14)) 2).bind fun _ => rb_cI (f_Text_length (some (fx_ad b 14)) σ_16) fun x_18 σ_19 => (rb_fc σ_19 r_17 6).bind fun _ => rb_cV (f_Words_addWords (r_17) ((nI c + (1 : Int32))) (x_18) σ_19) fun σ_20 => (rb_pI σ_20 (some (fx_ad b 28)) 8 7 (-1 : Int32)).bind fun σ_21 => if nI (wds o c 0 c).length = (1 : Int32) then ((rb_gR σ_21 (some (fx_ad b 28)) 8 3).bind fun r_22 => (rb_fc σ_21 r_22 6).bind fun _ => rb_cR (f_Words_cut (r_22) ((0 : Int32)) σ_21) fun r_23 σ_24 => f_Reader_readRuleLine_j107 (some (fx_ad b 28)) (nI (wds o c 0 c).length) (r_23) σ_24) else (f_Reader_readRuleLine_j107 (some (fx_ad b 28)) (nI (wds o c 0 c).length) ((some (rb_k σ_21 0))) σ_21))) := by
      unfold f_Reader_readRuleLine
      simp only [↓fx_bc, ↓cI_of a1]
      rw [if_neg (show ¬ nI (b2 (some o).isSome) = 0 from (by decide : ¬ nI (b2 true) = 0))]
      simp only [↓fx_bc, ↓fc14, ↓cI_of hidx', ↓cV_of hclr, ↓cV_of w1', ↓cI_of hcnt3]
    rw [hpre]
    simp only
    by_cases hw0 : (wds o c 0 c).length = 0
    · rw [if_pos (show nI (wds o c 0 c).length = 0 by rw [hw0]; rfl)]
      have hfalse : x_exp R o = (false, R) := by
        unfold x_exp
        unfold fi at hcc
        rw [Nat.sub_zero] at hcc
        cases hsr : sr (fun k => decide (o.getD k 0 = 58)) o.length 0 with
        | none => rfl
        | some c' =>
          rw [hsr] at hcc
          simp only at hcc ⊢
          subst hcc
          by_cases e : (sr (fun k => decide (o.getD k 0 = 58)) (o.length - (c' + 1)) (c' + 1)).isSome = true
          · rw [if_pos e]
          · rw [if_neg e, if_pos hw0]
      rw [hfalse]
      exact ⟨σ, F3, rfl, hfail F3 hcf3' h301 h4 w3 hlg3⟩
    · rw [if_neg (show ¬ nI (wds o c 0 c).length = 0 by rw [u_l0, u_eq (by omega) (by omega)]; exact hw0)]
      by_cases hlast : (decide (c < o.length) && (sr (fun k => decide (o.getD k 0 = 58)) (o.length - (c + 1)) (c + 1)).isNone) = true
      · rw [hlast] at hilc
        rw [Bool.and_eq_true] at hlast
        have hclt : c < o.length := of_decide_eq_true hlast.1
        have hsr : sr (fun k => decide (o.getD k 0 = 58)) o.length 0 = some c := by
          unfold fi at hcc
          rw [Nat.sub_zero] at hcc
          cases hsr : sr (fun k => decide (o.getD k 0 = 58)) o.length 0 with
          | none =>
            rw [hsr] at hcc
            simp only at hcc
            omega
          | some c' =>
            rw [hsr] at hcc
            simp only at hcc
            rw [hcc]
        have hno : ¬ (sr (fun k => decide (o.getD k 0 = 58)) (o.length - (c + 1)) (c + 1)).isSome = true := by
          have := hlast.2
          cases hz : sr (fun k => decide (o.getD k 0 = 58)) (o.length - (c + 1)) (c + 1) with
          | none => exact fun h => by cases h
          | some j =>
            rw [hz] at this
            cases this
        have hxe : x_exp R o = xrB (RL R) (wds o c 0 c).length (wl o (wds o c 0 c ++ wds o (o.length - (c + 1)) (c + 1) o.length)) (if (wds o c 0 c).length = 1 then (wl o (wds o c 0 c ++ wds o (o.length - (c + 1)) (c + 1) o.length)).getD 0 [] else []) := by
          unfold x_exp
          rw [hsr]
          simp only
          rw [if_neg hno, if_neg hw0, x_rule_eq]
        rw [hxe]
        have hlen3 := c_tlen (σ := σ) (b := b) tO14 ht3
        have hwok := wds_wok hol hclt
        have hwl := wds_len o (o.length - (c + 1)) (c + 1) o.length
        obtain ⟨F4, v1, v2, v3, v4⟩ := c_addWords (b := b) hb hc6 (q := o.length) (Nat.le_refl _) hol (o.length - c) (c + 1) (c + 1) (wds o c 0 c) F3 (by omega) (Nat.le_refl _) (fun h => by omega) (fun j j1 j2 => by omega) (by
          have := hwok.1
          show (wds o c 0 c ++ wds o (o.length - (c + 1)) (c + 1) o.length).length ≤ 61
          omega) w3 ht3 w2'
        have v2' : wc F4 (wds o c 0 c ++ wds o (o.length - (c + 1)) (c + 1) o.length) := v2
        have v1' : f_Words_addWords (some (fx_ad b 21)) (nI (c + 1)) (nI o.length) (fx_mk σ b F3) = some (none, fx_mk σ b F4) := v1
        have hWn : (wds o c 0 c).length ≤ (wds o c 0 c ++ wds o (o.length - (c + 1)) (c + 1) o.length).length := by rw [List.length_append]; omega
        have hwd0 : 0 < (wds o c 0 c).length := by omega
        generalize hW : wds o c 0 c ++ wds o (o.length - (c + 1)) (c + 1) o.length = W at *
        generalize hn : (wds o c 0 c).length = n at *
        have hcf4 : cf [2104, 2807] [22, 23] [] [] F1 (fx_I F4 2807 (-1)) := cf_I (cf_trans (cf_mono hcf3 (by decide) (by decide) (by decide) (by decide)) (cf_mono (cf_fr v4) (by decide) (by decide) (by decide) (by decide))) (by decide)
        have hln4 : fx_ln (fx_I F4 2807 (-1)) := fx_lnI v3
        have hf5 : cf [2807] [] [] [] F4 (fx_I F4 2807 (-1)) := cf_I (cf_refl _ _ _ _ _) (by decide)
        have hwc4 : wc (fx_I F4 2807 (-1)) W := wc_cf v2' hf5 (by decide) (by decide) (by decide)
        have hcf4' : cf zQi zQa zQr zQq F (fx_I F4 2807 (-1)) := cf_trans hcf1 (cf_mono hcf4 (by decide) (by decide) (by decide) (by decide))
        have hx4 : cf (zX ++ [2104, 2807]) (zY ++ [22, 23]) [1306] [] F (fx_I F4 2807 (-1)) := cf_trans (cf_mono a3 (by decide) (by decide) (by decide) (by decide)) (cf_mono hcf4 (by decide) (by decide) (by decide) (by decide))
        have ht4 : tw (fx_I F4 2807 (-1)) 14 o := tw_cf ht hcf4 (by decide) (by decide)
        have hcr4 : cr σ b (fx_I F4 2807 (-1)) R ad I := cr_hx h (hx_refl _) hx4 (by decide) (by decide) (by decide) (by decide)
        have hnx4 : nx σ b (fx_I F4 2807 (-1)) (rN R) ad I src := nx_cf hnx hx4 (by decide) (by decide)
        have h74 : (fx_I F4 2807 (-1)).1 2807 = -1 := by rw [fx_I_1, if_pos rfl]
        have hlg4 : lg (fx_I F4 2807 (-1)) := lg_cf a4 hcf4 (by decide)
        obtain ⟨hgl, hfg⟩ := gin_line hin hg
        generalize hG : fx_I F4 2807 (-1) = G at *
        have hrq : rq σ b G (RL R) ad I src o W := ⟨hk, hln4, hlg4, rin_line hin hnu, hcr4, hgl, hfg, hnx4, h74, ht4, hto, hwok, hwc4, by omega, rfl, Nat.succ_le_succ (Nat.zero_le _)⟩
        simp only [↓cI_of hilc]
        rw [if_neg (show ¬ nI (b2 true) = 0 by decide)]
        simp only [↓fx_bc, ↓fc14, ↓cI_of hlen3, show nI c + (1 : Int32) = nI (c + 1) by rw [u_l1, u_add], ↓cV_of v1', ↓fx_vc hb, hG]
        by_cases en : n = 1
        · rw [if_pos (show nI n = (1 : Int32) by rw [en]; rfl), if_pos en]
          obtain ⟨σ5, p, q1, q2, q3, q4⟩ := c_wcut (σ := σ) (b := b) hln4 hk ht4 hc hwok hwc4 (i := 0) (by omega)
          have q1' : f_Words_cut (some (fx_ad b 21)) (0 : Int32) (fx_mk σ b G) = _ := q1
          have hwd : (wl o W).getD 0 [] = wd o W 0 := wl_get (by omega)
          have hwdl : (wd o W 0).length ≤ 320 := by
            unfold wd slc
            rw [List.length_take, List.length_drop]
            omega
          have hrq5 : rq σ5 b G (RL R) ad I src o W := ⟨kx_hx hk q3.1, hln4, hlg4, rin_line hin hnu, cr_hx hcr4 q3.1 (cf_refl [] [] [] [] _) (by decide) (by decide) (by decide) (by decide), hgl, hfg, nx_hn hnx4 q3, h74, ht4, hto, hwok, hwc4, by omega, rfl, Nat.succ_le_succ (Nat.zero_le _)⟩
          obtain ⟨σ6, F6, r1, r2⟩ := c_ruleRest hrq5 (n := n) (by omega) hWn hwdl q2
          rw [hwd]
          refine ⟨σ6, F6, ?_, rres_mono (rres_pre q3.1 q4 hcf4' r2) (by decide) (by decide)⟩
          simp only [↓fx_bc, ↓cR_of q1']
          exact r1
        · rw [if_neg (show ¬ nI n = (1 : Int32) by rw [u_l1, u_eq (by omega) (by omega)]; exact en), if_neg en]
          obtain ⟨σ6, F6, r1, r2⟩ := c_ruleRest hrq (n := n) (by omega) hWn (only := []) (Nat.zero_le _) (show sx σ b (rb_k σ 0) [] from hk.2.2 0 (by decide))
          exact ⟨σ6, F6, r1, rres_mono (rres_pre (hx_refl _) (gw_refl _) hcf4' r2) (by decide) (by decide)⟩
      · rw [Bool.eq_false_iff.mpr hlast] at hilc
        simp only [↓cI_of hilc]
        rw [if_pos (show nI (b2 false) = 0 from rfl)]
        have hfalse : x_exp R o = (false, R) := by
          unfold x_exp
          unfold fi at hcc
          rw [Nat.sub_zero] at hcc
          cases hsr : sr (fun k => decide (o.getD k 0 = 58)) o.length 0 with
          | none => rfl
          | some c' =>
            rw [hsr] at hcc
            simp only at hcc ⊢
            subst hcc
            have hclt : c' < o.length := by
              have := sr_some hsr
              omega
            rw [decide_eq_true hclt, Bool.true_and] at hlast
            rw [if_pos (by
              cases hz : sr (fun k => decide (o.getD k 0 = 58)) (o.length - (c' + 1)) (c' + 1) with
              | none =>
                rw [hz] at hlast
                exact absurd rfl hlast
              | some j => rfl)]
        rw [hfalse]
        exact ⟨σ, F3, rfl, hfail F3 hcf3' h301 h4 w3 hlg3⟩
end
