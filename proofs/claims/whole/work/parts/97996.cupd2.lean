/-! the class: a name is updated, whole -/
def x_fate2 (R : RS) (gv : Nat → Option (List Nat)) (w t : Nat) (ch : CH) (S : BS) : Nat × BS :=
  if (pF S.1 t).1 = 0 ∨ rFl R 1 t = true ∨ true ∈ x_nw S t (x_deps R ch t) then
    (if (x_carries R gv w t ch (x_deps R ch t) (x_nw S t (x_deps R ch t)) (x_cmds R ch) (x_touched R w t ch S.1) S.2.1).1 = true then 2 else 3, ((x_carries R gv w t ch (x_deps R ch t) (x_nw S t (x_deps R ch t)) (x_cmds R ch) (x_touched R w t ch S.1) S.2.1).2.1, (x_carries R gv w t ch (x_deps R ch t) (x_nw S t (x_deps R ch t)) (x_cmds R ch) (x_touched R w t ch S.1) S.2.1).2.2, true, bG S))
  else (1, S)
theorem fin_fate2 (R : RS) (gv : Nat → Option (List Nat)) (w t : Nat) (ch : CH) (S : BS) : x_fin R gv w t ch S = wG (x_fate2 R gv w t ch S).2 t (x_fate2 R gv w t ch S).1 := by
  unfold x_fin x_fate2
  by_cases e : (pF S.1 t).1 = 0 ∨ rFl R 1 t = true ∨ true ∈ x_nw S t (x_deps R ch t)
  · rw [if_pos e, if_pos e]
    rfl
  · rw [if_neg e, if_neg e]
def x_fate (R : RS) (gv : Nat → Option (List Nat)) (w : Nat) (upd : Nat → BS → BS) (u : List Nat) (t : Nat) (S : BS) : Nat × BS := match x_choose R (pN S.1) (pF S.1) t with
  | none => (3, S)
  | some ch => if ((x_deps R ch t).foldl (x_dep w (t :: u) upd) (false, S)).1 = true then (3, ((x_deps R ch t).foldl (x_dep w (t :: u) upd) (false, S)).2) else x_fate2 R gv w t ch ((x_deps R ch t).foldl (x_dep w (t :: u) upd) (false, S)).2
theorem upd_fate (R : RS) (gv : Nat → Option (List Nat)) (w n : Nat) (u : List Nat) (t : Nat) (S : BS) : x_upd R gv w (n + 1) u t S = wG (x_fate R gv w (x_upd R gv w n (t :: u)) u t S).2 t (x_fate R gv w (x_upd R gv w n (t :: u)) u t S).1 := by
  rw [x_upd]
  unfold x_fate
  cases x_choose R (pN S.1) (pF S.1) t with
  | none => rfl
  | some ch =>
    simp only
    by_cases e : ((x_deps R ch t).foldl (x_dep w (t :: u) (x_upd R gv w n (t :: u))) (false, S)).1 = true
    · rw [if_pos e, if_pos e]
    · rw [if_neg e, if_neg e, fin_fate2]
section
variable {b : Nat} {R : RS} {gv : Nat → Option (List Nat)} {w : Nat}
theorem c_fate2 (hin : rin R) (hgv : ∀ m v, gv m = some v → tk v ∧ v.length ≤ 320) (hw : w < 64) {u : List Nat} {t : Nat} (ht : t ∈ u) {σ : rb_St} {F : fx_F} {S : BS} {ad : Nat → Nat} {I : Nat → Nat → Int32} {src : Nat → Option Nat} (hS : bok R S) (hu : uok (pN S.1) u) (h : bst σ b F R gv w u S ad I src) {ch : CH} (hch : chok (pN S.1) ch) (hg : chg R ch) (hsrc : src t = ch.2.1.map (fun x => ad x.1)) (h12 : I t 12 = og (rCm R) ch.1) (h13 : I t 13 = nI (b2 ch.2.2)) (h15 : ∀ x, ch.2.1 = some x → ∃ k, k ≤ ((pN S.1).getD t []).length ∧ x.2 = ((pN S.1).getD t []).take k ∧ I t 15 = nI k) (rT : Option Nat → Option Nat → Int32 → rb_St → Option rb_Rs) : ∃ σ' F', ((rb_fc (fx_mk σ b F) (some (fx_ad b 31)) 9).bind fun _ => rb_cI (f_Bld_isOutOfDate (some (fx_ad b 31)) (some (ad t)) (fx_mk σ b F)) fun x_5 σ_6 => if x_5 = 0 then (some (some (Value.int (1 : Int32)), σ_6)) else ((rb_pZ σ_6 (some (fx_ad b 31)) 9 6 (1 : Int32)).bind fun σ_7 => (rb_fc σ_7 (some (fx_ad b 31)) 9).bind fun _ => rb_cV (f_Bld_touchIfAsked (some (fx_ad b 31)) (some (ad t)) σ_7) fun σ_8 => rb_it (fun z : (Int32 × rb_St) => f_Bld_fateOf_b41 rT (some (fx_ad b 31)) (some (ad t)) (z.1) z.2) ((0 : Int32), σ_8))) = some (some (Value.int (nI (x_fate2 R gv w t ch S).1)), fx_mk σ' b F') ∧ bres σ b F R gv w u S ad I src σ' F' (x_fate2 R gv w t ch S).2 := by
  obtain ⟨hc, h3106, hfa, hfz⟩ := h
  have hc0 := hc
  obtain ⟨c1, c2, c3, c4, c5, c6, c7, c8, c9⟩ := hc0
  have hb := c1.1
  have htN := hu.2 t ht
  have hR := hin.1
  have hl := hS.2.2.2.2
  have hpc : pC S.1 ≤ 2000000000 := by have := hS.2.2.1; omega
  have hB : bnx (pN S.1) I S := fun k hk => ⟨(hfa k hk).1, hS.2.2.2.1 k, (c4.2.2.1 k hk).1, Nat.lt_of_le_of_lt (c4.2.2.2.2.2 k) (by omega)⟩
  have hds : ∀ d, d ∈ x_deps R ch t → d < (pN S.1).length := fun d hd => deps_N hR hl hch hd
  obtain ⟨F1, a1, a2, a3, a4⟩ := c_outOfDate (F := F) (S := S) (R := R) (ch := ch) hb c2 c5 c4.1 hB htN ((c6.2.2.2.2.2.1 t htN).2.1) c6.2.2.2.1 (fun i hi => ⟨Nat.lt_of_lt_of_le (hR.2.2.2.2.1.2 i hi).1 hl, Nat.lt_of_lt_of_le (hR.2.2.2.2.1.2 i hi).2 hl⟩) hR.2.2.2.2.1.1 hsrc (fun x hx => (hch.1 x hx).1)
  have hc1 : cst σ b F1 R gv w S.1 S.2.1 ad I src := cst_cf hc a3 a2 (lg_cf c3 a3 (by decide)) (by decide) (by decide) (by decide) (by decide)
  unfold x_fate2
  by_cases e : (pF S.1 t).1 = 0 ∨ rFl R 1 t = true ∨ true ∈ x_nw S t (x_deps R ch t)
  · rw [if_pos e]
    rw [decide_eq_true e] at a1
    have hf2 : cf [3106] [] [] [] F1 (fx_I F1 3106 1) := cf_I (cf_refl _ _ _ _ _) (by decide)
    have hc2 : cst σ b (fx_I F1 3106 1) R gv w S.1 S.2.1 ad I src := cst_cf hc1 hf2 (fx_lnI a2) (lg_cf (lg_cf c3 a3 (by decide)) hf2 (by decide)) (by decide) (by decide) (by decide) (by decide)
    obtain ⟨σ3, F3, I3, d1, d2, d3, d4, d5, d6⟩ := c_touchIf (ch := ch) hw hc2 htN hR.2.2.2.1 hg h12
    have hNt : pN (x_touched R w t ch S.1) = pN S.1 := by
      unfold x_touched
      split <;> rfl
    have hCt : pC (x_touched R w t ch S.1) ≤ pC S.1 + 1 := by
      unfold x_touched
      split
      · exact Nat.le_refl _
      · exact Nat.le_succ _
    have hct1 : ct (fx_I F1 3106 1) R (pN S.1) ad I src t ch (x_deps R ch t) (x_nw S t (x_deps R ch t)) := ⟨hsrc, h15, h13, h12, tw_cf a4 hf2 (by decide) (by decide)⟩
    have hnx3 : nxo (pN S.1) ad I src (pN S.1) ad I3 src := ⟨Nat.le_refl _, fun k _ => ⟨rfl, rfl, fun f h2 h3 => d3 k f h2 h3, rfl⟩, fun k k1 k2 => absurd k2 (by omega)⟩
    have hct3 := ct_nxo hct1 hnx3 d6 (by decide) (by decide) htN hch hds
    obtain ⟨σ4, F4, e1, ad4, I4, src4, e2, e3, e4, e5, e6⟩ := c_fateLoop (b := b) (gv := gv) hin hgv hw (t := t) (ch := ch) (ds := x_deps R ch t) (nw := x_nw S t (x_deps R ch t)) hg rT (rCm R).length 0 σ3 F3 (x_touched R w t ch S.1) S.2.1 ad I3 src (by omega) d2 (by rw [hNt]; exact hct3) (by rw [hNt]; exact hch) (by rw [hNt]; exact hds) (by rw [hNt]; exact htN) (by rw [hNt]; exact hl) (by have := hR.2.2.2.1; omega)
    rw [List.drop_zero] at e1 e2 e3 e5
    have hcmds : prc (rCm R) ch.1 = x_cmds R ch := rfl
    rw [hcmds] at e1 e2 e3 e5
    rw [hNt] at e3 e5
    have hnx4 := nxo_trans hnx3 e3
    generalize hxc : x_carries R gv w t ch (x_deps R ch t) (x_nw S t (x_deps R ch t)) (x_cmds R ch) (x_touched R w t ch S.1) S.2.1 = xc at e1 e2 e3 e5 hnx4 ⊢
    have hcfa : cf zVi zVa [1306] [4, 24] F F4 := cf_trans (cf_trans (cf_mono a3 (by decide) (by decide) (by decide) (by decide)) (cf_mono hf2 (by decide) (by decide) (by decide) (by decide))) (cf_trans (cf_mono d6 (by decide) (by decide) (by decide) (by decide)) (cf_mono e6 (by decide) (by decide) (by decide) (by decide)))
    refine ⟨σ4, F4, ?_, ad4, I4, src4, ⟨e2, ?_, fun k hk => ?_, fun k hk => hfz k (Nat.le_trans hnx4.1 hk)⟩, ugo_nxo hnx4, hx_trans d4 e4, gn_trans (gn_same d5) e5 (Nat.le_refl _) e3.1, hcfa⟩
    · simp only [↓fx_bc, ↓cI_of a1]
      rw [if_neg (show ¬ nI (b2 true) = 0 by decide)]
      simp only [↓fx_bc, ↓fx_vc hb]
      rw [if_pos (Or.inr trivial)]
      simp only [↓cV_of d1]
      exact e1
    · rw [e6.1 3106 (by decide), d6.1 3106 (by decide), fx_I_1, if_pos rfl]
      rfl
    · by_cases ek : k < (pN S.1).length
      · have hx := (hnx4.2.1 k ek).2.2.1
        rw [hx 10 (by decide) (by decide), hx 11 (by decide) (by decide)]
        exact hfa k ek
      · have hx := (hnx4.2.2 k (by omega) hk).1
        rw [hx 10 (by decide) (by decide), hx 11 (by decide) (by decide)]
        refine ⟨?_, ?_⟩
        · show nI0 k 10 = nI (bG S k)
          rw [hfz k (by omega)]
          rfl
        · rw [decide_eq_false (fun hm => ek (hu.2 k hm))]
          rfl
  · rw [if_neg e]
    rw [decide_eq_false e] at a1
    refine ⟨σ, F1, ?_, ad, I, src, ⟨hc1, by rw [a3.1 3106 (by decide)]; exact h3106, hfa, hfz⟩, ugo_refl _ _ _ _ _, hx_refl _, gn_same (gw_refl _), cf_mono a3 (by decide) (by decide) (by decide) (by decide)⟩
    simp only [↓fx_bc, ↓cI_of a1]
    rw [if_pos (show nI (b2 false) = 0 from rfl)]
    rfl
theorem c_fate (hin : rin R) (hg : gin R) (hgv : ∀ m v, gv m = some v → tk v ∧ v.length ≤ 320) (hw : w < 64) {u : List Nat} {upd : Nat → BS → BS} {rT : Option Nat → Option Nat → Int32 → rb_St → Option rb_Rs} {dp : Nat} {t : Nat} (hup1 : hup R (t :: u) upd) (hT : rTk b R gv w (t :: u) upd rT (dp + 1)) {σ : rb_St} {F : fx_F} {S : BS} {ad : Nat → Nat} {I : Nat → Nat → Int32} {src : Nat → Option Nat} (hS : bok R S) (hu : uok (pN S.1) (t :: u)) (htu : ¬ t ∈ u) (h : bst σ b F R gv w (t :: u) S ad I src) : ∃ σ' F', f_Bld_fateOf rT (some (fx_ad b 31)) (some (ad t)) (nI dp) (fx_mk σ b F) = some (some (Value.int (nI (x_fate R gv w upd u t S).1)), fx_mk σ' b F') ∧ ∃ ad' I' src', bst σ' b F' R gv w (t :: u) (x_fate R gv w upd u t S).2 ad' I' src' ∧ ugo u (pN S.1) ad I src (pN (x_fate R gv w upd u t S).2.1) ad' I' src' ∧ hx σ σ' ∧ gn (pN S.1) (pN (x_fate R gv w upd u t S).2.1) σ σ' ∧ cf zVi zVa [1306] [4, 24] F F' := by
  obtain ⟨hc, h3106, hfa, hfz⟩ := h
  have hc0 := hc
  obtain ⟨c1, c2, c3, c4, c5, c6, c7, c8, c9⟩ := hc0
  have htN := hu.2 t (List.mem_cons_self ..)
  have hR := hin.1
  have hpc : pC S.1 ≤ 2000000000 := by have := hS.2.2.1; omega
  have hchx : chx σ b F R (pN S.1) (pF S.1) ad I src := ⟨c4.1, c6.1, c6.2.1, fun k hk => ⟨(c6.2.2.2.2.2.1 k hk).1, (c4.2.2.1 k hk).1, Nat.lt_of_le_of_lt (c4.2.2.2.2.2 k) (by omega)⟩⟩
  obtain ⟨σ1, F1, I1, src1, a1, a2, a3, a4, a5, a6, a7, a8, a9⟩ := c_choose c1 hin hg c5 htN c2 hchx (fun k hk => (c6.2.2.2.2.2.1 k hk).2.2.2.2) c6.2.2.2.2.1.1
  -- the state after the choice
  have hI1 : ∀ k f, f ∉ [12, 13, 15] → I1 k f = I k f := fun k f hf => a7 k f (fun hc => hf hc.2)
  have hcps1 : cps σ1 b F1 S.1 ad I1 src1 := ⟨a4, by rw [a3.1 302 (by decide)]; exact c4.2.1, fun k hk => by rw [hI1 k 2 (by decide), hI1 k 3 (by decide)]; exact c4.2.2.1 k hk, c4.2.2.2.1, tw_cf c4.2.2.2.2.1 a3 (by decide) (by decide), c4.2.2.2.2.2⟩
  obtain ⟨r1, r2, r3, r4, r5, r6, r7⟩ := cr_hx c6 a5 a3 (by decide) (by decide) (by decide) (by decide)
  have hc1 : cst σ1 b F1 R gv w S.1 S.2.1 ad I1 src1 := ⟨kx_hx c1 a5, a2, lg_cf c3 a3 (by decide), hcps1, c5, ⟨r1, r2, r3, r4, r5, fun k hk => by rw [hI1 k 4 (by decide), hI1 k 5 (by decide), hI1 k 6 (by decide), hI1 k 7 (by decide), hI1 k 9 (by decide)]; exact r6 k hk, r7⟩, vx_hx c7 a5 (a3.2.2.2.2 18 (by decide)), by rw [a3.1 3105 (by decide)]; exact c8, by rw [a3.1 3107 (by decide)]; exact c9⟩
  have h1 : bst σ1 b F1 R gv w (t :: u) S ad I1 src1 := ⟨hc1, by rw [a3.1 3106 (by decide)]; exact h3106, fun k hk => by rw [hI1 k 10 (by decide), hI1 k 11 (by decide)]; exact hfa k hk, hfz⟩
  have hu1 : ugo u (pN S.1) ad I src (pN S.1) ad I1 src1 := ⟨Nat.le_refl _, fun _ _ => ⟨rfl, rfl⟩, fun k hk _ => by
    have hne : k ≠ t := fun e => htu (e ▸ hk)
    exact ⟨a7 k 12 (fun hc => hne hc.1), a7 k 13 (fun hc => hne hc.1), a7 k 15 (fun hc => hne hc.1), a8 k hne⟩⟩
  have hcf1 : cf zVi zVa [1306] [4, 24] F F1 := cf_mono a3 (by decide) (by decide) (by decide) (by decide)
  unfold x_fate
  cases hx : x_choose R (pN S.1) (pF S.1) t with
  | none =>
    rw [hx] at a1
    refine ⟨σ1, F1, ?_, ad, I1, src1, h1, hu1, a5, gn_same a6, hcf1⟩
    unfold f_Bld_fateOf
    simp only [↓fx_bc, ↓cI_of a1]
    rw [if_pos (show nI (b2 (none : Option CH).isSome) = 0 from rfl)]
    rfl
  | some ch =>
    rw [hx] at a1
    obtain ⟨p12, psrc, p13, p15⟩ := a9 ch hx
    have hch := choose_ok hR c5 htN hx
    have hgg := choose_g hg hx
    simp only
    obtain ⟨σ2, F2, b1, ad2, I2, src2, b2', b3, b4, b5, b6⟩ := c_need hR hw hup1 hT (List.mem_cons_self ..) hS hu h1 hch psrc
    have hl := hS.2.2.2.2
    have hdep := dep_ok (w := w) hup1 (x_deps R ch t) (false, S) hS hu (fun d hd => deps_N hR hl hch hd)
    generalize hxf : (x_deps R ch t).foldl (x_dep w (t :: u) upd) (false, S) = xf at b1 b2' b3 b5 hdep ⊢
    have htu2 : t ∈ t :: u := List.mem_cons_self ..
    by_cases e : xf.1 = true
    · rw [if_pos e]
      refine ⟨σ2, F2, ?_, ad2, I2, src2, b2', ugo_trans hu1 (ugo_sub b3), hx_trans a5 b4, gn_trans (gn_same a6) b5 (Nat.le_refl _) b3.1, cf_trans hcf1 b6⟩
      rw [e] at b1
      unfold f_Bld_fateOf
      simp only [↓fx_bc, ↓cI_of a1]
      rw [if_neg (show ¬ nI (b2 (some ch).isSome) = 0 from (by decide : ¬ nI (b2 true) = 0))]
      simp only [↓fx_bc, ↓cI_of b1]
      rw [if_pos (show nI (b2 (!true)) = 0 from rfl)]
      rfl
    · rw [if_neg e]
      rw [Bool.eq_false_iff.mpr e] at b1
      obtain ⟨u12, u13, u15, usrc⟩ := b3.2.2 t htu2 htN
      have hch2 : chok (pN xf.2.1) ch := ⟨fun x hx => ⟨Nat.lt_of_lt_of_le (hch.1 x hx).1 b3.1, (hch.1 x hx).2⟩, hch.2⟩
      have hsrc2 : src2 t = ch.2.1.map (fun x => ad2 x.1) := by
        rw [usrc, psrc]
        cases hcc : ch.2.1 with
        | none => rfl
        | some x =>
          show some (ad x.1) = some (ad2 x.1)
          rw [(b3.2.1 x.1 (hch.1 x hcc).1).2]
      obtain ⟨σ3, F3, d1, ad3, I3, src3, d2, d3, d4, d5, d6⟩ := c_fate2 hin hgv hw htu2 hdep.1 (uok_mono hu hdep.2.1) b2' hch2 hgg hsrc2 (by rw [u12]; exact p12) (by rw [u13]; exact p13) (fun x hx => by
        rw [u15, (b3.2.1 t htN).1]
        exact p15 x hx) rT
      rw [(b3.2.1 t htN).2] at d1
      refine ⟨σ3, F3, ?_, ad3, I3, src3, d2, ugo_trans hu1 (ugo_trans (ugo_sub b3) (ugo_sub d3)), hx_trans a5 (hx_trans b4 d4), gn_trans (gn_same a6) (gn_trans b5 d5 b3.1 d3.1) (Nat.le_refl _) (Nat.le_trans b3.1 d3.1), cf_trans hcf1 (cf_trans b6 d6)⟩
      unfold f_Bld_fateOf
      simp only [↓fx_bc, ↓cI_of a1]
      rw [if_neg (show ¬ nI (b2 (some ch).isSome) = 0 from (by decide : ¬ nI (b2 true) = 0))]
      simp only [↓fx_bc, ↓cI_of b1]
      rw [if_neg (show ¬ nI (b2 (!false)) = 0 by decide)]
      simp only [↓fx_bc] at d1
      exact d1
end
