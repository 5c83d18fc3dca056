/-! the class: the commands of a name -/
def prc (Cm : List (Nat × List Nat)) (x : Option Nat) : List (List Nat) := Cm.filterMap (fun y => if some y.1 = x then some y.2 else none)
theorem prc_c (y : Nat × List Nat) (Cm : List (Nat × List Nat)) (x : Option Nat) : prc (y :: Cm) x = if some y.1 = x then y.2 :: prc Cm x else prc Cm x := by
  unfold prc
  rw [List.filterMap_cons]
  by_cases e : some y.1 = x
  · rw [if_pos e, if_pos e]
  · rw [if_neg e, if_neg e]
theorem fg_self {Cm : List (Nat × List Nat)} {i : Nat} (h : i < Cm.length) : ∃ j, fg Cm (Cm.getD i (0, [])).1 = some j := by
  cases hx : fg Cm (Cm.getD i (0, [])).1 with
  | some j => exact ⟨j, rfl⟩
  | none =>
    have := sr_none (show sr (fun k => decide ((Cm.getD k (0, [])).1 = (Cm.getD i (0, [])).1)) Cm.length 0 = none from hx) i (Nat.zero_le _) (by omega)
    rw [decide_eq_true rfl] at this
    cases this
theorem og_iff {Cm : List (Nat × List Nat)} (hl : Cm.length ≤ 30) {x : Option Nat} (hx : ∀ g, x = some g → fg Cm g ≠ none) {i : Nat} (h : i < Cm.length) : (oi (fg Cm (Cm.getD i (0, [])).1) = og Cm x) ↔ some (Cm.getD i (0, [])).1 = x := by
  obtain ⟨j, hj⟩ := fg_self h
  have hjl := fg_lt hj
  rw [hj]
  cases x with
  | none =>
    refine ⟨fun e => ?_, fun e => by cases e⟩
    have e' : nI j = -1 := e
    rw [u_nm1 (by omega)] at e'
    exact absurd e' id
  | some g =>
    cases hg : fg Cm g with
    | none => exact absurd hg (hx g rfl)
    | some j' =>
      have hjl' := fg_lt hg
      show (nI j = oi (fg Cm g)) ↔ _
      rw [hg]
      show (nI j = nI j') ↔ _
      rw [u_eq (by omega) (by omega)]
      refine ⟨fun e => ?_, fun e => ?_⟩
      · rw [← hjl.2, e, hjl'.2]
      · injection e with e
        rw [e, hg] at hj
        injection hj with hj
        exact hj.symm
/-- the groups that a choice may name have commands -/
def chg (R : RS) (ch : CH) : Prop := ∀ g, ch.1 = some g → fg (rCm R) g ≠ none
theorem prc_nil {Cm : List (Nat × List Nat)} {x : Option Nat} (hx : ∀ g, x = some g → fg Cm g ≠ none) : prc Cm x = [] ↔ x = none := by
  refine ⟨fun h => ?_, fun h => ?_⟩
  · cases x with
    | none => rfl
    | some g =>
      cases hg : fg Cm g with
      | none => exact absurd hg (hx g rfl)
      | some j =>
        have hj := fg_lt hg
        have hm : (Cm.getD j (0, [])).2 ∈ prc Cm (some g) := List.mem_filterMap.mpr ⟨Cm.getD j (0, []), getD_mem hj.1, if_pos (by rw [hj.2])⟩
        rw [h] at hm
        cases hm
  · subst h
    unfold prc
    rw [List.filterMap_eq_nil_iff]
    intro y _
    exact if_neg (fun h => by cases h)
theorem look1_en {R : RS} {N : List (List Nat)} {f : Nat → Nat × Int32} {w s : List Nat} {x : Nat × Nat} (h : x_look1 R N f w s = some x) : ∃ i, ((rEn R).getD i (([], []), none)).2 = some x.2 := by
  unfold x_look1 at h
  obtain ⟨i, _, _, hi⟩ := fs_some _ _ h
  unfold x_cand at hi
  split at hi
  · cases hi
  · rename_i e he
    split at hi
    · cases hi
    · rename_i g hg
      split at hi
      · cases hi
      · split at hi
        · injection hi with hi
          subst hi
          exact ⟨e, hg⟩
        · cases hi
theorem choose_g {R : RS} {N : List (List Nat)} {f : Nat → Nat × Int32} (hg : gin R) {t : Nat} {ch : CH} (h : x_choose R N f t = some ch) : chg R ch := by
  intro g hgg
  unfold x_choose at h
  split at h
  · rename_i g' hg'
    injection h with h
    subst h
    injection hgg with hgg
    subst hgg
    exact hg.1 t g' hg'
  · split at h
    · rename_i x hx
      injection h with h
      subst h
      injection hgg with hgg
      subst hgg
      have hen : ∃ i, ((rEn R).getD i (([], []), none)).2 = some x.1.2 := by
        rw [x_look_eq] at hx
        cases hf : fs (lkG R N f (N.getD t [])) (rSf R).length 0 with
        | some y =>
          rw [hf] at hx
          injection hx with hx
          subst hx
          obtain ⟨i, _, _, hi⟩ := fs_some _ _ hf
          unfold lkG at hi
          split at hi
          · cases hq : x_look1 R N f ((N.getD t []).take ((N.getD t []).length - ((rSf R).getD i []).length)) ((rSf R).getD i []) with
            | none =>
              rw [hq] at hi
              cases hi
            | some z =>
              rw [hq] at hi
              injection hi with hi
              subst hi
              exact look1_en hq
          · cases hi
        | none =>
          rw [hf] at hx
          simp only at hx
          cases hl : x_look1 R N f (N.getD t []) [] with
          | none =>
            rw [hl] at hx
            cases hx
          | some z =>
            rw [hl] at hx
            injection hx with hx
            subst hx
            exact look1_en hl
      obtain ⟨i, hi⟩ := hen
      exact hg.2.2.1 i _ hi
    · split at h
      · injection h with h
        subst h
        cases hgg
      · split at h
        · rename_i g' hg'
          injection h with h
          subst h
          injection hgg with hgg
          subst hgg
          exact hg.2.1 g' hg'
        · cases h
section
variable {σ : rb_St} {b : Nat} {F : fx_F} {R : RS} {gv : Nat → Option (List Nat)} {w : Nat} {S : PS} {n : Nat} {ad : Nat → Nat} {I : Nat → Nat → Int32} {src : Nat → Option Nat}
theorem c_commandOf {Cm : List (Nat × List Nat)} (h : cr3 σ b F Cm) (hl : Cm.length ≤ 30) {x : Option Nat} (hx : ∀ g, x = some g → fg Cm g ≠ none) {i : Nat} (hi : i < Cm.length) : ∃ p, cmx σ b p (oi (fg Cm (Cm.getD i (0, [])).1)) (Cm.getD i (0, [])).2 ∧ f_Rules_commandOf (some (fx_ad b 5)) (og Cm x) (nI i) (fx_mk σ b F) = some (some (va_rf (if some (Cm.getD i (0, [])).1 = x then some p else none)), fx_mk σ b F) := by
  obtain ⟨p, p1, p2⟩ := h.2 i hi
  refine ⟨p, p2, ?_⟩
  obtain ⟨m1, m2, s, m3, m4, m5⟩ := p2
  have g1 : rb_gI (fx_mk σ b F) (some p) 11 1 = some (oi (fg Cm (Cm.getD i (0, [])).1)) := fo_gI m1 m3 rfl
  have hle : ¬ Cm.length ≤ i := by omega
  have h0 : ¬ nI i < (0 : Int32) := by rw [u_l0, u_lt (by omega) (by omega)]; omega
  unfold f_Rules_commandOf
  rw [if_neg h0]
  simp (disch := omega) only [↓fx_bc, h.1, u_le, n_leF, if_false, ↓bR_of rfl (show i < 2147483648 by omega) p1, g1, Option.bind_some]
  by_cases e : some (Cm.getD i (0, [])).1 = x
  · rw [if_pos ((og_iff hl hx hi).mpr e), if_pos e]
  · rw [if_neg (fun hc => e ((og_iff hl hx hi).mp hc)), if_neg e]
theorem c_touchIf (hw : w < 64) (h : cst σ b F R gv w S n ad I src) {t : Nat} (ht : t < (pN S).length) {ch : CH} (hcm : (rCm R).length ≤ 30) (hg : chg R ch) (h12 : I t 12 = og (rCm R) ch.1) : ∃ σ' F' I', f_Bld_touchIfAsked (some (fx_ad b 31)) (some (ad t)) (fx_mk σ b F) = some (none, fx_mk σ' b F') ∧ cst σ' b F' R gv w (x_touched R w t ch S) n ad I' src ∧ (∀ k f, f ≠ 2 → f ≠ 3 → I' k f = I k f) ∧ hx σ σ' ∧ gw 0 0 σ σ' ∧ cf [302, 2601] [27] [] [] F F' := by
  have h0 := h
  obtain ⟨c1, c2, c3, c4, c5, c6, c7, c8, c9⟩ := h0
  have hb := c1.1
  have h8 : f_Bld_has (some (fx_ad b 31)) (8 : Int32) (fx_mk σ b F) = _ := c_has (σ := σ) (b := b) c8 hw (i := 8) (by decide)
  have h4 : f_Bld_has (some (fx_ad b 31)) (4 : Int32) (fx_mk σ b F) = _ := c_has (σ := σ) (b := b) c8 hw (i := 4) (by decide)
  have h2 : f_Bld_has (some (fx_ad b 31)) (2 : Int32) (fx_mk σ b F) = _ := c_has (σ := σ) (b := b) c8 hw (i := 2) (by decide)
  have g5 : rb_gI (fx_mk σ b F) (some (ad t)) 12 5 = some (nI (b2 (rFl R 1 t))) := by
    rw [n_gI c4.1 ht (f := 5) ⟨by decide, by decide, by decide⟩, (c6.2.2.2.2.2.1 t ht).2.1]
  have g12 : rb_gI (fx_mk σ b F) (some (ad t)) 12 12 = some (og (rCm R) ch.1) := by
    rw [n_gI c4.1 ht (f := 12) ⟨by decide, by decide, by decide⟩, h12]
  have hsil := c_isSilent h hw ht
  have hogn := og_ne hcm (x := ch.1) hg
  have hcmd : (x_cmds R ch = []) ↔ ch.1 = none := prc_nil hg
  have hj30 : ∀ x : Bool, f_Bld_touchIfAsked_j30 (some (fx_ad b 31)) (some (ad t)) (nI (b2 x)) (fx_mk σ b F) = if x = true ∧ rFl R 1 t = false ∧ ¬ ch.1 = none then (if x_silent R w t = true then f_Bld_touchIfAsked_j70 (some (fx_ad b 31)) (some (ad t)) (fx_mk σ b F) else rb_cV (f_Shell_printTouch (some (fx_ad b 25)) ((rb_gR (fx_mk σ b F) (some (ad t)) 12 1).getD none) (fx_mk σ b F)) fun σ_9 => f_Bld_touchIfAsked_j70 (some (fx_ad b 31)) (some (ad t)) σ_9) else some (none, fx_mk σ b F) := by
    intro x
    obtain ⟨s, hs1, hs2⟩ := n_sp c4.1 ht
    unfold f_Bld_touchIfAsked_j30
    cases x with
    | false => rfl
    | true =>
      rw [if_neg (show ¬ nI (b2 true) = 0 by decide), g5, Option.bind_some]
      cases e5 : rFl R 1 t with
      | true => rfl
      | false =>
        rw [if_pos (show nI (b2 false) = 0 from rfl), g12, Option.bind_some]
        by_cases en : ch.1 = none
        · rw [if_pos (hogn.mpr en), if_neg (fun hc => hc.2.2 en)]
        · rw [if_neg (fun hc => en (hogn.mp hc)), if_pos ⟨rfl, rfl, en⟩]
          simp only [↓fx_bc, ↓cI_of hsil]
          cases x_silent R w t with
          | true => rfl
          | false =>
            rw [if_pos (show nI (b2 false) = 0 from rfl), if_neg (by decide), hs1]
            rfl
  have hpre : f_Bld_touchIfAsked (some (fx_ad b 31)) (some (ad t)) (fx_mk σ b F) = f_Bld_touchIfAsked_j30 (some (fx_ad b 31)) (some (ad t)) (nI (b2 (op w 4 && !op w 2 && !op w 8))) (fx_mk σ b F) := by
    unfold f_Bld_touchIfAsked f_Bld_touchIfAsked_j29
    simp only [↓fx_bc, ↓cI_of h4, ↓cI_of h2, ↓cI_of h8]
    cases op w 4 <;> cases op w 2 <;> cases op w 8 <;> rfl
  rw [hpre, hj30]
  unfold x_touched
  by_cases e : ¬ x_cmds R ch = [] ∧ op w 4 = true ∧ op w 2 = false ∧ op w 8 = false ∧ rFl R 1 t = false
  · rw [if_pos e, if_pos (show (op w 4 && !op w 2 && !op w 8) = true ∧ rFl R 1 t = false ∧ ¬ ch.1 = none from ⟨by rw [e.2.1, e.2.2.1, e.2.2.2.1]; rfl, e.2.2.2.2, fun hc => e.1 (hcmd.mpr hc)⟩)]
    -- the write
    have hj70 : ∀ (F1 : fx_F) (S1 : PS), cst σ b F1 R gv w S1 n ad I src → pN S1 = pN S → pF S1 = pF S → pC S1 = pC S → cf [2601] [27] [] [] F F1 → ∃ σ' F' I', f_Bld_touchIfAsked_j70 (some (fx_ad b 31)) (some (ad t)) (fx_mk σ b F1) = some (none, fx_mk σ' b F') ∧ cst σ' b F' R gv w (pN S, up1 (pF S) t (pC S + 1, (pF S t).2), pC S + 1, pP S1) n ad I' src ∧ (∀ k f, f ≠ 2 → f ≠ 3 → I' k f = I k f) ∧ hx σ σ' ∧ gw 0 0 σ σ' ∧ cf [302, 2601] [27] [] [] F F' := by
      intro F1 S1 h1 hN1 hF1 hC1 hf1
      obtain ⟨q1, q2, q3, q4, q5, q6, q7, q8, q9⟩ := h1
      have g3 : rb_gI (fx_mk σ b F1) (some (ad t)) 12 3 = some ((pF S t).2) := by
        rw [n_gI q4.1 (by rw [hN1]; exact ht) (f := 3) ⟨by decide, by decide, by decide⟩, (q4.2.2.1 t (by rw [hN1]; exact ht)).2, hF1]
      obtain ⟨σ2, a1, a2, a3, a4⟩ := cps_write hb q4 (k := t) (by rw [hN1]; exact ht) ((pF S t).2)
      rw [hN1, hF1, hC1] at a2
      rw [hC1] at a1
      have hcf2 : cf [302] [] [] [] F1 (fx_I F1 302 (nI (pC S + 1))) := cf_I (cf_refl _ _ _ _ _) (by decide)
      rw [hN1] at q6
      obtain ⟨r1, r2, r3, r4, r5, r6, r7⟩ := cr_hx q6 a3 hcf2 (by decide) (by decide) (by decide) (by decide)
      have hI' : ∀ k f, f ≠ 2 → f ≠ 3 → up2 (up2 I t 2 (nI (pC S + 1))) t 3 ((pF S t).2) k f = I k f := fun k f hf2 hf3 => by
        rw [up2_ne (fun hc => hf3 hc.2), up2_ne (fun hc => hf2 hc.2)]
      refine ⟨σ2, fx_I F1 302 (nI (pC S + 1)), up2 (up2 I t 2 (nI (pC S + 1))) t 3 ((pF S t).2), ?_, ⟨kx_hx q1 a3, fx_lnI q2, lg_cf q3 hcf2 (by decide), a2, by rw [← hN1]; exact q5, ⟨r1, r2, r3, r4, r5, fun k hk => ?_, r7⟩, vx_hx q7 a3 rfl, by rw [hcf2.1 3105 (by decide)]; exact q8, by rw [hcf2.1 3107 (by decide)]; exact q9⟩, hI', a3, a4, cf_trans (cf_mono hf1 (by decide) (by decide) (by decide) (by decide)) (cf_mono hcf2 (by decide) (by decide) (by decide) (by decide))⟩
      · unfold f_Bld_touchIfAsked_j70
        simp only [↓fx_bc, g3, Option.bind_some, ↓cV_of a1]
      · rw [hI' k 4 (by decide) (by decide), hI' k 5 (by decide) (by decide), hI' k 6 (by decide) (by decide), hI' k 7 (by decide) (by decide), hI' k 9 (by decide) (by decide)]
        exact r6 k hk
    by_cases es : x_silent R w t = true
    · rw [if_pos es, if_pos es]
      exact hj70 F S h rfl rfl rfl (cf_refl _ _ _ _ _)
    · rw [if_neg es, if_neg es]
      obtain ⟨s, hs1, hs2⟩ := n_sp c4.1 ht
      obtain ⟨F1, p1, p2, p3, p4⟩ := c_printTouch (σ := σ) (b := b) hb c1 c2 hs2 c4.2.2.2.2.1
      have hcf := cf_fr p4
      have h1 : cst σ b F1 R gv w (pN S, pF S, pC S, x_puts (pP S) (q_touch ++ [32] ++ (pN S).getD t [] ++ [10])) n ad I src := ⟨c1, p3, lg_cf c3 hcf (by decide), cps_print c4 p2 p4, c5, cr_hx c6 (hx_refl _) hcf (by decide) (by decide) (by decide) (by decide), vx_hx c7 (hx_refl _) (hcf.2.2.2.2 18 (by decide)), by rw [hcf.1 3105 (by decide)]; exact c8, by rw [hcf.1 3107 (by decide)]; exact c9⟩
      obtain ⟨σ2, F2, I2, a1, a2⟩ := hj70 F1 _ h1 rfl rfl rfl hcf
      refine ⟨σ2, F2, I2, ?_, a2⟩
      rw [hs1]
      show rb_cV (f_Shell_printTouch (some (fx_ad b 25)) (some s) (fx_mk σ b F)) _ = _
      rw [cV_of p1]
      exact a1
  · rw [if_neg e, if_neg (show ¬ ((op w 4 && !op w 2 && !op w 8) = true ∧ rFl R 1 t = false ∧ ¬ ch.1 = none) from fun hc => e ⟨fun hz => hc.2.2 (hcmd.mp hz), by
      have h1 := hc.1
      revert h1
      cases op w 4 <;> cases op w 2 <;> cases op w 8 <;> simp [hc.2.1]⟩)]
    exact ⟨σ, F, I, rfl, h, fun _ _ _ _ => rfl, hx_refl _, gw_refl _, cf_refl _ _ _ _ _⟩
end
section
variable {b : Nat} {R : RS} {gv : Nat → Option (List Nat)} {w : Nat}
theorem c_fateLoop (hin : rin R) (hgv : ∀ m v, gv m = some v → tk v ∧ v.length ≤ 320) (hw : w < 64) {t : Nat} {ch : CH} {ds : List Nat} {nw : List Bool} (hg : chg R ch) (rT : Option Nat → Option Nat → Int32 → rb_St → Option rb_Rs) : ∀ (m i : Nat) (σ : rb_St) (F : fx_F) (S : PS) (n : Nat) (ad : Nat → Nat) (I : Nat → Nat → Int32) (src : Nat → Option Nat), i + m = (rCm R).length → cst σ b F R gv w S n ad I src → ct F R (pN S) ad I src t ch ds nw → chok (pN S) ch → (∀ d, d ∈ ds → d < (pN S).length) → t < (pN S).length → (rN R).length ≤ (pN S).length → pC S + 60 * m < 2147483648 → ∃ σ' F', rb_it (fun z : (Int32 × rb_St) => f_Bld_fateOf_b41 rT (some (fx_ad b 31)) (some (ad t)) (z.1) z.2) (nI i, fx_mk σ b F) = some (some (.int (nI (if (x_carries R gv w t ch ds nw (prc ((rCm R).drop i) ch.1) S n).1 = true then 2 else 3))), fx_mk σ' b F') ∧ cres σ b F R gv w S ad I src σ' F' (x_carries R gv w t ch ds nw (prc ((rCm R).drop i) ch.1) S n).2.1 (x_carries R gv w t ch ds nw (prc ((rCm R).drop i) ch.1) S n).2.2 := by
  have hcm := hin.1.2.2.2.1
  intro m
  induction m with
  | zero =>
    intro i σ F S n ad I src hi h hct hch hds ht hl hC
    rw [List.drop_eq_nil_of_le (by omega)]
    have hcc := c_cmdCount (σ := σ) (b := b) h.2.2.2.2.2.1.2.2.1.1
    refine ⟨σ, F, rb_it_m ?_, ad, I, src, h, nxo_refl _ _ _ _, hx_refl _, gn_same (gw_refl _), cf_refl _ _ _ _ _⟩
    show f_Bld_fateOf_b41 _ _ _ _ _ = _
    unfold f_Bld_fateOf_b41
    simp only [↓fx_bc, ↓cI_of hcc]
    rw [if_pos (nI_le (by show (rCm R).length ≤ i; omega) (by omega))]
    rfl
  | succ m ih =>
    intro i σ F S n ad I src hi h hct hch hds ht hl hC
    have hil : i < (rCm R).length := by omega
    have hcc : f_Rules_commandCount (some (fx_ad b 5)) (fx_mk σ b F) = some (some (.int (nI (rCm R).length)), fx_mk σ b F) := c_cmdCount (σ := σ) (b := b) h.2.2.2.2.2.1.2.2.1.1
    have h3 : cr3 σ b F (rCm R) := h.2.2.2.2.2.1.2.2.1
    obtain ⟨p, p1, p2⟩ := c_commandOf h3 hcm (x := ch.1) hg hil
    have g12 : rb_gI (fx_mk σ b F) (some (ad t)) 12 12 = some (og (rCm R) ch.1) := by
      rw [n_gI h.2.2.2.1.1 ht (f := 12) ⟨by decide, by decide, by decide⟩, hct.2.2.2.1]
    rw [List.drop_eq_getElem_cons hil, prc_c, ← getD_get (d := (0, [])) hil]
    have hle : ¬ (rCm R).length ≤ i := by omega
    by_cases e : some ((rCm R).getD i (0, [])).1 = ch.1
    · rw [if_pos e]
      rw [if_pos e] at p2
      have htk := (hin.1.2.2.2.2.2.2.2.2.2.1 i hil).2.2
      obtain ⟨σ1, F1, a1, a2⟩ := c_carry hin hgv hl hw h (by omega) ht hch hds hct p1 htk
      unfold x_carries
      generalize hxc : x_carry R gv w t ch ds nw ((rCm R).getD i (0, [])).2 S n = xc at a1 a2
      obtain ⟨ad1, I1, src1, b1, b2', b3, b4, b5⟩ := a2
      by_cases e1 : xc.1 = true
      · rw [if_pos e1]
        have hcf := carry_fk R gv w t ch ds nw ((rCm R).getD i (0, [])).2 n h.2.2.2.1.2.2.2.2.2
        rw [hxc] at hcf
        have hx1 := b2'.2.1 t ht
        have hl1 := b2'.1
        obtain ⟨σ2, F2, d1, ad2, I2, src2, d2, d3, d4, d5, d6⟩ := ih (i + 1) σ1 F1 xc.2.1 xc.2.2 ad1 I1 src1 (by omega) b1 (ct_nxo hct b2' b5 (by decide) (by decide) ht hch hds) ⟨fun x hx => ⟨Nat.lt_of_lt_of_le (hch.1 x hx).1 hl1, (hch.1 x hx).2⟩, hch.2⟩ (fun d hd => Nat.lt_of_lt_of_le (hds d hd) hl1) (Nat.lt_of_lt_of_le ht hl1) (Nat.le_trans hl hl1) (by have := hcf.2; omega)
        rw [hx1.2.1] at d1
        refine ⟨σ2, F2, (rb_it_l ?_).trans d1, ad2, I2, src2, d2, nxo_trans b2' d3, hx_trans b3 d4, gn_trans b4 d5 hl1 d3.1, cf_trans b5 d6⟩
        rw [e1] at a1
        show f_Bld_fateOf_b41 _ _ _ _ _ = _
        unfold f_Bld_fateOf_b41
        simp (disch := omega) only [↓fx_bc, ↓cI_of hcc, u_le, n_leF, if_false, g12, Option.bind_some, ↓cR_of p2]
        rw [if_neg (show ¬ (some p = none) from fun h => by cases h)]
        simp only [↓cI_of a1]
        rw [if_neg (show ¬ nI (b2 true) = 0 by decide), show nI i + 1 = nI (i + 1) by rw [u_l1, u_add]]
      · rw [if_neg e1]
        refine ⟨σ1, F1, rb_it_m ?_, ad1, I1, src1, b1, b2', b3, b4, b5⟩
        rw [Bool.eq_false_iff.mpr e1] at a1
        show f_Bld_fateOf_b41 _ _ _ _ _ = _
        unfold f_Bld_fateOf_b41
        simp (disch := omega) only [↓fx_bc, ↓cI_of hcc, u_le, n_leF, if_false, g12, Option.bind_some, ↓cR_of p2]
        rw [if_neg (show ¬ (some p = none) from fun h => by cases h)]
        simp only [↓cI_of a1]
        rw [if_pos (show nI (b2 false) = 0 from rfl)]
        rfl
    · rw [if_neg e]
      rw [if_neg e] at p2
      obtain ⟨σ2, F2, d1, d2⟩ := ih (i + 1) σ F S n ad I src (by omega) h hct hch hds ht hl (by omega)
      refine ⟨σ2, F2, (rb_it_l ?_).trans d1, d2⟩
      show f_Bld_fateOf_b41 _ _ _ _ _ = _
      unfold f_Bld_fateOf_b41
      simp (disch := omega) only [↓fx_bc, ↓cI_of hcc, u_le, n_leF, if_false, g12, Option.bind_some, ↓cR_of p2, if_true]
      rw [show nI i + 1 = nI (i + 1) by rw [u_l1, u_add]]
end
