/-! the class: how a name is made, whole -/
def lk2 (R : RS) (N : List (List Nat)) (f : Nat → Nat × Int32) (w : List Nat) (m j : Nat) : Option ((Nat × Nat) × List Nat) := match fs (lkG R N f w) m j with | some x => some x | none => (x_look1 R N f w []).map (fun x => (x, w))
theorem lk2_m {R : RS} {N : List (List Nat)} {f : Nat → Nat × Int32} {w : List Nat} {m j : Nat} : lk2 R N f w (m + 1) j = match lkG R N f w j with | some x => some x | none => lk2 R N f w m (j + 1) := by
  unfold lk2
  rw [fs_m]
  cases lkG R N f w j <;> rfl
theorem look_lk2 (R : RS) (N : List (List Nat)) (f : Nat → Nat × Int32) (w : List Nat) : x_look R N f w = lk2 R N f w (rSf R).length 0 := (rfl)
section
variable {σ : rb_St} {b : Nat} {R : RS} {N : List (List Nat)} {f : Nat → Nat × Int32} {ad : Nat → Nat} {I : Nat → Nat → Int32} {src : Nat → Option Nat}
/-- how the search comes out -/
def lkr (σ : rb_St) (b : Nat) (F : fx_F) (R : RS) (N : List (List Nat)) (w : List Nat) (ad : Nat → Nat) (I : Nat → Nat → Int32) (src : Nat → Option Nat) (t : Nat) (x : Option ((Nat × Nat) × List Nat)) (σ' : rb_St) (F' : fx_F) : Prop := ∃ I' src', fx_ln F' ∧ cf [3201] [33] [] [] F F' ∧ nx σ' b F' N ad I' src' ∧ hx σ σ' ∧ gw 0 0 σ σ' ∧ (x = none → σ' = σ ∧ I' = I ∧ src' = src) ∧ ∀ y, x = some y → ∃ st, st ≤ w.length ∧ y.2 = w.take st ∧ I' = up2 (up2 I t 12 (og (rCm R) (some y.1.2))) t 15 (nI st) ∧ src' = up1 src t (some (ad y.1.1))
theorem c_lookLoop (hk : kx σ b) (hin : rin R) (hg : gin R) (hN : nok N) {t : Nat} (ht : t < N.length) : ∀ (m j : Nat) (F : fx_F), j + m = (rSf R).length → fx_ln F → chx σ b F R N f ad I src → ∃ σ' F', rb_it (fun z : (Int32 × rb_St) => f_Bld_findEndingRule_b10 (some (fx_ad b 31)) (some (ad t)) (nI (N.getD t []).length) (z.1) z.2) (nI j, fx_mk σ b F) = some (some (.int (nI (b2 (lk2 R N f (N.getD t []) m j).isSome))), fx_mk σ' b F') ∧ lkr σ b F R N (N.getD t []) ad I src t (lk2 R N f (N.getD t []) m j) σ' F' := by
  have hb := hk.1
  have hSf := hin.1.2.1
  have h6 := hSf.1
  have hw := sp_ok (hN.2 t ht)
  intro m
  induction m with
  | zero =>
    intro j F hj hF h
    have h1 := h.2.1.1
    obtain ⟨σ1, F1, I1, src1, a1, a2, a3, a4, a5, a6, a7, a8⟩ := c_srcLoop hb hin hg hN ht (st := (N.getD t []).length) (Nat.le_refl _) (a := rb_k σ 0) (s := []) (hk.2.2 0 (by decide)) (rSf R).length 0 F (by omega) hF h
    rw [List.take_length] at a1 a7 a8
    have hl1 : fs (fun j => x_cand R N f (N.getD t []) ((rSf R).getD j []) []) (rSf R).length 0 = x_look1 R N f (N.getD t []) [] := rfl
    rw [hl1] at a1 a7 a8
    have a1' : f_Bld_findSource (some (fx_ad b 31)) (some (ad t)) (nI (N.getD t []).length) (some (rb_k (fx_mk σ b F) 0)) (fx_mk σ b F) = some (some (.int (nI (b2 (x_look1 R N f (N.getD t []) []).isSome))), fx_mk σ1 b F1) := a1
    have hlk : lk2 R N f (N.getD t []) 0 j = (x_look1 R N f (N.getD t []) []).map (fun x => (x, N.getD t [])) := rfl
    rw [hlk]
    refine ⟨σ1, F1, rb_it_m ?_, I1, src1, a2, a3, a4, a5, a6, fun hn => a7 ?_, fun y hy => ?_⟩
    · show f_Bld_findEndingRule_b10 _ _ _ _ _ = _
      unfold f_Bld_findEndingRule_b10
      simp only [↓fx_bc, h1]
      rw [if_pos (nI_le (by omega) (by omega))]
      simp only [↓cI_of a1']
      rw [if_pos (isZ_b2 _), Option.isSome_map]
    · cases hx : x_look1 R N f (N.getD t []) [] with
      | none => rfl
      | some x =>
        rw [hx] at hn
        cases hn
    · cases hx : x_look1 R N f (N.getD t []) [] with
      | none =>
        rw [hx] at hy
        cases hy
      | some x =>
        rw [hx] at hy
        injection hy with hy
        subst hy
        exact ⟨(N.getD t []).length, Nat.le_refl _, (List.take_length ..).symm, a8 x hx⟩
  | succ m ih =>
    intro j F hj hF h
    have h1 := h.2.1.1
    obtain ⟨p, q1, q2⟩ := h.2.1.2 j (by omega)
    obtain ⟨s2, t1, t2, v, t3⟩ := p_tx q2
    have hsj := sp_ok (hSf.2 j (by omega)).1
    have hlen := c_len (F := F) t2
    have hle : ¬ (rSf R).length ≤ j := by omega
    obtain ⟨vt, hvt⟩ := n_fc h.1 ht
    have hgo : ∀ F1, cf [3201] [33] [] [] F F1 → fx_ln F1 → lkG R N f (N.getD t []) j = none → f_Bld_findEndingRule_b10 (some (fx_ad b 31)) (some (ad t)) (nI (N.getD t []).length) (nI j) (fx_mk σ b F) = some (.inl (nI (j + 1), fx_mk σ b F1)) → ∃ σ' F', rb_it (fun z : (Int32 × rb_St) => f_Bld_findEndingRule_b10 (some (fx_ad b 31)) (some (ad t)) (nI (N.getD t []).length) (z.1) z.2) (nI j, fx_mk σ b F) = some (some (.int (nI (b2 (lk2 R N f (N.getD t []) (m + 1) j).isSome))), fx_mk σ' b F') ∧ lkr σ b F R N (N.getD t []) ad I src t (lk2 R N f (N.getD t []) (m + 1) j) σ' F' := by
      intro F1 g1 g2 g3 g4
      rw [lk2_m, g3]
      simp only
      obtain ⟨σ2, F2, e1, I2, src2, e2, e3, e4⟩ := ih (j + 1) F1 (by omega) g2 (chx_cf h g1)
      exact ⟨σ2, F2, (rb_it_l g4).trans e1, I2, src2, e2, cf_trans g1 e3, e4⟩
    by_cases e1 : ((rSf R).getD j []).length < (N.getD t []).length
    · have hew := c_endsWith h.1 ht (by omega) t2 (Nat.le_of_lt e1) (fun c hc => Nat.lt_trans (hsj.2.2 c hc) (by decide)) (fun c hc => Nat.lt_trans (hw.2.2 c hc) (by decide))
      by_cases e2 : sfx ((rSf R).getD j []) (N.getD t []) = true
      · rw [e2] at hew
        obtain ⟨σ1, F1, I1, src1, a1, a2, a3, a4, a5, a6, a7, a8⟩ := c_srcLoop hb hin hg hN ht (st := (N.getD t []).length - ((rSf R).getD j []).length) (by omega) t2 (rSf R).length 0 F (by omega) hF h
        have hl1 : fs (fun j' => x_cand R N f ((N.getD t []).take ((N.getD t []).length - ((rSf R).getD j []).length)) ((rSf R).getD j' []) ((rSf R).getD j [])) (rSf R).length 0 = x_look1 R N f ((N.getD t []).take ((N.getD t []).length - ((rSf R).getD j []).length)) ((rSf R).getD j []) := rfl
        rw [hl1] at a1 a7 a8
        have a1' : f_Bld_findSource (some (fx_ad b 31)) (some (ad t)) (nI ((N.getD t []).length - ((rSf R).getD j []).length)) (some s2) (fx_mk σ b F) = some (some (.int (nI (b2 (x_look1 R N f ((N.getD t []).take ((N.getD t []).length - ((rSf R).getD j []).length)) ((rSf R).getD j [])).isSome))), fx_mk σ1 b F1) := a1
        have hbody : f_Bld_findEndingRule_b10 (some (fx_ad b 31)) (some (ad t)) (nI (N.getD t []).length) (nI j) (fx_mk σ b F) = if nI (b2 (x_look1 R N f ((N.getD t []).take ((N.getD t []).length - ((rSf R).getD j []).length)) ((rSf R).getD j [])).isSome) = 0 then some (.inl (nI (j + 1), fx_mk σ1 b F1)) else some (.inr (some (.int 1), fx_mk σ1 b F1)) := by
          unfold f_Bld_findEndingRule_b10
          simp (disch := omega) only [↓fx_bc, h1, u_le, n_leF, if_false, ↓bR_of rfl (show j < 2147483648 by omega) q1, t1, t3, Option.bind_some, ↓cI_of hlen, hvt, ↓cI_of hew]
          rw [if_neg (show ¬ nI (b2 true) = 0 by decide)]
          simp only [u_sub (Nat.le_of_lt e1), ↓cI_of a1', show nI j + 1 = nI (j + 1) by rw [u_l1, u_add]]
          rfl
        have hlg : lkG R N f (N.getD t []) j = (x_look1 R N f ((N.getD t []).take ((N.getD t []).length - ((rSf R).getD j []).length)) ((rSf R).getD j [])).map (fun x => (x, (N.getD t []).take ((N.getD t []).length - ((rSf R).getD j []).length))) := if_pos ⟨e1, e2⟩
        cases hx : x_look1 R N f ((N.getD t []).take ((N.getD t []).length - ((rSf R).getD j []).length)) ((rSf R).getD j []) with
        | none =>
          rw [hx] at hbody hlg
          obtain ⟨z1, z2, z3⟩ := a7 hx
          subst z1
          exact hgo F1 a3 a2 hlg (hbody.trans (if_pos rfl))
        | some x =>
          rw [hx] at hbody hlg
          rw [lk2_m, hlg]
          simp only [Option.map_some]
          refine ⟨σ1, F1, rb_it_r (hbody.trans (if_neg (show ¬ nI (b2 (some x).isSome) = 0 from (by decide : ¬ nI (b2 true) = 0)))), I1, src1, a2, a3, a4, a5, a6, fun hn => (by cases hn), fun y hy => ?_⟩
          injection hy with hy
          subst hy
          exact ⟨_, Nat.sub_le _ _, rfl, a8 x hx⟩
      · refine hgo F (cf_refl _ _ _ _ _) hF (if_neg (fun h => e2 h.2)) ?_
        rw [Bool.eq_false_iff.mpr e2] at hew
        unfold f_Bld_findEndingRule_b10
        simp (disch := omega) only [↓fx_bc, h1, u_le, n_leF, if_false, ↓bR_of rfl (show j < 2147483648 by omega) q1, t1, t3, Option.bind_some, ↓cI_of hlen, hvt, ↓cI_of hew]
        rw [if_pos (show nI (b2 false) = 0 from rfl), show nI j + 1 = nI (j + 1) by rw [u_l1, u_add]]
    · refine hgo F (cf_refl _ _ _ _ _) hF (if_neg (fun h => e1 h.1)) ?_
      unfold f_Bld_findEndingRule_b10
      simp (disch := omega) only [↓fx_bc, h1, u_le, n_leF, if_false, ↓bR_of rfl (show j < 2147483648 by omega) q1, t1, t3, Option.bind_some, ↓cI_of hlen]
      rw [if_pos (show (N.getD t []).length ≤ ((rSf R).getD j []).length by omega), show nI j + 1 = nI (j + 1) by rw [u_l1, u_add]]
theorem c_endRule {F : fx_F} (hk : kx σ b) (hin : rin R) (hg : gin R) (hN : nok N) {t : Nat} (ht : t < N.length) (hF : fx_ln F) (h : chx σ b F R N f ad I src) : ∃ σ' F', f_Bld_findEndingRule (some (fx_ad b 31)) (some (ad t)) (fx_mk σ b F) = some (some (.int (nI (b2 (x_look R N f (N.getD t [])).isSome))), fx_mk σ' b F') ∧ lkr σ b F R N (N.getD t []) ad I src t (x_look R N f (N.getD t [])) σ' F' := by
  obtain ⟨s, hsp, hss⟩ := n_sp h.1 ht
  obtain ⟨vs, hvs⟩ := sx_fc hss
  have hlen := c_len (F := F) hss
  obtain ⟨σ1, F1, a1, a2⟩ := c_lookLoop hk hin hg hN ht (rSf R).length 0 F (by omega) hF h
  rw [look_lk2]
  refine ⟨σ1, F1, ?_, a2⟩
  unfold f_Bld_findEndingRule
  simp only [hsp, hvs, Option.bind_some, ↓cI_of hlen]
  exact a1
/-- the choice is made -/
theorem c_choose {F : fx_F} (hk : kx σ b) (hin : rin R) (hg : gin R) (hN : nok N) {t : Nat} (ht : t < N.length) (hF : fx_ln F) (h : chx σ b F R N f ad I src) (h9 : ∀ k, k < N.length → I k 9 = og (rCm R) (rOw R k)) (h511 : F.1 511 = og (rCm R) (rOp R 0)) : ∃ σ' F' I' src', f_Bld_chooseCommands (some (fx_ad b 31)) (some (ad t)) (fx_mk σ b F) = some (some (.int (nI (b2 (x_choose R N f t).isSome))), fx_mk σ' b F') ∧ fx_ln F' ∧ cf [3201] [33] [] [] F F' ∧ nx σ' b F' N ad I' src' ∧ hx σ σ' ∧ gw 0 0 σ σ' ∧ (∀ k f, ¬ (k = t ∧ f ∈ [12, 13, 15]) → I' k f = I k f) ∧ (∀ k, k ≠ t → src' k = src k) ∧ ∀ ch, x_choose R N f t = some ch → I' t 12 = og (rCm R) ch.1 ∧ src' t = ch.2.1.map (fun x => ad x.1) ∧ I' t 13 = nI (b2 ch.2.2) ∧ ∀ x, ch.2.1 = some x → ∃ k, k ≤ (N.getD t []).length ∧ x.2 = (N.getD t []).take k ∧ I' t 15 = nI k := by
  have hb := hk.1
  have hcm := hin.1.2.2.2.1
  -- the first three writes
  have g9 := n_gI h.1 ht (f := 9) ⟨by decide, by decide, by decide⟩
  obtain ⟨σ1, a1, a2, a3, a4⟩ := n_pI h.1 ht (f := 12) ⟨by decide, by decide, by decide⟩ (by decide) (I t 9)
  obtain ⟨σ2, b1, b2', b3, b4⟩ := n_pR a2 ht none
  obtain ⟨σ3, d1, d2, d3, d4⟩ := n_pZ b2' ht (f := 13) ⟨by decide, by decide, by decide⟩ (by decide) false
  have d1' : rb_pZ (fx_mk σ2 b F) (some (ad t)) 12 13 (0 : Int32) = _ := d1
  have hk3 : kx σ3 b := kx_hx (kx_hx (kx_hx hk a3) b3) d3
  have hh3 : hx σ σ3 := hx_trans a3 (hx_trans b3 d3)
  have hg3 : gw 0 0 σ σ3 := gw_trans a4 (gw_trans b4 d4)
  generalize hI3 : up2 (up2 I t 12 (I t 9)) t 13 (nI (b2 false)) = I3 at d2
  generalize hs3 : up1 src t none = src3 at d2
  have hI3o : ∀ k f, ¬ (k = t ∧ (f = 12 ∨ f = 13)) → I3 k f = I k f := by
    intro k f hn
    rw [← hI3, up2_ne (fun hc => hn ⟨hc.1, Or.inr hc.2⟩), up2_ne (fun hc => hn ⟨hc.1, Or.inl hc.2⟩)]
  have hI3_12 : I3 t 12 = I t 9 := by
    rw [← hI3, up2_ne (fun hc => absurd hc.2 (by decide)), up2_eq]
  have hI3_13 : I3 t 13 = nI (b2 false) := by
    rw [← hI3, up2_eq]
  have hs3t : src3 t = none := by rw [← hs3, up1_eq]
  have hs3o : ∀ k, k ≠ t → src3 k = src k := fun k hn => by rw [← hs3, up1_ne hn]
  have hg12 := n_gI d2 ht (f := 12) ⟨by decide, by decide, by decide⟩
  rw [hI3_12] at hg12
  have hpre : f_Bld_chooseCommands (some (fx_ad b 31)) (some (ad t)) (fx_mk σ b F) = if I t 9 = (-1 : Int32) then (rb_cI (f_Bld_findEndingRule (some (fx_ad b 31)) (some (ad t)) (fx_mk σ3 b F)) fun x_6 σ_7 => if x_6 = 0 then ((rb_gI σ_7 (some (ad t)) 12 4).bind fun x_8 => if x_8 = 0 then ((rb_fc σ_7 (some (ad t)) 12).bind fun _ => rb_cI (f_Name_isFile (some (ad t))  σ_7) fun x_9 σ_10 => if x_9 = 0 then ((rb_gR σ_10 (some (fx_ad b 31)) 9 1).bind fun r_11 => (rb_gI σ_10 r_11 4 11).bind fun x_12 => (rb_pI σ_10 (some (ad t)) 12 12 x_12).bind fun σ_13 => (rb_pZ σ_13 (some (ad t)) 12 13 (1 : Int32)).bind fun σ_14 => (rb_gI σ_14 (some (ad t)) 12 12).bind fun x_15 => if x_15 = (-1 : Int32) then (some (some (Value.int (0 : Int32)), σ_14)) else (some (some (Value.int (1 : Int32)), σ_14))) else (some (some (Value.int (1 : Int32)), σ_10))) else (some (some (Value.int (1 : Int32)), σ_7))) else (some (some (Value.int (1 : Int32)), σ_7))) else (some (some (Value.int (1 : Int32)), fx_mk σ3 b F)) := by
    unfold f_Bld_chooseCommands
    rw [g9, Option.bind_some, a1, Option.bind_some, b1, Option.bind_some, d1', Option.bind_some, hg12, Option.bind_some]
    simp only [↓fx_bc]
  rw [hpre]
  unfold x_choose
  have h9t := h9 t ht
  cases ho : rOw R t with
  | some g =>
    rw [ho] at h9t
    have hne : ¬ I t 9 = -1 := fun e => by
      have := (og_ne hcm (x := some g) (fun g' hg' => by
        injection hg' with hg'
        subst hg'
        exact hg.1 t g ho)).mp (h9t.symm.trans e)
      cases this
    rw [if_neg hne]
    refine ⟨σ3, F, I3, src3, rfl, hF, cf_refl _ _ _ _ _, d2, hh3, hg3, fun k f hn => hI3o k f (fun hc => hn ⟨hc.1, by rcases hc.2 with e | e <;> rw [e] <;> decide⟩), hs3o, fun ch hch => ?_⟩
    injection hch with hch
    subst hch
    exact ⟨hI3_12.trans h9t, hs3t, hI3_13, fun x hx => by cases hx⟩
  | none =>
    rw [ho] at h9t
    rw [if_pos (show I t 9 = -1 from h9t)]
    have hch3 : chx σ3 b F R N f ad I3 src3 := ⟨d2, cr1_hx h.2.1 hh3 (cf_refl [] [] [] [] _) (by decide) (by decide), cr2_hx h.2.2.1 hh3 (cf_refl [] [] [] [] _) (by decide) (by decide) (by decide) (by decide), fun k hk => by
      rw [hI3o k 4 (by omega), hI3o k 2 (by omega)]
      exact h.2.2.2 k hk⟩
    obtain ⟨σ4, F4, e1, I4, src4, e2, e3, e4, e5, e6, e7, e8⟩ := c_endRule hk3 hin hg hN ht hF hch3
    simp only
    cases hx : x_look R N f (N.getD t []) with
    | some x =>
      rw [hx] at e1
      obtain ⟨st, s1, s2, s3, s4⟩ := e8 x hx
      have hval : (rb_cI (f_Bld_findEndingRule (some (fx_ad b 31)) (some (ad t)) (fx_mk σ3 b F)) fun x_6 σ_7 => if x_6 = 0 then ((rb_gI σ_7 (some (ad t)) 12 4).bind fun x_8 => if x_8 = 0 then ((rb_fc σ_7 (some (ad t)) 12).bind fun _ => rb_cI (f_Name_isFile (some (ad t))  σ_7) fun x_9 σ_10 => if x_9 = 0 then ((rb_gR σ_10 (some (fx_ad b 31)) 9 1).bind fun r_11 => (rb_gI σ_10 r_11 4 11).bind fun x_12 => (rb_pI σ_10 (some (ad t)) 12 12 x_12).bind fun σ_13 => (rb_pZ σ_13 (some (ad t)) 12 13 (1 : Int32)).bind fun σ_14 => (rb_gI σ_14 (some (ad t)) 12 12).bind fun x_15 => if x_15 = (-1 : Int32) then (some (some (Value.int (0 : Int32)), σ_14)) else (some (some (Value.int (1 : Int32)), σ_14))) else (some (some (Value.int (1 : Int32)), σ_10))) else (some (some (Value.int (1 : Int32)), σ_7))) else (some (some (Value.int (1 : Int32)), σ_7))) = some (some (Value.int 1), fx_mk σ4 b F4) := by
        rw [cI_of e1, if_neg (show ¬ nI (b2 (some x).isSome) = 0 from (by decide : ¬ nI (b2 true) = 0))]
      rw [hval]
      have hI4 : ∀ k f, ¬ (k = t ∧ (f = 12 ∨ f = 15)) → I4 k f = I3 k f := by
        intro k f hn
        rw [s3, up2_ne (fun hc => hn ⟨hc.1, Or.inr hc.2⟩), up2_ne (fun hc => hn ⟨hc.1, Or.inl hc.2⟩)]
      refine ⟨σ4, F4, I4, src4, rfl, e2, e3, e4, hx_trans hh3 e5, gw_trans hg3 e6, fun k f hn => ?_, fun k hn => ?_, fun ch hch => ?_⟩
      · rw [hI4 k f (fun hc => hn ⟨hc.1, by rcases hc.2 with e | e <;> rw [e] <;> decide⟩)]
        exact hI3o k f (fun hc => hn ⟨hc.1, by rcases hc.2 with e | e <;> rw [e] <;> decide⟩)
      · rw [s4, up1_ne hn]
        exact hs3o k hn
      · injection hch with hch
        subst hch
        refine ⟨by rw [s3, up2_ne (fun hc => absurd hc.2 (by decide)), up2_eq], by rw [s4, up1_eq]; rfl, ?_, fun y hy => ?_⟩
        · rw [hI4 t 13 (by omega)]
          exact hI3_13
        · injection hy with hy
          subst hy
          exact ⟨st, s1, s2, by rw [s3, up2_eq]⟩
    | none =>
      rw [hx] at e1
      obtain ⟨z1, z2, z3⟩ := e7 hx
      subst z1
      subst z2
      subst z3
      obtain ⟨r4, r2, r3⟩ := h.2.2.2 t ht
      have g4 := n_gI e4 ht (f := 4) ⟨by decide, by decide, by decide⟩
      rw [hI3o t 4 (by omega), r4] at g4
      obtain ⟨vk, hvk⟩ := n_fc e4 ht
      have hif := c_isFile e4 ht (x := (f t).1) (by rw [hI3o t 2 (by omega)]; exact r2) r3
      rw [cI_of e1, if_pos (show nI (b2 (none : Option ((Nat × Nat) × List Nat)).isSome) = 0 from rfl), g4, Option.bind_some]
      simp only
      by_cases er : rFl R 0 t = true ∨ ¬ (f t).1 = 0
      · rw [if_pos er]
        have hval : (if nI (b2 (rFl R 0 t)) = 0 then ((rb_fc (fx_mk σ4 b F4) (some (ad t)) 12).bind fun _ => rb_cI (f_Name_isFile (some (ad t))  (fx_mk σ4 b F4)) fun x_9 σ_10 => if x_9 = 0 then ((rb_gR σ_10 (some (fx_ad b 31)) 9 1).bind fun r_11 => (rb_gI σ_10 r_11 4 11).bind fun x_12 => (rb_pI σ_10 (some (ad t)) 12 12 x_12).bind fun σ_13 => (rb_pZ σ_13 (some (ad t)) 12 13 (1 : Int32)).bind fun σ_14 => (rb_gI σ_14 (some (ad t)) 12 12).bind fun x_15 => if x_15 = (-1 : Int32) then (some (some (Value.int (0 : Int32)), σ_14)) else (some (some (Value.int (1 : Int32)), σ_14))) else (some (some (Value.int (1 : Int32)), σ_10))) else (some (some (Value.int (1 : Int32)), fx_mk σ4 b F4))) = some (some (Value.int 1), fx_mk σ4 b F4) := by
          by_cases e0 : rFl R 0 t = true
          · rw [if_neg (show ¬ nI (b2 (rFl R 0 t)) = 0 by rw [e0]; decide)]
          · rw [if_pos (show nI (b2 (rFl R 0 t)) = 0 by rw [Bool.eq_false_iff.mpr e0]; rfl), hvk, Option.bind_some, cI_of hif]
            have ef : ¬ (f t).1 = 0 := er.resolve_left e0
            rw [decide_eq_true ef, if_neg (show ¬ nI (b2 true) = 0 by decide)]
        rw [hval]
        refine ⟨σ4, F4, I4, src4, rfl, e2, e3, e4, hx_trans hh3 e5, gw_trans hg3 e6, fun k f hn => hI3o k f (fun hc => hn ⟨hc.1, by rcases hc.2 with e | e <;> rw [e] <;> decide⟩), hs3o, fun ch hch => ?_⟩
        injection hch with hch
        subst hch
        exact ⟨hI3_12.trans h9t, hs3t, hI3_13, fun x hx => by cases hx⟩
      · rw [if_neg er]
        have e0 : rFl R 0 t = false := Bool.eq_false_iff.mpr (fun h => er (Or.inl h))
        have ef : (f t).1 = 0 := Nat.eq_zero_of_not_pos (fun h => er (Or.inr (Nat.ne_of_gt h)))
        obtain ⟨σ5, p1, p2, p3, p4⟩ := n_pI e4 ht (f := 12) ⟨by decide, by decide, by decide⟩ (by decide) (og (rCm R) (rOp R 0))
        obtain ⟨σ6, q1, q2, q3, q4⟩ := n_pZ p2 ht (f := 13) ⟨by decide, by decide, by decide⟩ (by decide) true
        have q1' : rb_pZ (fx_mk σ5 b F4) (some (ad t)) 12 13 (1 : Int32) = _ := q1
        have g12 := n_gI q2 ht (f := 12) ⟨by decide, by decide, by decide⟩
        rw [up2_ne (fun hc => absurd hc.2 (by decide)), up2_eq] at g12
        have h5114 : F4.1 511 = og (rCm R) (rOp R 0) := (e3.1 511 (by decide)).trans h511
        have hval : (if nI (b2 (rFl R 0 t)) = 0 then ((rb_fc (fx_mk σ4 b F4) (some (ad t)) 12).bind fun _ => rb_cI (f_Name_isFile (some (ad t))  (fx_mk σ4 b F4)) fun x_9 σ_10 => if x_9 = 0 then ((rb_gR σ_10 (some (fx_ad b 31)) 9 1).bind fun r_11 => (rb_gI σ_10 r_11 4 11).bind fun x_12 => (rb_pI σ_10 (some (ad t)) 12 12 x_12).bind fun σ_13 => (rb_pZ σ_13 (some (ad t)) 12 13 (1 : Int32)).bind fun σ_14 => (rb_gI σ_14 (some (ad t)) 12 12).bind fun x_15 => if x_15 = (-1 : Int32) then (some (some (Value.int (0 : Int32)), σ_14)) else (some (some (Value.int (1 : Int32)), σ_14))) else (some (some (Value.int (1 : Int32)), σ_10))) else (some (some (Value.int (1 : Int32)), fx_mk σ4 b F4))) = some (some (Value.int (if og (rCm R) (rOp R 0) = (-1 : Int32) then 0 else 1)), fx_mk σ6 b F4) := by
          rw [if_pos (show nI (b2 (rFl R 0 t)) = 0 by rw [e0]; rfl), hvk, Option.bind_some, cI_of hif, decide_eq_false (fun h => h ef), if_pos (show nI (b2 false) = 0 from rfl)]
          simp only [↓fx_bc, h5114, p1, Option.bind_some, q1', g12]
          split <;> rfl
        rw [hval]
        have hogn := og_ne hcm (x := rOp R 0) (fun g' hg' => hg.2.1 g' hg')
        refine ⟨σ6, F4, _, src4, ?_, e2, e3, q2, hx_trans hh3 (hx_trans e5 (hx_trans p3 q3)), gw_trans hg3 (gw_trans e6 (gw_trans p4 q4)), fun k f hn => ?_, hs3o, fun ch hch => ?_⟩
        · cases hop : rOp R 0 with
          | none =>
            rw [if_pos (show og (rCm R) none = -1 from rfl)]
            rfl
          | some g =>
            rw [hop] at hogn
            rw [if_neg (fun e => by cases hogn.mp e)]
            rfl
        · rw [up2_ne (fun hc => hn ⟨hc.1, by rw [hc.2]; decide⟩), up2_ne (fun hc => hn ⟨hc.1, by rw [hc.2]; decide⟩)]
          exact hI3o k f (fun hc => hn ⟨hc.1, by rcases hc.2 with e | e <;> rw [e] <;> decide⟩)
        · cases hop : rOp R 0 with
          | none =>
            rw [hop] at hch
            cases hch
          | some g =>
            rw [hop] at hch
            injection hch with hch
            subst hch
            exact ⟨by rw [up2_ne (fun hc => absurd hc.2 (by decide)), up2_eq], hs3t, by rw [up2_eq], fun x hx => by cases hx⟩
end
