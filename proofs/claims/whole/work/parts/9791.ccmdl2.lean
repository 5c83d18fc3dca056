/-! the class: a command line, whole -/
theorem nx_cf {zi za zr zq : List Nat} {σ : rb_St} {b : Nat} {F F' : fx_F} {N : List (List Nat)} {ad : Nat → Nat} {I : Nat → Nat → Int32} {src : Nat → Option Nat} (h : nx σ b F N ad I src) (hf : cf zi za zr zq F F') (h1 : 301 ∉ zi) (h2 : 4 ∉ zq) : nx σ b F' N ad I src := nx_fr h ⟨hf.1 301 h1, hf.2.2.2.2 4 h2⟩
theorem lg_cf {zi za zr zq : List Nat} {F F' : fx_F} (h : lg F) (hf : cf zi za zr zq F F') (h1 : 1305 ∉ zi) : lg F' := by
  obtain ⟨L, h2, h3⟩ := h
  exact ⟨L, h2, (hf.1 1305 h1).trans h3⟩
def cmq (R R' : RS) (t : List Nat) : Prop := rN R' = rN R ∧ rSf R' = rSf R ∧ rCm R' = rCm R ++ [(rNu R 0, t)] ∧ rPr R' = rPr R ∧ rDf R' = rDf R ∧ rFl R' = rFl R ∧ rBo R' = rBo R ∧ rNu R' = rNu R ∧ rOp R' 1 = rOp R 1 ∧ rOp R' 2 = rOp R 2 ∧ (rEn R').length = (rEn R).length ∧ ∀ i, ((rEn R').getD i (([], []), none)).1 = ((rEn R).getD i (([], []), none)).1
section
variable {R : RS} (t : List Nat)
theorem cmd_2 (h : rNu R 1 = 2) : x_cmdR R t = wCm (wOp R (up1 (rOp R) 0 (some (rNu R 0)))) (rCm R ++ [(rNu R 0, t)]) := by
  unfold x_cmdR
  rw [if_pos h]
theorem cmd_3 (h : rNu R 1 = 3) : x_cmdR R t = wCm (wEn R ((rEn R).set ((rOp R 2).getD 0) (((rEn R).getD ((rOp R 2).getD 0) (([], []), none)).1, some (rNu R 0)))) (rCm R ++ [(rNu R 0, t)]) := by
  unfold x_cmdR
  rw [if_neg (show ¬ rNu R 1 = 2 by omega), if_pos h]
theorem cmd_4 (h2 : ¬ rNu R 1 = 2) (h3 : ¬ rNu R 1 = 3) : x_cmdR R t = wCm (wOw R (fun k => if k < (rN R).length ∧ rFl R 4 k = true then some (rNu R 0) else rOw R k)) (rCm R ++ [(rNu R 0, t)]) := by
  unfold x_cmdR
  rw [if_neg h2, if_neg h3]
theorem cmq_of (hg : gin R) : cmq R (x_cmdR R t) t := by
  by_cases h2 : rNu R 1 = 2
  · rw [cmd_2 t h2]
    exact ⟨rfl, rfl, rfl, rfl, rfl, rfl, rfl, rfl, rfl, rfl, rfl, fun _ => rfl⟩
  · by_cases h3 : rNu R 1 = 3
    · rw [cmd_3 t h3]
      obtain ⟨e, e1, e2⟩ := hg.2.2.2.2 h3
      rw [e1, Option.getD_some]
      refine ⟨rfl, rfl, rfl, rfl, rfl, rfl, rfl, rfl, rfl, rfl, List.length_set, fun i => ?_⟩
      show (((rEn R).set e (((rEn R).getD e (([], []), none)).1, some (rNu R 0))).getD i (([], []), none)).1 = _
      rw [getD_set e2]
      by_cases ei : i = e
      · rw [if_pos ei, ei]
      · rw [if_neg ei]
    · rw [cmd_4 t h2 h3]
      exact ⟨rfl, rfl, rfl, rfl, rfl, rfl, rfl, rfl, rfl, rfl, rfl, fun _ => rfl⟩
theorem cmd_op : rOp (x_cmdR R t) 0 = if rNu R 1 = 2 then some (rNu R 0) else rOp R 0 := by
  by_cases h2 : rNu R 1 = 2
  · rw [cmd_2 t h2, if_pos h2]
    rfl
  · rw [if_neg h2]
    by_cases h3 : rNu R 1 = 3
    · rw [cmd_3 t h3]
    · rw [cmd_4 t h2 h3]
theorem cmd_ow (k : Nat) : rOw (x_cmdR R t) k = if rNu R 1 = 2 ∨ rNu R 1 = 3 then rOw R k else if k < (rN R).length ∧ rFl R 4 k = true then some (rNu R 0) else rOw R k := by
  by_cases h2 : rNu R 1 = 2
  · rw [cmd_2 t h2, if_pos (Or.inl h2)]
  · by_cases h3 : rNu R 1 = 3
    · rw [cmd_3 t h3, if_pos (Or.inr h3)]
    · rw [cmd_4 t h2 h3, if_neg (show ¬ (rNu R 1 = 2 ∨ rNu R 1 = 3) by omega)]
theorem cmd_en (hg : gin R) (i : Nat) : ((rEn (x_cmdR R t)).getD i (([], []), none)).2 = if rNu R 1 = 3 ∧ rOp R 2 = some i then some (rNu R 0) else ((rEn R).getD i (([], []), none)).2 := by
  by_cases h3 : rNu R 1 = 3
  · obtain ⟨e, e1, e2⟩ := hg.2.2.2.2 h3
    rw [cmd_3 t h3, e1, Option.getD_some]
    show (((rEn R).set e (((rEn R).getD e (([], []), none)).1, some (rNu R 0))).getD i (([], []), none)).2 = _
    rw [getD_set e2]
    by_cases ei : i = e
    · rw [if_pos ei, if_pos ⟨h3, by rw [ei]⟩]
    · rw [if_neg ei, if_neg (fun hc => ei (by injection hc.2 with hc; exact hc.symm))]
  · rw [if_neg (fun hc => h3 hc.1)]
    by_cases h2 : rNu R 1 = 2
    · rw [cmd_2 t h2]
    · rw [cmd_4 t h2 h3]
theorem fg_new (Cm : List (Nat × List Nat)) (g : Nat) : fg (Cm ++ [(g, t)]) g ≠ none := by
  rw [fg_app]
  cases fg Cm g with
  | none =>
    simp only [if_true]
    exact fun h => by cases h
  | some j => exact fun h => by cases h
theorem fg_old {Cm : List (Nat × List Nat)} (g : Nat) {g' : Nat} (h : fg Cm g' ≠ none) : fg (Cm ++ [(g, t)]) g' ≠ none := by
  rw [fg_app]
  cases hx : fg Cm g' with
  | none => exact absurd hx h
  | some j => exact fun h => by cases h
theorem cmd_gin (hin : rin R) (hg : gin R) (h2 : 2 ≤ rNu R 1) : gin (x_cmdR R t) := by
  obtain ⟨q1, q2, q3, q4, q5, q6, q7, q8, q9, q10, q11, q12⟩ := cmq_of t hg
  obtain ⟨g1, g2, g3, g4, g5⟩ := hg
  have hg0 : gin R := ⟨g1, g2, g3, g4, g5⟩
  refine ⟨fun k g hk => ?_, fun g hk => ?_, fun i g hk => ?_, fun _ => ⟨fun h4 k hk => ?_, fun h2 => ?_, fun h3 e he => ?_⟩, fun h3 => ?_⟩
  · rw [q3]
    rw [cmd_ow] at hk
    split at hk
    · exact fg_old t _ (g1 k g hk)
    · split at hk
      · injection hk with hk
        rw [← hk]
        exact fg_new t _ _
      · exact fg_old t _ (g1 k g hk)
  · rw [q3]
    rw [cmd_op] at hk
    split at hk
    · injection hk with hk
      rw [← hk]
      exact fg_new t _ _
    · exact fg_old t _ (g2 g hk)
  · rw [q3]
    rw [cmd_en t hg0] at hk
    split at hk
    · injection hk with hk
      rw [← hk]
      exact fg_new t _ _
    · exact fg_old t _ (g3 i g hk)
  · rw [q8] at h4
    rw [q6] at hk
    have hkN : k < (rN R).length := by
      by_cases e : k < (rN R).length
      · exact e
      · rw [hin.2.2.2.1 4 k (by omega)] at hk
        cases hk
    rw [cmd_ow, q8, if_neg (show ¬ (rNu R 1 = 2 ∨ rNu R 1 = 3) by omega), if_pos ⟨hkN, hk⟩]
  · rw [q8] at h2
    rw [cmd_op, q8, if_pos h2]
  · rw [q8] at h3
    rw [q10] at he
    rw [cmd_en t hg0, q8, if_pos ⟨h3, he⟩]
  · rw [q8] at h3
    obtain ⟨e, e1, e2⟩ := g5 h3
    exact ⟨e, by rw [q10]; exact e1, by rw [q11]; exact e2⟩
end
/-- whose the commands are, once the line is in -/
def cmo (F : fx_F) (R R' : RS) (I : Nat → Nat → Int32) : Prop := F.1 511 = og (rCm R') (rOp R' 0) ∧ (∀ i, i < (rEn R).length → (F.2.1 9)[i]? = some (og (rCm R') ((rEn R').getD i (([], []), none)).2)) ∧ ∀ k, k < (rN R).length → I k 9 = og (rCm R') (rOw R' k)
theorem cmd_cr {σ σ2 : rb_St} {b : Nat} {F F2 : fx_F} {R R' : RS} {ad : Nat → Nat} {I I2 : Nat → Nat → Int32} {t : List Nat} (hq : cmq R R' t) (h : cr σ b F R ad I) (hd : rd F R I) (hh : hx σ σ2) (hf : cf [507, 511, 2807] [9] [] [10] F F2) (h3 : cr3 σ2 b F2 (rCm R')) (ho : cmo F2 R R' I2) (hI : ∀ k f, f ≠ 9 → I2 k f = I k f) (h7 : F2.1 2807 = oi (fg (rCm R') (rNu R 0))) : cr σ2 b F2 R' ad I2 ∧ rd F2 R' I2 := by
  obtain ⟨q1, q2, q3, q4, q5, q6, q7, q8, q9, q10, q11, q12⟩ := hq
  obtain ⟨c1, c2, c3, c4, c5, c6, c7⟩ := h
  refine ⟨⟨⟨?_, ?_⟩, ⟨?_, fun i hi => ?_, fun i hi => ?_⟩, h3, ⟨?_, fun i hi => ?_⟩, ⟨ho.1, ?_, ?_, ?_⟩, fun k hk => ?_, ?_⟩, ?_, fun hk => ?_, fun hk => ?_, fun hk k hk2 => ?_⟩
  · rw [q2, hf.1 501 (by decide)]; exact c1.1
  · rw [q2]; exact prow_hx c1.2 hh (hf.2.2.2.2 6 (by decide))
  · rw [q11, hf.1 505 (by decide)]; exact c2.1
  · rw [q11] at hi
    obtain ⟨p, q, p1, p2, p3, p4⟩ := erow_hx c2.2.1 hh (hf.2.2.2.2 7 (by decide)) (hf.2.2.2.2 8 (by decide)) i hi
    rw [q12]
    exact ⟨p, q, p1, p2, p3, p4⟩
  · rw [q11] at hi
    exact ho.2.1 i hi
  · rw [q4, hf.1 510 (by decide)]; exact c4.1
  · rw [q4] at hi
    rw [q4, hf.2.2.2.2 11 (by decide), hf.2.2.2.2 12 (by decide)]; exact c4.2 i hi
  · rw [q9, hf.2.2.2.1 512 (by decide)]; exact c5.2.1
  · rw [q7, hf.1 513 (by decide)]; exact c5.2.2.1
  · rw [q7, hf.1 514 (by decide)]; exact c5.2.2.2
  · rw [q1] at hk
    obtain ⟨d1, d2, d3, d4, d5⟩ := c6 k hk
    rw [q6]
    exact ⟨by rw [hI k 4 (by decide)]; exact d1, by rw [hI k 5 (by decide)]; exact d2, by rw [hI k 6 (by decide)]; exact d3, by rw [hI k 7 (by decide)]; exact d4, ho.2.2 k hk⟩
  · rw [q5]; exact vx_hx c7 hh (hf.2.2.2.2 19 (by decide))
  · rw [q8, hf.1 2805 (by decide)]; exact hd.1
  · rw [q8]; exact h7
  · rw [q8] at hk
    rw [q10, hf.1 2806 (by decide)]; exact hd.2.2.1 hk
  · rw [q8] at hk
    rw [q1] at hk2
    rw [q6, hI k 8 (by decide)]; exact hd.2.2.2 hk k hk2
theorem kd_2 {n : Nat} (h : n ≤ 4) (h2 : 2 ≤ n) : (n = 2 ∧ kd n = 4) ∨ (n = 3 ∧ kd n = 3) ∨ (n = 4 ∧ kd n = 2) := by
  have : n = 2 ∨ n = 3 ∨ n = 4 := by omega
  rcases this with e | e | e
  · exact Or.inl ⟨e, by rw [e]; rfl⟩
  · exact Or.inr (Or.inl ⟨e, by rw [e]; rfl⟩)
  · exact Or.inr (Or.inr ⟨e, by rw [e]; rfl⟩)
section
variable {σ : rb_St} {b : Nat} {F : fx_F} {R : RS} {ad : Nat → Nat} {I : Nat → Nat → Int32} {src : Nat → Option Nat}
theorem og_newn {Cm : List (Nat × List Nat)} {g : Nat} (h : fg Cm g = none) (t : List Nat) : og (Cm ++ [(g, t)]) (some g) = nI Cm.length := by
  show oi (fg (Cm ++ [(g, t)]) g) = _
  rw [fg_app, h]
  simp only [if_true]
  rfl
theorem c_begin (hb : rb_b σ ≤ b) (hF : fx_ln F) (hin : rin R) (hg : gin R) (h2 : 2 ≤ rNu R 1) (hnx : nx σ b F (rN R) ad I src) (t : List Nat) (h0 : fg (rCm R) (rNu R 0) = none) (h5 : F.1 2805 = kd (rNu R 1)) (h7 : F.1 2807 = nI (rCm R).length) (h6 : rNu R 1 = 3 → F.1 2806 = oi (rOp R 2)) (h8 : rNu R 1 = 4 → ∀ k, k < (rN R).length → I k 8 = nI (b2 (rFl R 4 k))) (h505 : F.1 505 = nI (rEn R).length) (ho1 : F.1 511 = og (rCm R) (rOp R 0)) (ho2 : ∀ i, i < (rEn R).length → (F.2.1 9)[i]? = some (og (rCm R) ((rEn R).getD i (([], []), none)).2)) (ho3 : ∀ k, k < (rN R).length → I k 9 = og (rCm R) (rOw R k)) : ∃ σ1 F1 I1, f_Reader_beginCommands (some (fx_ad b 28)) (fx_mk σ b F) = some (some (.int (nI (b2 (!x_taken R)))), fx_mk σ1 b F1) ∧ nx σ1 b F1 (rN R) ad I1 src ∧ hx σ σ1 ∧ gw 0 0 σ σ1 ∧ cf [511] [9] [] [] F F1 ∧ fx_ln F1 ∧ (∀ k f, f ≠ 9 → I1 k f = I k f) ∧ (x_taken R = false → cmo F1 R (x_cmdR R t) I1) := by
  have hq := cmq_of t hg
  have hok := hin.1
  have hcm := hok.2.2.2.1
  have a1 : og (rCm R ++ [(rNu R 0, t)]) (rOp R 0) = og (rCm R) (rOp R 0) := og_app _ _ (fun g hg' => hg.2.1 g hg')
  have a2 : ∀ i, og (rCm R ++ [(rNu R 0, t)]) ((rEn R).getD i (([], []), none)).2 = og (rCm R) ((rEn R).getD i (([], []), none)).2 := fun i => og_app _ _ (fun g hg' => hg.2.2.1 i g hg')
  have a3 : ∀ k, og (rCm R ++ [(rNu R 0, t)]) (rOw R k) = og (rCm R) (rOw R k) := fun k => og_app _ _ (fun g hg' => hg.1 k g hg')
  have hne : ∀ g, fg (rCm R) g ≠ none → decide (g ≠ rNu R 0) = true := fun g h => decide_eq_true (fun e => h (by rw [e]; exact h0))
  rcases kd_2 hok.2.2.2.2.2.2.2.2.1 h2 with ⟨e, ek⟩ | ⟨e, ek⟩ | ⟨e, ek⟩
  · have htk : x_taken R = decide (¬ rOp R 0 = none) := by
      unfold x_taken
      rw [if_pos e]
      cases hx : rOp R 0 with
      | none => rfl
      | some g =>
        simp only
        rw [hne g (hg.2.1 g hx)]
        exact (decide_eq_true (fun h => by cases h)).symm
    have ho := og_ne hcm (x := rOp R 0) (fun g hg' => hg.2.1 g hg')
    refine ⟨σ, fx_I F 511 (nI (rCm R).length), I, ?_, nx_cf (zi := [511]) (za := []) (zr := []) (zq := []) hnx (cf_I (cf_refl _ _ _ _ _) (by decide)) (by decide) (by decide), hx_refl _, gw_refl _, cf_I (cf_refl _ _ _ _ _) (by decide), fx_lnI hF, fun _ _ _ => rfl, fun ht => ⟨?_, fun i hi => ?_, fun k hk => ?_⟩⟩
    · unfold f_Reader_beginCommands f_Reader_beginCommands_j24
      simp only [↓fx_bc, ↓fx_vc hb, h5, ek, h7, ho1]
      rw [if_pos trivial, htk]
      by_cases en : rOp R 0 = none
      · rw [if_pos (ho.mpr en), decide_eq_false (fun h => h en)]
        rfl
      · rw [if_neg (fun h => en (ho.mp h)), decide_eq_true en]
        rfl
    · rw [hq.2.2.1, cmd_op, if_pos e, fx_I_1, if_pos rfl, og_newn h0]
    · rw [hq.2.2.1, cmd_en t hg, if_neg (show ¬ (rNu R 1 = 3 ∧ rOp R 2 = some i) by omega), a2]
      exact ho2 i hi
    · rw [hq.2.2.1, cmd_ow, if_pos (Or.inl e), a3]
      exact ho3 k hk
  · have htk : x_taken R = false := by
      unfold x_taken
      rw [if_neg (show ¬ rNu R 1 = 2 by omega), if_neg (show ¬ rNu R 1 = 4 by omega)]
    obtain ⟨i0, e1, e2⟩ := hg.2.2.2.2 e
    have h66 : F.1 2806 = nI i0 := by rw [h6 e, e1]; rfl
    have hl9 := hF.1 9
    simp only [fx_cI] at hl9
    have h8e := hok.2.2.1.1
    refine ⟨σ, fx_A F 9 ((F.2.1 9).set i0 (nI (rCm R).length)), I, ?_, nx_cf (zi := []) (za := [9]) (zr := []) (zq := []) hnx (cf_A (cf_refl _ _ _ _ _) (by decide)) (by decide) (by decide), hx_refl _, gw_refl _, cf_A (cf_refl _ _ _ _ _) (by decide), fx_lnA hF (by rw [List.length_set]; exact hF.1 9), fun _ _ _ => rfl, fun _ => ⟨?_, fun i hi => ?_, fun k hk => ?_⟩⟩
    · have hge := c_giveEnding (σ := σ) (F := F) hb hF h505 h8e e2 (nI (rCm R).length)
      unfold f_Reader_beginCommands
      simp only [↓fx_bc, h5, ek, h7, h66, ↓cV_of hge]
      rw [if_neg (show ¬ (3 : Int32) = 4 by decide), if_pos trivial, htk]
      rfl
    · rw [hq.2.2.1, cmd_op, if_neg (show ¬ rNu R 1 = 2 by omega), a1]
      exact ho1
    · rw [hq.2.2.1, cmd_en t hg, fx_A_A, if_pos rfl, set_get (by omega)]
      by_cases ei : i = i0
      · rw [if_pos ei, if_pos ⟨e, by rw [ei]; exact e1⟩, og_newn h0]
      · rw [if_neg ei, if_neg (fun hc => ei (by rw [e1] at hc; injection hc.2 with hc; exact hc.symm)), a2]
        exact ho2 i hi
    · rw [hq.2.2.1, cmd_ow, if_pos (Or.inr e), a3]
      exact ho3 k hk
  · have hN := hok.1
    have htk : x_taken R = !(sr (fun j => rFl R 4 j && !(decide (rOw R j = none))) (rN R).length 0).isNone := by
      unfold x_taken
      rw [if_neg (show ¬ rNu R 1 = 2 by omega), if_pos e]
      have hgen : ∀ P : Nat → Bool, (∀ j, P j = (rFl R 4 j && !(decide (rOw R j = none)))) → (sr P (rN R).length 0).isSome = !(sr (fun j => rFl R 4 j && !(decide (rOw R j = none))) (rN R).length 0).isNone := fun P hP => by
        rw [show P = fun j => rFl R 4 j && !(decide (rOw R j = none)) from funext hP]
        cases sr (fun j => rFl R 4 j && !(decide (rOw R j = none))) (rN R).length 0 <;> rfl
      refine hgen _ (fun j => ?_)
      show (rFl R 4 j && _) = _
      congr 1
      cases hx : rOw R j with
      | none => rfl
      | some g =>
        simp only
        rw [hne g (hg.1 j g hx)]
        rfl
    obtain ⟨σ1, I1, b1, b2', b3, b4, b5, b6⟩ := c_give (b := b) (F := F) (ad := ad) (src := src) hN (nI (rCm R).length) (fun j => rFl R 4 j) (fun j => decide (rOw R j = none)) (rN R).length 0 σ I (by omega) hnx (fun j _ hj => ⟨h8 e j hj, by
      rw [ho3 j hj, og_ne hcm (fun g hg' => hg.1 j g hg')]
      exact ⟨fun h => decide_eq_true h, fun h => of_decide_eq_true h⟩⟩)
    refine ⟨σ1, F, I1, ?_, b2', b3, b4, cf_refl _ _ _ _ _, hF, b5, fun ht => ⟨?_, fun i hi => ?_, fun k hk => ?_⟩⟩
    · have b1' : f_Store_giveToLatestTargets (some (fx_ad b 3)) (nI (rCm R).length) (fx_mk σ b F) = _ := b1
      unfold f_Reader_beginCommands
      simp only [↓fx_bc, h5, ek, h7, ↓cI_of b1']
      rw [if_neg (show ¬ (2 : Int32) = 4 by decide), if_neg (show ¬ (2 : Int32) = 3 by decide), if_pos (isZ_b2 _), htk, Bool.not_not]
    · rw [hq.2.2.1, cmd_op, if_neg (show ¬ rNu R 1 = 2 by omega), a1]
      exact ho1
    · rw [hq.2.2.1, cmd_en t hg, if_neg (show ¬ (rNu R 1 = 3 ∧ rOp R 2 = some i) by omega), a2]
      exact ho2 i hi
    · have hno : (sr (fun j => rFl R 4 j && !(decide (rOw R j = none))) (rN R).length 0) = none := by
        rw [ht] at htk
        cases hx : sr (fun j => rFl R 4 j && !(decide (rOw R j = none))) (rN R).length 0 with
        | none => rfl
        | some j =>
          rw [hx] at htk
          cases htk
      rw [hq.2.2.1, cmd_ow, if_neg (show ¬ (rNu R 1 = 2 ∨ rNu R 1 = 3) by omega), b6 hno k]
      by_cases ek2 : rFl R 4 k = true
      · rw [if_pos ⟨Nat.zero_le _, hk, ek2⟩, if_pos ⟨hk, ek2⟩, og_newn h0]
      · rw [if_neg (fun hc => ek2 hc.2.2), if_neg (fun hc => ek2 hc.2), a3]
        exact ho3 k hk
theorem c_cmdCount {n : Nat} (h : F.1 507 = nI n) : f_Rules_commandCount (some (fx_ad b 5)) (fx_mk σ b F) = some (some (.int (nI n)), fx_mk σ b F) := by
  unfold f_Rules_commandCount
  simp only [↓fx_bc, h]
theorem c_cmdLine (hk : kx σ b) (hF : fx_ln F) (hlg : lg F) (hin : rin R) (h : cr σ b F R ad I) (hd : rd F R I) (hg : gin R) (hnx : nx σ b F (rN R) ad I src) {t : List Nat} (htk : tk t) (htl : t.length ≤ 319) (htx : tw F 29 (9 :: t)) : ∃ σ' F', f_Reader_readCommandLine (some (fx_ad b 28)) (fx_mk σ b F) = some (some (.int (nI (b2 (x_cmd R t).1))), fx_mk σ' b F') ∧ rres σ b F (rN R) ad I 6 1100 (x_cmd R t) σ' F' := by
  have hb := hk.1
  have hok := hin.1
  have hcm := hok.2.2.2.1
  have hkd := hok.2.2.2.2.2.2.2.2.1
  by_cases h2 : rNu R 1 < 2
  · refine ⟨σ, F, ?_, ?_⟩
    · unfold f_Reader_readCommandLine x_cmd
      rw [if_pos (Or.inl h2)]
      simp only [↓fx_bc, hd.1]
      have : rNu R 1 = 0 ∨ rNu R 1 = 1 := by omega
      rcases this with e | e
      · rw [e, if_pos (show kd 0 = 0 from rfl)]
        rfl
      · rw [e, if_neg (show ¬ kd 1 = 0 by decide), if_pos (show kd 1 = 1 from rfl)]
        rfl
    · unfold x_cmd
      rw [if_pos (Or.inl h2)]
      exact ⟨ad, I, src, hnx, nxr_refl _ _ _, hx_refl _, gw_mono (gw_refl _) (by decide) (by decide), cf_refl _ _ _ _ _, hF, hlg, fun h => by cases h⟩
  · have h2' : 2 ≤ rNu R 1 := by omega
    have hn0 : ¬ kd (rNu R 1) = 0 ∧ ¬ kd (rNu R 1) = 1 := by
      rcases kd_2 hkd h2' with ⟨e, ek⟩ | ⟨e, ek⟩ | ⟨e, ek⟩ <;> rw [ek] <;> decide
    have h7 := hd.2.1 h2'
    have hq := cmq_of t hg
    cases hfg : fg (rCm R) (rNu R 0) with
    | some j =>
      have hj := fg_lt hfg
      rw [hfg] at h7
      have h7' : F.1 2807 = nI j := h7
      have hnt : x_taken R = false := by
        have hgg := hg.2.2.2.1 (by rw [hfg]; exact fun h => by cases h)
        unfold x_taken
        by_cases e2 : rNu R 1 = 2
        · rw [if_pos e2, hgg.2.1 e2]
          simp
        · rw [if_neg e2]
          by_cases e4 : rNu R 1 = 4
          · rw [if_pos e4]
            cases hx : sr (fun k => rFl R 4 k && (match rOw R k with | some g => decide (g ≠ rNu R 0) | none => false)) (rN R).length 0 with
            | none => rfl
            | some k =>
              have := (sr_some hx).2.2
              simp only [Bool.and_eq_true] at this
              rw [hgg.1 e4 k this.1] at this
              simp at this
          · rw [if_neg e4]
      obtain ⟨σ2, F2, c1, c2, c3, c4, c5, c6⟩ := c_cmdTail hk hF h.2.2.1 hcm htk htl htx h7'
      have hres : f_Reader_readCommandLine (some (fx_ad b 28)) (fx_mk σ b F) = some (some (.int (nI (b2 (decide (¬ (rCm R).length = 30))))), fx_mk σ2 b F2) := by
        unfold f_Reader_readCommandLine
        simp only [↓fx_bc, hd.1, h7']
        rw [if_neg hn0.1, if_neg hn0.2, if_neg (by rw [u_nm1 (by omega)]; exact id), c1]
      have hnx2 : nx σ2 b F2 (rN R) ad I src := nx_cf (nx_hn hnx c2) c4 (by decide) (by decide)
      refine ⟨σ2, F2, ?_, ?_⟩
      · rw [hres]
        unfold x_cmd
        by_cases e30 : (rCm R).length = 30
        · rw [if_pos (Or.inr (Or.inl e30)), decide_eq_false (fun h => h e30)]
        · rw [if_neg (show ¬ (rNu R 1 < 2 ∨ (rCm R).length = 30 ∨ x_taken R = true) by rw [hnt]; intro hc; rcases hc with hc | hc | hc; exact h2 hc; exact e30 hc; cases hc), decide_eq_true e30]
      · unfold x_cmd
        by_cases e30 : (rCm R).length = 30
        · rw [if_pos (Or.inr (Or.inl e30))]
          exact ⟨ad, I, src, hnx2, nxr_refl _ _ _, c2.1, c3, cf_mono c4 (by decide) (by decide) (by decide) (by decide), c5, lg_cf hlg c4 (by decide), fun h => by cases h⟩
        · rw [if_neg (show ¬ (rNu R 1 < 2 ∨ (rCm R).length = 30 ∨ x_taken R = true) by rw [hnt]; intro hc; rcases hc with hc | hc | hc; exact h2 hc; exact e30 hc; cases hc)]
          have hgg := hg.2.2.2.1 (by rw [hfg]; exact fun h => by cases h)
          have hfg2 : fg (rCm R ++ [(rNu R 0, t)]) (rNu R 0) = some j := by rw [fg_app, hfg]
          have h3 := c6 e30 (rNu R 0) (by rw [hfg2]; rfl)
          rw [← hq.2.2.1] at h3
          have ho : cmo F2 R (x_cmdR R t) I := by
            refine ⟨?_, fun i hi => ?_, fun k hk => ?_⟩
            · rw [hq.2.2.1, cmd_op, c4.1 511 (by decide), h.2.2.2.2.1.1]
              have : (if rNu R 1 = 2 then some (rNu R 0) else rOp R 0) = rOp R 0 := by
                by_cases e2 : rNu R 1 = 2
                · rw [if_pos e2, hgg.2.1 e2]
                · rw [if_neg e2]
              rw [this, og_app _ _ (fun g hg' => hg.2.1 g hg')]
            · rw [hq.2.2.1, cmd_en t hg, c4.2.1 9 (by decide), h.2.1.2.2 i hi]
              have : (if rNu R 1 = 3 ∧ rOp R 2 = some i then some (rNu R 0) else ((rEn R).getD i (([], []), none)).2) = ((rEn R).getD i (([], []), none)).2 := by
                by_cases e2 : rNu R 1 = 3 ∧ rOp R 2 = some i
                · rw [if_pos e2, hgg.2.2 e2.1 i e2.2]
                · rw [if_neg e2]
              rw [this, og_app _ _ (fun g hg' => hg.2.2.1 i g hg')]
            · rw [hq.2.2.1, cmd_ow, (h.2.2.2.2.2.1 k hk).2.2.2.2]
              have : (if rNu R 1 = 2 ∨ rNu R 1 = 3 then rOw R k else if k < (rN R).length ∧ rFl R 4 k = true then some (rNu R 0) else rOw R k) = rOw R k := by
                by_cases e2 : rNu R 1 = 2 ∨ rNu R 1 = 3
                · rw [if_pos e2]
                · rw [if_neg e2]
                  by_cases e4 : k < (rN R).length ∧ rFl R 4 k = true
                  · rw [if_pos e4, hgg.1 (by omega) k e4.2]
                  · rw [if_neg e4]
              rw [this, og_app _ _ (fun g hg' => hg.1 k g hg')]
          have hfin := cmd_cr hq h hd c2.1 (cf_mono c4 (by decide) (by decide) (by decide) (by decide)) h3 ho (fun _ _ _ => rfl) (by rw [c4.1 2807 (by decide), h7', hq.2.2.1, hfg2]; rfl)
          exact ⟨ad, I, src, by rw [show rN (true, x_cmdR R t).2 = rN R from hq.1]; exact hnx2, by rw [show rN (true, x_cmdR R t).2 = rN R from hq.1]; exact nxr_refl _ _ _, c2.1, c3, cf_mono c4 (by decide) (by decide) (by decide) (by decide), c5, lg_cf hlg c4 (by decide), fun _ => ⟨hfin.1, hfin.2, cmd_gin t hin hg h2'⟩⟩
    | none =>
      rw [hfg] at h7
      have h7' : F.1 2807 = -1 := h7
      have hF1 : fx_ln (fx_I F 2807 (nI (rCm R).length)) := fx_lnI hF
      have hf1 : cf [2807] [] [] [] F (fx_I F 2807 (nI (rCm R).length)) := cf_I (cf_refl _ _ _ _ _) (by decide)
      obtain ⟨σ1, F1, I1, b1, b2', b3, b4, b5, b6, b7, b8⟩ := c_begin (σ := σ) (b := b) (F := fx_I F 2807 (nI (rCm R).length)) (R := R) (ad := ad) (I := I) (src := src) hb hF1 hin hg h2' (nx_cf hnx hf1 (by decide) (by decide)) t hfg (by rw [hf1.1 2805 (by decide)]; exact hd.1) (by rw [fx_I_1, if_pos rfl]) (fun e => by rw [hf1.1 2806 (by decide)]; exact hd.2.2.1 e) hd.2.2.2 (by rw [hf1.1 505 (by decide)]; exact h.2.1.1) (by rw [hf1.1 511 (by decide)]; exact h.2.2.2.2.1.1) (fun i hi => by rw [hf1.2.1 9 (by decide)]; exact h.2.1.2.2 i hi) (fun k hk => (h.2.2.2.2.2.1 k hk).2.2.2.2)
      have hfb : cf [507, 511, 2807] [9] [] [10] F F1 := cf_trans (cf_mono hf1 (by decide) (by decide) (by decide) (by decide)) (cf_mono b5 (by decide) (by decide) (by decide) (by decide))
      have h7b : F1.1 2807 = nI (rCm R).length := by rw [b5.1 2807 (by decide), fx_I_1, if_pos rfl]
      by_cases ht : x_taken R = true
      · refine ⟨σ1, F1, ?_, ?_⟩
        · unfold f_Reader_readCommandLine x_cmd
          rw [if_pos (Or.inr (Or.inr ht))]
          rw [ht] at b1
          simp only [↓fx_bc, ↓fx_vc hb, hd.1, h7', ↓cI_of (c_cmdCount (σ := σ) (b := b) h.2.2.1.1), ↓cI_of b1, if_true]
          rw [if_neg hn0.1, if_neg hn0.2, if_pos (show nI (b2 (!true)) = 0 from rfl)]
          rfl
        · unfold x_cmd
          rw [if_pos (Or.inr (Or.inr ht))]
          exact ⟨ad, I1, src, b2', nxr_of (fun k _ f hf => b7 k f (by
            intro e
            subst e
            exact absurd hf (by decide))), b3, gw_mono b4 (by decide) (by decide), cf_mono hfb (by decide) (by decide) (by decide) (by decide), b6, lg_cf hlg hfb (by decide), fun h => by cases h⟩
      · have ht' : x_taken R = false := Bool.eq_false_iff.mpr ht
        have h31 : cr3 σ1 b F1 (rCm R) := ⟨by rw [b5.1 507 (by decide), fx_I_1, if_neg (by decide)]; exact h.2.2.1.1, fun i hi => by
          obtain ⟨p, p1, p2⟩ := h.2.2.1.2 i hi
          exact ⟨p, by rw [b5.2.2.2.2 10 (by decide)]; exact p1, cmx_hx p2 b3⟩⟩
        have htx1 : tw F1 29 (9 :: t) := tw_cf htx hfb (by decide) (by decide)
        obtain ⟨σ2, F2, c1, c2, c3, c4, c5, c6⟩ := c_cmdTail (kx_hx hk b3) b6 h31 hcm htk htl htx1 h7b
        have hf2 : cf [507, 511, 2807] [9] [] [10] F F2 := cf_trans hfb (cf_mono c4 (by decide) (by decide) (by decide) (by decide))
        have hres : f_Reader_readCommandLine (some (fx_ad b 28)) (fx_mk σ b F) = some (some (.int (nI (b2 (decide (¬ (rCm R).length = 30))))), fx_mk σ2 b F2) := by
          unfold f_Reader_readCommandLine
          rw [ht'] at b1
          simp only [↓fx_bc, ↓fx_vc hb, hd.1, h7', ↓cI_of (c_cmdCount (σ := σ) (b := b) h.2.2.1.1), ↓cI_of b1, if_true]
          rw [if_neg hn0.1, if_neg hn0.2, if_neg (show ¬ nI (b2 (!false)) = 0 by decide), c1]
        have hnx2 : nx σ2 b F2 (rN R) ad I1 src := nx_cf (nx_hn b2' c2) c4 (by decide) (by decide)
        have hI1 : nxr (rN R) ad I (rN R) ad I1 := nxr_of (fun k _ f hf => b7 k f (by
            intro e
            subst e
            exact absurd hf (by decide)))
        refine ⟨σ2, F2, ?_, ?_⟩
        · rw [hres]
          unfold x_cmd
          by_cases e30 : (rCm R).length = 30
          · rw [if_pos (Or.inr (Or.inl e30)), decide_eq_false (fun h => h e30)]
          · rw [if_neg (show ¬ (rNu R 1 < 2 ∨ (rCm R).length = 30 ∨ x_taken R = true) by rw [ht']; intro hc; rcases hc with hc | hc | hc; exact h2 hc; exact e30 hc; cases hc), decide_eq_true e30]
        · unfold x_cmd
          by_cases e30 : (rCm R).length = 30
          · rw [if_pos (Or.inr (Or.inl e30))]
            exact ⟨ad, I1, src, hnx2, hI1, hx_trans b3 c2.1, gw_mono (gw_trans b4 c3) (by decide) (by decide), cf_mono hf2 (by decide) (by decide) (by decide) (by decide), c5, lg_cf hlg hf2 (by decide), fun h => by cases h⟩
          · rw [if_neg (show ¬ (rNu R 1 < 2 ∨ (rCm R).length = 30 ∨ x_taken R = true) by rw [ht']; intro hc; rcases hc with hc | hc | hc; exact h2 hc; exact e30 hc; cases hc)]
            have hfg2 : oi (fg (rCm R ++ [(rNu R 0, t)]) (rNu R 0)) = nI (rCm R).length := og_newn hfg t
            have h3 := c6 e30 (rNu R 0) hfg2.symm
            rw [← hq.2.2.1] at h3
            obtain ⟨o1, o2, o3⟩ := b8 ht'
            have ho : cmo F2 R (x_cmdR R t) I1 := ⟨by rw [c4.1 511 (by decide)]; exact o1, fun i hi => by rw [c4.2.1 9 (by decide)]; exact o2 i hi, o3⟩
            have hfin := cmd_cr hq h hd (hx_trans b3 c2.1) hf2 h3 ho b7 (by rw [c4.1 2807 (by decide), h7b, hq.2.2.1, hfg2])
            exact ⟨ad, I1, src, by rw [show rN (true, x_cmdR R t).2 = rN R from hq.1]; exact hnx2, by rw [show rN (true, x_cmdR R t).2 = rN R from hq.1]; exact hI1, hx_trans b3 c2.1, gw_mono (gw_trans b4 c3) (by decide) (by decide), cf_mono hf2 (by decide) (by decide) (by decide) (by decide), c5, lg_cf hlg hf2 (by decide), fun _ => ⟨hfin.1, hfin.2, cmd_gin t hin hg h2'⟩⟩
end
