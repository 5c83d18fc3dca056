/-! the class: a rule line's work -/
section
variable {σ : rb_St} {b : Nat} {F : fx_F} {N : List (List Nat)} {ad : Nat → Nat} {I : Nat → Nat → Int32} {src : Nat → Option Nat}
theorem c_mark (hk : kx σ b) (hF : fx_ln F) {W : List (Nat × Nat)} (hw : wc F W) (h60 : W.length ≤ 60) (h1 : 1 ≤ W.length) {a : Nat} {only : List Nat} (hs : sx σ b a only) {ks : List Nat} (hl : ks.length = W.length - 1) (hq : mt F ad 1 ks) (hks : ∀ j, j < ks.length → ks.getD j 0 < N.length) (h : nx σ b F N ad I src) {fl : Nat → Nat → Bool} (hm : mkf N I fl) {B0 B1 : Bool} (hB0 : F.1 513 = nI (b2 B0)) (hB1 : F.1 514 = nI (b2 B1)) : ∃ σ' F' I', f_Reader_mark (some (fx_ad b 28)) (some a) (fx_mk σ b F) = some (some (.int 1), fx_mk σ' b F') ∧ nx σ' b F' N ad I' src ∧ hx σ σ' ∧ gw 0 0 σ σ' ∧ cf [513, 514] [] [] [] F F' ∧ fx_ln F' ∧ (∀ k f, f ∉ [5, 6, 7] → I' k f = I k f) ∧ mkf N I' (fun x j => fl x j || (decide (j ∈ ks) && ((decide (x = 1) && decide (only = q_PHO)) || (decide (x = 2) && decide (only = q_IGN)) || (decide (x = 3) && decide (only = q_SIL))))) ∧ F'.1 513 = nI (b2 (B0 || (decide (W.length = 1) && decide (only = q_IGN)))) ∧ F'.1 514 = nI (b2 (B1 || (decide (W.length = 1) && decide (only = q_SIL)))) := by
  have hb := hk.1
  obtain ⟨v, hv⟩ := sx_fc hs
  have hcnt := c_wcount (σ := σ) (b := b) hw
  have e3 : f_Str_equals (some a) (some (rb_k (fx_mk σ b F) 3)) (fx_mk σ b F) = some (some (.int (nI (b2 (decide (only = q_IGN))))), fx_mk σ b F) := c_equals (F := F) hs (hk.2.2 3 (by decide))
  have e4 : f_Str_equals (some a) (some (rb_k (fx_mk σ b F) 4)) (fx_mk σ b F) = some (some (.int (nI (b2 (decide (only = q_SIL))))), fx_mk σ b F) := c_equals (F := F) hs (hk.2.2 4 (by decide))
  have e2 : f_Str_equals (some a) (some (rb_k (fx_mk σ b F) 2)) (fx_mk σ b F) = some (some (.int (nI (b2 (decide (only = q_PHO))))), fx_mk σ b F) := c_equals (F := F) hs (hk.2.2 2 (by decide))
  by_cases e1 : W.length = 1
  · have hks0 : ks = [] := List.eq_nil_of_length_eq_zero (by omega)
    subst hks0
    generalize hF1 : fx_I (fx_I F 513 (nI (b2 (B0 || decide (only = q_IGN))))) 514 (nI (b2 (B1 || decide (only = q_SIL)))) = F1
    have hcf : cf [513, 514] [] [] [] F F1 := by subst hF1; exact cf_I (cf_I (cf_refl _ _ _ _ _) (by decide)) (by decide)
    obtain ⟨σ2, I2, c1, c2, c3, c4, c5, c6⟩ := c_markLoop (b := b) (F := F1) (N := N) (ad := ad) (src := src) (W := W) (wc_cf hw hcf (by decide) (by decide) (by decide)) h60 (decide (only = q_IGN)) (decide (only = q_SIL)) (decide (only = q_PHO)) [] 1 σ I fl (by rw [List.length_nil]; omega) (fun j hj => absurd hj (Nat.not_lt_zero _)) (fun j hj => absurd hj (Nat.not_lt_zero _)) (nx_cf h hcf (by decide) (by decide)) hm
    have c1' : rb_it (fun z : (Int32 × rb_St) => f_Reader_mark_b88 (some (fx_ad b 28)) (nI (b2 (decide (only = q_IGN)))) (nI (b2 (decide (only = q_SIL)))) (nI (b2 (decide (only = q_PHO)))) (z.1) z.2) ((1 : Int32), fx_mk σ b F1) = _ := c1
    refine ⟨σ2, F1, I2, ?_, c2, c3, c4, hcf, by subst hF1; exact fx_lnI (fx_lnI hF), c5, c6, by subst hF1; rw [fx_I_1, if_neg (by decide), fx_I_1, if_pos rfl, decide_eq_true e1, Bool.true_and], by subst hF1; rw [fx_I_1, if_pos rfl, decide_eq_true e1, Bool.true_and]⟩
    have j56 : ∀ y : Bool, y = (B0 || decide (only = q_IGN)) → f_Reader_mark_j56 (some (fx_ad b 28)) (nI (b2 (decide (only = q_IGN)))) (nI (b2 (decide (only = q_SIL)))) (nI (b2 (decide (only = q_PHO)))) (nI (b2 y)) (some (fx_ad b 5)) (fx_mk σ b F) = some (some (.int 1), fx_mk σ2 b F1) := by
      intro y hy
      subst hy
      unfold f_Reader_mark_j56
      simp only [↓fx_bc, ↓fx_vc hb, show (fx_I F 513 (nI (b2 (B0 || decide (only = q_IGN))))).1 514 = nI (b2 B1) from hB1]
      rw [if_pos (show nI (b2 (B0 || decide (only = q_IGN))) = 0 ∨ nI (b2 (B0 || decide (only = q_IGN))) = 1 from isZ_b2 _)]
      cases B1
      · rw [if_pos (show nI (b2 false) = 0 from rfl)]
        cases hS : decide (only = q_SIL)
        · rw [hS] at c1' hF1
          rw [if_pos (show nI (b2 false) = 0 from rfl), if_pos (Or.inl trivial)]
          subst hF1
          exact c1'
        · rw [hS] at c1' hF1
          rw [if_neg (show ¬ nI (b2 true) = 0 by decide), if_pos (Or.inr trivial)]
          subst hF1
          exact c1'
      · rw [if_neg (show ¬ nI (b2 true) = 0 by decide), if_pos (Or.inr trivial)]
        subst hF1
        exact c1'
    unfold f_Reader_mark f_Reader_mark_j51
    simp only [↓fx_bc, hv, Option.bind_some, ↓cI_of e3, ↓cI_of e4, ↓cI_of e2, ↓cI_of hcnt, hB0]
    rw [if_pos (show nI W.length = (1 : Int32) by rw [e1]; rfl)]
    cases B0
    · rw [if_pos (show nI (b2 false) = 0 from rfl)]
      cases hI : decide (only = q_IGN)
      · rw [hI] at j56
        rw [if_pos (show nI (b2 false) = 0 from rfl)]
        exact j56 false rfl
      · rw [hI] at j56
        rw [if_neg (show ¬ nI (b2 true) = 0 by decide)]
        exact j56 true rfl
    · rw [if_neg (show ¬ nI (b2 true) = 0 by decide)]
      exact j56 true rfl
  · obtain ⟨σ2, I2, c1, c2, c3, c4, c5, c6⟩ := c_markLoop (b := b) (F := F) (N := N) (ad := ad) (src := src) (W := W) hw h60 (decide (only = q_IGN)) (decide (only = q_SIL)) (decide (only = q_PHO)) ks 1 σ I fl (by omega) hq hks h hm
    have c1' : rb_it (fun z : (Int32 × rb_St) => f_Reader_mark_b88 (some (fx_ad b 28)) (nI (b2 (decide (only = q_IGN)))) (nI (b2 (decide (only = q_SIL)))) (nI (b2 (decide (only = q_PHO)))) (z.1) z.2) ((1 : Int32), fx_mk σ b F) = _ := c1
    refine ⟨σ2, F, I2, ?_, c2, c3, c4, cf_refl _ _ _ _ _, hF, c5, c6, by rw [decide_eq_false e1, Bool.false_and, Bool.or_false]; exact hB0, by rw [decide_eq_false e1, Bool.false_and, Bool.or_false]; exact hB1⟩
    unfold f_Reader_mark
    simp only [↓fx_bc, hv, Option.bind_some, ↓cI_of e3, ↓cI_of e4, ↓cI_of e2, ↓cI_of hcnt]
    rw [if_neg (show ¬ nI W.length = (1 : Int32) by rw [u_l1, u_eq (by omega) (by omega)]; exact e1), c1']
theorem from_split {sf : List (List Nat)} {w : List Nat} {rs : List Nat × List Nat} (h : x_from sf w = some rs) : rs.1 = w.take rs.1.length ∧ rs.2 = w.drop rs.1.length ∧ rs.1.length ≤ w.length := by
  unfold x_from at h
  split at h
  · injection h with h
    subst h
    exact ⟨(List.take_length ..).symm, (List.drop_length ..).symm, Nat.le_refl _⟩
  · split at h
    · rename_i k hk
      injection h with h
      subst h
      have h2 := (sr_some hk).2.2
      rw [Bool.and_eq_true] at h2
      have h3 := of_decide_eq_true h2.1
      exact ⟨h3.2.symm, rfl, Nat.le_of_lt h3.1⟩
    · cases h
theorem c_readEnding (hk : kx σ b) (hF : fx_ln F) {R : RS} (h1 : cr1 σ b F (rSf R)) (hl1 : (rSf R).length ≤ 6) (h2 : cr2 σ b F (rEn R) (rCm R)) (hl2 : (rEn R).length ≤ 8) {a : Nat} {w : List Nat} (hw : w.length ≤ 320) (hs : sx σ b a w) {rs : List Nat × List Nat} (hrs : x_from (rSf R) w = some rs) : ∃ σ' F', f_Reader_readEnding (some (fx_ad b 28)) (some a) (fx_mk σ b F) = some (some (.int (nI (b2 (x_end R rs).1))), fx_mk σ' b F') ∧ hn σ σ' ∧ gw 30 5500 σ σ' ∧ cf [505, 2806] [9] [] [7, 8] F F' ∧ fx_ln F' ∧ ((x_end R rs).1 = true → cr2 σ' b F' (rEn (x_end R rs).2) (rCm R) ∧ F'.1 2806 = oi (rOp (x_end R rs).2 2)) := by
  have hb := hk.1
  obtain ⟨v, hv⟩ := sx_fc hs
  obtain ⟨s1, s2, s3⟩ := from_split hrs
  obtain ⟨σ1, a1, a2, a3⟩ := c_fromLength (F := F) hk h1.1 hl1 h1.2 hw hs
  rw [hrs] at a1
  have hk1 := kx_hx hk a2.1
  have hs1 := sx_hx hs a2.1
  obtain ⟨σ2, p, c1, c2, c3, c4⟩ := c_sub2 (F := F) hk1 hs1 (p := 0) (q := rs.1.length) (Nat.zero_le _) s3
  have hsl : slc w 0 rs.1.length = rs.1 := by
    unfold slc
    rw [List.drop_zero, Nat.sub_zero]
    exact s1.symm
  rw [hsl] at c2
  have hk2 := kx_hx hk1 c3.1
  have hs2 := sx_hx hs1 c3.1
  obtain ⟨σ3, q, d1, d2, d3, d4⟩ := c_sub (F := F) hk2 hs2 (p := rs.1.length) s3
  rw [← s2] at d2
  have hk3 := kx_hx hk2 d3.1
  have hh3 : hn σ σ3 := hn_trans a2 (hn_trans c3 d3)
  obtain ⟨σ4, F4, g1, g2, g3, g4, g5, g6⟩ := c_renewEnding (F := F) hk3 hF h2.1 hl2 (erow_hx h2.2.1 hh3.1 rfl rfl) (sx_hx c2 d3.1) d2
  have hb4 : rb_b σ4 ≤ b := by rw [g2.1.2.1]; exact hk3.1
  have c1' : f_Str_substring2 (some a) (0 : Int32) (nI rs.1.length) (fx_mk σ1 b F) = _ := c1
  have hpr : ((rs.1, rs.2) : List Nat × List Nat) = rs := rfl
  rw [hpr] at g1 g6
  obtain ⟨v1, hv1⟩ := sx_fc hs1
  obtain ⟨v2, hv2⟩ := sx_fc hs2
  have hfun : ∀ X : Option Nat, f_Rules_renewEnding (some (fx_ad b 5)) (some p) (some q) (fx_mk σ3 b F) = some (some (.int (oi X)), fx_mk σ4 b F4) → f_Reader_readEnding (some (fx_ad b 28)) (some a) (fx_mk σ b F) = some (some (.int (if oi X = (-1 : Int32) then 0 else 1)), fx_mk σ4 b (fx_I F4 2806 (oi X))) := by
    intro X g1
    unfold f_Reader_readEnding
    simp only [↓fx_bc, ↓cI_of a1, hv1, ↓cR_of c1', hv2, ↓cR_of d1, ↓cI_of g1, ↓fx_vc hb4, Option.bind_some, fx_I_1, if_true]
    split <;> rfl
  have hcf : ∀ x, cf [505, 2806] [9] [] [7, 8] F (fx_I F4 2806 x) := fun x => cf_I (cf_mono g4 (by decide) (by decide) (by decide) (by decide)) (by decide)
  have hgw : gw 30 5500 σ σ4 := gw_mono (gw_trans a3 (gw_trans c4 (gw_trans d4 g3))) (by omega) (by omega)
  have hcr : ∀ (k : Nat) (En' : List ((List Nat × List Nat) × Option Nat)), (F4.1 505 = nI En'.length ∧ erow σ4 b F4 En' ∧ ∀ i, i < En'.length → some k = some i ∧ (F4.2.1 9)[i]? = some (-1 : Int32) ∨ (some k ≠ some i ∧ i < (rEn R).length ∧ (F4.2.1 9)[i]? = (F.2.1 9)[i]?)) → (∀ i, i < En'.length → (En'.getD i (([], []), none)).2 = if i = k then none else ((rEn R).getD i (([], []), none)).2) → cr2 σ4 b (fx_I F4 2806 (oi (some k))) En' (rCm R) := by
    intro k En' hq hget
    obtain ⟨q1, q2, q3⟩ := hq
    refine ⟨by rw [fx_I_1, if_neg (by decide)]; exact q1, q2, fun i hi => ?_⟩
    rw [hget i hi]
    rcases q3 i hi with ⟨r1, r2⟩ | ⟨r1, r2, r3⟩
    · injection r1 with r1
      rw [if_pos r1.symm]
      exact r2
    · rw [if_neg (fun e => r1 (by rw [e]))]
      show (F4.2.1 9)[i]? = _
      rw [r3]
      exact h2.2.2 i r2
  unfold x_end
  cases hx : x_eidx (rEn R) rs with
  | some k =>
    rw [hx] at g1 g6
    simp only at g1 g6
    have hk8 : k < (rEn R).length := by
      have := sr_some hx
      omega
    refine ⟨σ4, fx_I F4 2806 (oi (some k)), ?_, hn_trans hh3 g2, hgw, hcf _, fx_lnI g5, fun _ => ⟨hcr k _ (g6 _ rfl) (fun i hi => ?_), by rw [fx_I_1, if_pos rfl]; rfl⟩⟩
    · rw [hfun (some k) g1, if_neg (show ¬ oi (some k) = -1 by rw [show oi (some k) = nI k from rfl, u_nm1 (by omega)]; exact id)]
      rfl
    · rw [getD_set hk8]
      by_cases e : i = k
      · rw [if_pos e, if_pos e]
      · rw [if_neg e, if_neg e]
  | none =>
    rw [hx] at g1 g6
    simp only at g1 g6
    by_cases e8 : (rEn R).length = 8
    · rw [if_pos e8] at g1
      simp only
      rw [if_pos e8]
      refine ⟨σ4, fx_I F4 2806 (oi none), ?_, hn_trans hh3 g2, hgw, hcf _, fx_lnI g5, fun h => by cases h⟩
      rw [hfun none g1, if_pos (show oi none = -1 from rfl)]
      rfl
    · rw [if_neg e8] at g1
      simp only [if_neg e8] at g6
      simp only
      rw [if_neg e8]
      refine ⟨σ4, fx_I F4 2806 (oi (some (rEn R).length)), ?_, hn_trans hh3 g2, hgw, hcf _, fx_lnI g5, fun _ => ⟨hcr (rEn R).length _ (g6 _ rfl) (fun i hi => ?_), by rw [fx_I_1, if_pos rfl]; rfl⟩⟩
      · rw [hfun _ g1, if_neg (show ¬ oi (some (rEn R).length) = -1 by rw [show oi (some (rEn R).length) = nI (rEn R).length from rfl, u_nm1 (by omega)]; exact id)]
        rfl
      · replace hi : i < (rEn R ++ [(rs, none)]).length := hi
        rw [List.length_append, List.length_cons, List.length_nil] at hi
        show ((rEn R ++ [(rs, none)]).getD i (([], []), none)).2 = _
        by_cases e : i = (rEn R).length
        · rw [if_pos e, e, getD_push]
        · rw [if_neg e, getD_pushl (by omega)]
end
/- prerequisites of one target -/
section
variable {b : Nat} {N : List (List Nat)} {ad : Nat → Nat} {src : Nat → Option Nat} {W : List (Nat × Nat)} {ks : List Nat}
theorem c_prLoop {σ : rb_St} (hb : rb_b σ ≤ b) (h60 : W.length ≤ 60) (hl : ks.length = W.length) (hks : ∀ j, j < ks.length → ks.getD j 0 < N.length) {t : Nat} (ht : t < N.length) (x1 x2 : Int32) (I : Nat → Nat → Int32) : ∀ (m j : Nat) (F : fx_F) (Pr : List (Nat × Nat)), j + m = W.length → fx_ln F → nx σ b F N ad I src → wc F W → mt F ad 0 ks → cr4 F Pr ad → Pr.length ≤ 80 → ∃ F', rb_it (fun z : (Int32 × rb_St) => f_Reader_addRules_b67 (some (fx_ad b 28)) x1 x2 (some (ad t)) (z.1) z.2) (nI j, fx_mk σ b F) = some (if Pr.length + m ≤ 80 then .inl (x2 + 1, fx_mk σ b F') else .inr (some (.int 0), fx_mk σ b F')) ∧ fx_ln F' ∧ cf [510] [] [] [11, 12] F F' ∧ (Pr.length + m ≤ 80 → cr4 F' (Pr ++ (ks.drop j).map (fun p => (t, p))) ad) := by
  intro m
  induction m with
  | zero =>
    intro j F Pr hj hF h hw hq hp h80
    have hcnt := c_wcount (σ := σ) (b := b) hw
    refine ⟨F, rb_it_r ?_, hF, cf_refl _ _ _ _ _, fun _ => ?_⟩
    · show f_Reader_addRules_b67 _ _ _ _ _ _ = _
      unfold f_Reader_addRules_b67
      simp only [↓fx_bc, ↓cI_of hcnt]
      rw [if_pos (nI_le (by omega) (by omega)), if_pos (by omega)]
      rfl
    · rw [List.drop_eq_nil_of_le (by omega), List.map_nil, List.append_nil]
      exact hp
  | succ m ih =>
    intro j F Pr hj hF h hw hq hp h80
    have hcnt := c_wcount (σ := σ) (b := b) hw
    have hjk : j < ks.length := by omega
    have hq0 : (F.2.2.2.2 24)[j]? = some (some (ad (ks.getD j 0))) := by
      have := hq j hjk
      rw [Nat.zero_add] at this
      exact this
    have hnm := c_wname (σ := σ) (b := b) hw h60 (i := j) (by omega) hq0
    obtain ⟨F1, a1, a2, a3, a4⟩ := c_addPrereq (F := F) hb hF h hp.1 h80 ht (hks j hjk)
    have hle : ¬ W.length ≤ j := by omega
    by_cases e : Pr.length = 80
    · rw [decide_eq_false (fun h => h e)] at a1
      refine ⟨F1, rb_it_r ?_, a2, a3, fun h => by omega⟩
      show f_Reader_addRules_b67 _ _ _ _ _ _ = _
      unfold f_Reader_addRules_b67
      simp (disch := omega) only [↓fx_bc, ↓cI_of hcnt, u_le, n_leF, if_false, ↓cR_of hnm, ↓cI_of a1]
      rw [if_pos (show nI (b2 false) = 0 from rfl)]
      rfl
    · rw [decide_eq_true e] at a1
      obtain ⟨q1, q2, q3⟩ := a4 e
      have hl11 := hF.2.2 11
      have hl12 := hF.2.2 12
      simp only [fx_cR] at hl11 hl12
      have hp1 : cr4 F1 (Pr ++ [(t, ks.getD j 0)]) ad := by
        refine ⟨by rw [q1, List.length_append, List.length_cons, List.length_nil], fun i hi => ?_⟩
        rw [List.length_append, List.length_cons, List.length_nil] at hi
        rw [q2, q3, set_get (by omega), set_get (by omega)]
        by_cases ei : i = Pr.length
        · rw [if_pos ei, if_pos ei, ei, getD_push]
          exact ⟨rfl, rfl⟩
        · rw [if_neg ei, if_neg ei, getD_pushl (by omega)]
          exact hp.2 i (by omega)
      obtain ⟨F2, c1, c2, c3, c4⟩ := ih (j + 1) F1 (Pr ++ [(t, ks.getD j 0)]) (by omega) a2 (nx_cf h a3 (by decide) (by decide)) (wc_cf hw a3 (by decide) (by decide) (by decide)) (fun i hi => by rw [a3.2.2.2.2 24 (by decide)]; exact hq i hi) hp1 (by rw [List.length_append, List.length_cons, List.length_nil]; omega)
      rw [List.length_append, List.length_cons, List.length_nil] at c1 c4
      refine ⟨F2, (rb_it_l ?_).trans (c1.trans ?_), c2, cf_trans a3 c3, fun hm => ?_⟩
      · show f_Reader_addRules_b67 _ _ _ _ _ _ = _
        unfold f_Reader_addRules_b67
        simp (disch := omega) only [↓fx_bc, ↓cI_of hcnt, u_le, n_leF, if_false, ↓cR_of hnm, ↓cI_of a1]
        rw [if_neg (show ¬ nI (b2 true) = 0 by decide), show nI j + 1 = nI (j + 1) by rw [u_l1, u_add]]
      · congr 1
        by_cases e9 : Pr.length + (m + 1) ≤ 80
        · rw [if_pos e9, if_pos (by omega)]
        · rw [if_neg e9, if_neg (by omega)]
      · have := c4 (by omega)
        rw [List.drop_eq_getElem_cons hjk, List.map_cons, ← getD_get (d := 0) hjk]
        rw [List.append_assoc] at this
        exact this
theorem c_addLoop (h60 : W.length ≤ 60) (hl : ks.length = W.length) (hks : ∀ j, j < ks.length → ks.getD j 0 < N.length) {n : Nat} (hn : n ≤ W.length) : ∀ (m i : Nat) (σ : rb_St) (F : fx_F) (I : Nat → Nat → Int32) (Pr : List (Nat × Nat)), i + m = n → rb_b σ ≤ b → fx_ln F → nx σ b F N ad I src → wc F W → mt F ad 0 ks → cr4 F Pr ad → Pr.length ≤ 80 → ∃ σ' F' I', rb_it (fun z : (Int32 × rb_St) => f_Reader_addRules_b34 (some (fx_ad b 28)) (nI n) (z.1) z.2) (nI i, fx_mk σ b F) = some (some (.int (nI (b2 (decide (Pr.length + m * (W.length - n) ≤ 80))))), fx_mk σ' b F') ∧ nx σ' b F' N ad I' src ∧ hx σ σ' ∧ gw 0 0 σ σ' ∧ cf [510] [] [] [11, 12] F F' ∧ fx_ln F' ∧ (∀ k f, f ≠ 4 → f ≠ 8 → I' k f = I k f) ∧ (Pr.length + m * (W.length - n) ≤ 80 → cr4 F' (Pr ++ ((ks.take n).drop i).flatMap (fun t => (ks.drop n).map (fun p => (t, p)))) ad ∧ ∀ k f, f = 4 ∨ f = 8 → I' k f = if k ∈ (ks.take n).drop i then 1 else I k f) := by
  intro m
  induction m with
  | zero =>
    intro i σ F I Pr hi hb hF h hw hq hp h80
    refine ⟨σ, F, I, rb_it_r ?_, h, hx_refl _, gw_refl _, cf_refl _ _ _ _ _, hF, fun _ _ _ _ => rfl, fun _ => ?_⟩
    · show f_Reader_addRules_b34 _ _ _ _ = _
      unfold f_Reader_addRules_b34
      rw [if_pos (nI_le (by omega) (by omega)), decide_eq_true (by omega)]
      rfl
    · have hz : (ks.take n).drop i = [] := List.drop_eq_nil_of_le (by rw [List.length_take]; omega)
      rw [hz, List.flatMap_nil, List.append_nil]
      exact ⟨hp, fun k f _ => by rw [if_neg (fun h => by cases h)]⟩
  | succ m ih =>
    intro i σ F I Pr hi hb hF h hw hq hp h80
    have hik : i < ks.length := by omega
    have hit : i < (ks.take n).length := by rw [List.length_take]; omega
    have ht := hks i hik
    have hq0 : (F.2.2.2.2 24)[i]? = some (some (ad (ks.getD i 0))) := by
      have := hq i hik
      rw [Nat.zero_add] at this
      exact this
    have hnm := c_wname (σ := σ) (b := b) hw h60 (i := i) (by omega) hq0
    obtain ⟨σ1, a1, a2, a3, a4⟩ := n_pZ h ht (f := 4) ⟨by decide, by decide, by decide⟩ (by decide) true
    obtain ⟨σ2, d1, d2, d3, d4⟩ := n_pZ a2 ht (f := 8) ⟨by decide, by decide, by decide⟩ (by decide) true
    have a1' : rb_pZ (fx_mk σ b F) (some (ad (ks.getD i 0))) 12 4 (1 : Int32) = _ := a1
    have d1' : rb_pZ (fx_mk σ1 b F) (some (ad (ks.getD i 0))) 12 8 (1 : Int32) = _ := d1
    have hb2 : rb_b σ2 ≤ b := by rw [d3.2.1, a3.2.1]; exact hb
    generalize ht0 : ks.getD i 0 = t at *
    have hup : ∀ f, up2 (up2 I t 4 (nI (b2 true))) t 8 (nI (b2 true)) t f = if f = 8 then 1 else if f = 4 then 1 else I t f := by
      intro f
      unfold up2 up1
      simp only [if_true]
      rfl
    have hupn : ∀ k, ¬ k = t → up2 (up2 I t 4 (nI (b2 true))) t 8 (nI (b2 true)) k = I k := by
      intro k hne
      unfold up2 up1
      simp only [if_neg hne]
    generalize hI2 : up2 (up2 I t 4 (nI (b2 true))) t 8 (nI (b2 true)) = I2 at *
    obtain ⟨F3, c1, c2, c3, c4⟩ := c_prLoop (b := b) (N := N) (ad := ad) (src := src) (W := W) (ks := ks) (σ := σ2) hb2 h60 hl hks ht (nI n) (nI i) I2 (W.length - n) n F Pr (by omega) hF d2 hw hq hp h80
    have hother : ∀ k f, f ≠ 4 → f ≠ 8 → I2 k f = I k f := by
      intro k f h4 h8
      by_cases e : k = t
      · rw [e, hup f, if_neg h8, if_neg h4]
      · rw [hupn k e]
    have hbody : f_Reader_addRules_b34 (some (fx_ad b 28)) (nI n) (nI i) (fx_mk σ b F) = rb_it (fun z : (Int32 × rb_St) => f_Reader_addRules_b67 (some (fx_ad b 28)) (nI n) (nI i) (some (ad t)) (z.1) z.2) (nI n, fx_mk σ2 b F) := by
      have hle : ¬ n ≤ i := by omega
      unfold f_Reader_addRules_b34
      simp (disch := omega) only [↓fx_bc, u_le, n_leF, if_false, ↓cR_of hnm]
      rw [if_neg (show ¬ (some (ad t) = none) from fun h => by cases h), a1', Option.bind_some, d1', Option.bind_some]
    have hmul : (m + 1) * (W.length - n) = m * (W.length - n) + (W.length - n) := Nat.succ_mul _ _
    have hgw : gw 0 0 σ σ2 := gw_trans a4 d4
    by_cases e : Pr.length + (W.length - n) ≤ 80
    · rw [if_pos e] at c1
      have hlp : (Pr ++ (ks.drop n).map (fun p => (t, p))).length = Pr.length + (W.length - n) := by rw [List.length_append, List.length_map, List.length_drop, hl]
      obtain ⟨σ4, F4, I4, g1, g2, g3, g4, g5, g6, g7, g8⟩ := ih (i + 1) σ2 F3 I2 (Pr ++ (ks.drop n).map (fun p => (t, p))) (by omega) hb2 c2 (nx_cf d2 c3 (by decide) (by decide)) (wc_cf hw c3 (by decide) (by decide) (by decide)) (fun i hi => by rw [c3.2.2.2.2 24 (by decide)]; exact hq i hi) (c4 e) (by rw [hlp]; exact e)
      rw [hlp] at g1 g8
      have hsame : Pr.length + (W.length - n) + m * (W.length - n) = Pr.length + (m + 1) * (W.length - n) := by rw [hmul]; omega
      rw [hsame] at g1 g8
      refine ⟨σ4, F4, I4, (rb_it_l ?_).trans g1, g2, hx_trans (hx_trans a3 d3) g3, gw_trans hgw g4, cf_trans c3 g5, g6, fun k f h4 h8 => (g7 k f h4 h8).trans (hother k f h4 h8), fun hm => ?_⟩
      · show f_Reader_addRules_b34 _ _ _ _ = _
        rw [hbody, c1, show nI i + 1 = nI (i + 1) by rw [u_l1, u_add]]
      · obtain ⟨p1, p2⟩ := g8 hm
        have hcons : (ks.take n).drop i = t :: (ks.take n).drop (i + 1) := by
          rw [List.drop_eq_getElem_cons hit]
          congr 1
          rw [List.getElem_take, ← ht0, getD_get hik]
        rw [hcons, List.flatMap_cons, ← List.append_assoc]
        refine ⟨p1, fun k f hf => ?_⟩
        rw [p2 k f hf]
        by_cases e1 : k ∈ (ks.take n).drop (i + 1)
        · rw [if_pos e1, if_pos (List.mem_cons_of_mem _ e1)]
        · rw [if_neg e1]
          by_cases e2 : k = t
          · rw [if_pos (by rw [e2]; exact List.mem_cons_self ..), e2, hup f]
            rcases hf with hf | hf
            · rw [hf, if_neg (by decide), if_pos rfl]
            · rw [hf, if_pos rfl]
          · rw [if_neg (fun h => (List.mem_cons.mp h).elim e2 e1), hupn k e2]
    · rw [if_neg e] at c1
      refine ⟨σ2, F3, I2, rb_it_r ?_, nx_cf d2 c3 (by decide) (by decide), hx_trans a3 d3, hgw, c3, c2, hother, fun hm => by rw [hmul] at hm; omega⟩
      show f_Reader_addRules_b34 _ _ _ _ = _
      rw [hbody, c1, decide_eq_false (by rw [hmul]; omega)]
      rfl
end
section
variable {σ : rb_St} {b : Nat} {F : fx_F} {N : List (List Nat)} {ad : Nat → Nat} {I : Nat → Nat → Int32} {src : Nat → Option Nat} {W : List (Nat × Nat)} {ks : List Nat}
theorem c_addRules (hb : rb_b σ ≤ b) (hF : fx_ln F) (hN : nok N) (h : nx σ b F N ad I src) (h60 : W.length ≤ 60) (h1 : 1 ≤ W.length) (hl : ks.length = W.length) (hks : ∀ j, j < ks.length → ks.getD j 0 < N.length) (hw : wc F W) (hq : mt F ad 0 ks) {n : Nat} (hn : n ≤ W.length) {Pr : List (Nat × Nat)} (hp : cr4 F Pr ad) (h80 : Pr.length ≤ 80) {o1 : Option Nat} (h512 : F.2.2.2.1 512 = o1.map ad) {f0 : Nat → Bool} (hf0 : ∀ k, k < N.length → I k 4 = nI (b2 (f0 k))) : ∃ σ' F' I', f_Reader_addRules (some (fx_ad b 28)) (nI n) (fx_mk σ b F) = some (some (.int (nI (b2 (decide (Pr.length + n * (W.length - n) ≤ 80))))), fx_mk σ' b F') ∧ nx σ' b F' N ad I' src ∧ hx σ σ' ∧ gw 0 0 σ σ' ∧ cf [510] [] [512] [11, 12] F F' ∧ fx_ln F' ∧ (∀ k f, k < N.length → f ≠ 4 → f ≠ 8 → I' k f = I k f) ∧ (Pr.length + n * (W.length - n) ≤ 80 → cr4 F' (Pr ++ (ks.take n).flatMap (fun t => (ks.drop n).map (fun p => (t, p)))) ad ∧ F'.2.2.2.1 512 = (match o1 with | some k => some k | none => ks.head?).map ad ∧ ∀ k, k < N.length → I' k 4 = nI (b2 (f0 k || decide (k ∈ ks.take n))) ∧ I' k 8 = nI (b2 (decide (k ∈ ks.take n)))) := by
  obtain ⟨σ1, I1, a1, a2, a3, a4, a5⟩ := c_forgetLatest hN h
  have hb1 : rb_b σ1 ≤ b := by rw [a3.2.1]; exact hb
  have hq0 : (F.2.2.2.2 24)[0]? = some (some (ad (ks.getD 0 0))) := by
    have := hq 0 (by omega)
    exact this
  have hnm := c_wname (σ := σ1) (b := b) hw h60 (i := 0) (by omega) hq0
  have hnm' : f_Words_name (some (fx_ad b 21)) (0 : Int32) (fx_mk σ1 b F) = _ := hnm
  have hhead : ks.head? = some (ks.getD 0 0) := by
    cases ks with
    | nil => rw [List.length_nil] at hl; omega
    | cons x xs => rfl
  -- the first target
  have hfirst : ∃ F2, fx_ln F2 ∧ cf [] [] [512] [] F F2 ∧ F2.2.2.2.1 512 = (match o1 with | some k => some k | none => ks.head?).map ad ∧ f_Reader_addRules (some (fx_ad b 28)) (nI n) (fx_mk σ b F) = rb_it (fun z : (Int32 × rb_St) => f_Reader_addRules_b34 (some (fx_ad b 28)) (nI n) (z.1) z.2) (nI 0, fx_mk σ1 b F2) := by
    cases o1 with
    | some k =>
      refine ⟨F, hF, cf_refl _ _ _ _ _, h512, ?_⟩
      have h512' : F.2.2.2.1 512 = some (ad k) := h512
      unfold f_Reader_addRules
      simp only [↓fx_bc, ↓cV_of a1, h512']
      rw [if_neg (show ¬ (some (ad k) = none) from fun h => by cases h)]
      rfl
    | none =>
      refine ⟨fx_R F 512 (some (ad (ks.getD 0 0))), fx_lnR hF, cf_R (cf_refl _ _ _ _ _) (by decide), ?_, ?_⟩
      · rw [fx_R_R, if_pos rfl, hhead]
        rfl
      · have h512' : F.2.2.2.1 512 = none := h512
        unfold f_Reader_addRules
        simp only [↓fx_bc, ↓cV_of a1, h512', ↓cR_of hnm', ↓fx_vc hb1]
        rw [if_pos trivial]
        rfl
  obtain ⟨F2, f1, f2, f3, f4⟩ := hfirst
  obtain ⟨σ3, F3, I3, c1, c2, c3, c4, c5, c6, c7, c8⟩ := c_addLoop (b := b) (N := N) (ad := ad) (src := src) (W := W) (ks := ks) h60 hl hks hn n 0 σ1 F2 I1 Pr (by omega) hb1 f1 (nx_cf a2 f2 (by decide) (by decide)) (wc_cf hw f2 (by decide) (by decide) (by decide)) (fun i hi => by rw [f2.2.2.2.2 24 (by decide)]; exact hq i hi) ⟨by rw [f2.1 510 (by decide)]; exact hp.1, fun i hi => by rw [f2.2.2.2.2 11 (by decide), f2.2.2.2.2 12 (by decide)]; exact hp.2 i hi⟩ h80
  refine ⟨σ3, F3, I3, f4.trans c1, c2, hx_trans a3 c3, gw_trans a4 c4, cf_trans (cf_mono f2 (by decide) (by decide) (by decide) (by decide)) (cf_mono c5 (by decide) (by decide) (by decide) (by decide)), c6, fun k f hk h4 h8 => ?_, fun hm => ?_⟩
  · rw [c7 k f h4 h8, a5 k hk, up1_ne h8]
  · obtain ⟨p1, p2⟩ := c8 hm
    rw [List.drop_zero] at p1 p2
    refine ⟨p1, by rw [c5.2.2.2.1 512 (by decide)]; exact f3, fun k hk => ?_⟩
    rw [p2 k 4 (Or.inl rfl), p2 k 8 (Or.inr rfl), a5 k hk, up1_ne (show 4 ≠ 8 by decide), up1_eq]
    by_cases e : k ∈ ks.take n
    · rw [if_pos e, if_pos e, decide_eq_true e, Bool.or_true]
      exact ⟨rfl, rfl⟩
    · rw [if_neg e, if_neg e, decide_eq_false e, Bool.or_false]
      exact ⟨hf0 k hk, rfl⟩
end
