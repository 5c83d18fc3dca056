/-! the class: endings, prerequisites -/
section
variable {b : Nat}
theorem c_fromLoop {Sf : List (List Nat)} (hl : Sf.length ≤ 6) {a : Nat} {w : List Nat} (hw : w.length ≤ 320) : ∀ (m k : Nat) (σ : rb_St) (F : fx_F), k + m = Sf.length → kx σ b → F.1 501 = nI Sf.length → prow σ b F 6 Sf → sx σ b a w → ∃ σ', rb_it (fun z : Int32 × rb_St => f_Rules_fromLength_b15 (some (fx_ad b 5)) (some a) z.1 z.2) (nI k, fx_mk σ b F) = some (some (.int (nI (match sr (fun k => decide ((Sf.getD k []).length < w.length ∧ w.take (Sf.getD k []).length = Sf.getD k []) && (nf Sf (w.drop (Sf.getD k []).length)).isSome) m k with | some j => (Sf.getD j []).length | none => 0))), fx_mk σ' b F) ∧ hn σ σ' ∧ gw (4 * m) (800 * m) σ σ' := by
  intro m
  induction m with
  | zero =>
    intro k σ F hk hkx h1 hp hs
    refine ⟨σ, rb_it_r ?_, hn_refl _, gw_refl _⟩
    show f_Rules_fromLength_b15 _ _ _ _ = _
    unfold f_Rules_fromLength_b15
    simp only [↓fx_bc, h1]
    rw [if_pos (nI_le (by omega) (by omega))]
    rfl
  | succ m ih =>
    intro k σ F hk hkx h1 hp hs
    obtain ⟨p, q1, q2⟩ := hp k (by omega)
    obtain ⟨s2, t1, t2, v, t3⟩ := p_tx q2
    obtain ⟨va, ta⟩ := sx_fc hs
    have hla := c_len (F := F) hs
    have hls := c_len (F := F) t2
    have hs2l : (Sf.getD k []).length ≤ 100000 := by
      obtain ⟨v, rest, k1, k2, k3, k4, k5, k6⟩ := t2.2.2
      exact k6
    rw [sr_m]
    have hstep : ∀ (σ1 : rb_St), hn σ σ1 → gw 4 800 σ σ1 → (decide ((Sf.getD k []).length < w.length ∧ w.take (Sf.getD k []).length = Sf.getD k []) && (nf Sf (w.drop (Sf.getD k []).length)).isSome) = false → f_Rules_fromLength_b15 (some (fx_ad b 5)) (some a) (nI k) (fx_mk σ b F) = some (.inl (nI k + 1, fx_mk σ1 b F)) → ∃ σ', rb_it (fun z : Int32 × rb_St => f_Rules_fromLength_b15 (some (fx_ad b 5)) (some a) z.1 z.2) (nI k, fx_mk σ b F) = some (some (.int (nI (match (if (decide ((Sf.getD k []).length < w.length ∧ w.take (Sf.getD k []).length = Sf.getD k []) && (nf Sf (w.drop (Sf.getD k []).length)).isSome) = true then some k else sr (fun k => decide ((Sf.getD k []).length < w.length ∧ w.take (Sf.getD k []).length = Sf.getD k []) && (nf Sf (w.drop (Sf.getD k []).length)).isSome) m (k + 1)) with | some j => (Sf.getD j []).length | none => 0))), fx_mk σ' b F) ∧ hn σ σ' ∧ gw (4 * (m + 1)) (800 * (m + 1)) σ σ' := by
      intro σ1 g1 g2 g3 g4
      obtain ⟨σ', e1, e2, e3⟩ := ih (k + 1) σ1 F (by omega) (kx_hx hkx g1.1) h1 (prow_hx hp g1.1 rfl) (sx_hx hs g1.1)
      rw [if_neg (by rw [g3]; decide)]
      refine ⟨σ', ?_, hn_trans g1 e2, gw_mono (gw_trans g2 e3) (by omega) (by omega)⟩
      rw [← e1]
      refine rb_it_l ?_
      rw [← show nI k + 1 = nI (k + 1) by rw [u_l1, u_add]]
      exact g4
    by_cases e1 : (Sf.getD k []).length < w.length
    · obtain ⟨σ1, a1, b1, b2', b3, b4⟩ := c_sub2 (F := F) hkx hs (p := 0) (q := (Sf.getD k []).length) (by omega) (by omega)
      have hsl : slc w 0 (Sf.getD k []).length = w.take (Sf.getD k []).length := by simp [slc]
      rw [hsl] at b2'
      have t2' := sx_hx t2 b3.1
      have heq := c_equals (F := F) b2' t2'
      obtain ⟨va1, ta1⟩ := sx_fc b2'
      have b1' : f_Str_substring2 (some a) (0 : Int32) (nI (Sf.getD k []).length) (fx_mk σ b F) = _ := b1
      by_cases e2 : w.take (Sf.getD k []).length = Sf.getD k []
      · have hs' := sx_hx hs b3.1
        obtain ⟨va', ta'⟩ := sx_fc hs'
        obtain ⟨σ2, a2, c1, c2, c3, c4⟩ := c_sub (F := F) (kx_hx hkx b3.1) hs' (p := (Sf.getD k []).length) (by omega)
        have h13 := hn_trans b3 c3
        have hhas := c_hasSuffix (F := F) h1 hl (prow_hx hp h13.1 rfl) c2
        have hbody : f_Rules_fromLength_b15 (some (fx_ad b 5)) (some a) (nI k) (fx_mk σ b F) = if nI (b2 (nf Sf (w.drop (Sf.getD k []).length)).isSome) = 0 then some (.inl (nI k + 1, fx_mk σ2 b F)) else (some (some (.int (nI (Sf.getD k []).length)), fx_mk σ2 b F)).map Sum.inr := by
          unfold f_Rules_fromLength_b15
          simp (disch := omega) only [↓fx_bc, h1, u_le, n_leF, if_false, ↓bR_of rfl (show k < 2147483648 by omega) q1, t1, t3, Option.bind_some, ↓cI_of hls, ta, ↓cI_of hla]
          simp only [↓cR_of b1', ta1, Option.bind_some, ↓cI_of heq]
          rw [decide_eq_true e2, b2_t, if_neg (show ¬ nI 1 = 0 by decide), ta', Option.bind_some]
          simp only [↓cR_of c1, ↓fx_bc, ↓cI_of hhas]
        cases hn0 : (nf Sf (w.drop (Sf.getD k []).length)).isSome with
        | true =>
          rw [hn0, b2_t, if_neg (show ¬ nI 1 = 0 by decide)] at hbody
          rw [decide_eq_true (show _ ∧ _ from ⟨e1, e2⟩)]
          refine ⟨σ2, ?_, h13, gw_mono (gw_trans b4 c4) (by omega) (by omega)⟩
          rw [rb_it_m hbody]
          rfl
        | false =>
          have := hstep σ2 h13 (gw_mono (gw_trans b4 c4) (by omega) (by omega)) (by rw [hn0, Bool.and_false]) (by rw [hbody, hn0, b2_f, if_pos (show nI 0 = 0 from rfl)])
          rw [hn0] at this
          exact this
      · refine hstep σ1 b3 (gw_mono b4 (by omega) (by omega)) (by rw [decide_eq_false (fun h => e2 h.2), Bool.false_and]) ?_
        unfold f_Rules_fromLength_b15
        simp (disch := omega) only [↓fx_bc, h1, u_le, n_leF, if_false, ↓bR_of rfl (show k < 2147483648 by omega) q1, t1, t3, Option.bind_some, ↓cI_of hls, ta, ↓cI_of hla]
        simp only [↓cR_of b1', ta1, Option.bind_some, ↓cI_of heq]
        rw [decide_eq_false e2, b2_f, if_pos (show nI 0 = 0 from rfl)]
    · refine hstep σ (hn_refl _) (gw_mono (gw_refl _) (by decide) (by decide)) (by rw [decide_eq_false (fun h => e1 h.1), Bool.false_and]) ?_
      unfold f_Rules_fromLength_b15
      simp (disch := omega) only [↓fx_bc, h1, u_le, n_leF, if_false, ↓bR_of rfl (show k < 2147483648 by omega) q1, t1, t3, Option.bind_some, ↓cI_of hls, ta, ↓cI_of hla]
      rw [if_pos (by omega)]
theorem c_fromLength {σ : rb_St} {F : fx_F} {Sf : List (List Nat)} (hkx : kx σ b) (h1 : F.1 501 = nI Sf.length) (hl : Sf.length ≤ 6) (hp : prow σ b F 6 Sf) {a : Nat} {w : List Nat} (hw : w.length ≤ 320) (hs : sx σ b a w) : ∃ σ', f_Rules_fromLength (some (fx_ad b 5)) (some a) (fx_mk σ b F) = some (some (.int (nI (match x_from Sf w with | some x => x.1.length | none => 0))), fx_mk σ' b F) ∧ hn σ σ' ∧ gw 24 4800 σ σ' := by
  have hhas := c_hasSuffix h1 hl hp hs
  have hla := c_len (F := F) hs
  obtain ⟨va, ta⟩ := sx_fc hs
  unfold f_Rules_fromLength x_from
  simp only [↓fx_bc, ↓cI_of hhas]
  cases hn0 : (nf Sf w).isSome with
  | true =>
    rw [b2_t, if_neg (show ¬ nI 1 = 0 by decide), if_pos rfl, ta, Option.bind_some]
    refine ⟨σ, ?_, hn_refl _, gw_mono (gw_refl _) (by decide) (by decide)⟩
    simp only [↓cI_of hla]
  | false =>
    rw [b2_f, if_pos (show nI 0 = 0 from rfl), if_neg (by decide)]
    obtain ⟨σ', e1, e2, e3⟩ := c_fromLoop (b := b) hl hw Sf.length 0 σ F (by omega) hkx h1 hp hs
    refine ⟨σ', ?_, e2, gw_mono e3 (by omega) (by omega)⟩
    refine Eq.trans e1 ?_
    cases sr (fun k => decide ((Sf.getD k []).length < w.length ∧ w.take (Sf.getD k []).length = Sf.getD k []) && (nf Sf (w.drop (Sf.getD k []).length)).isSome) Sf.length 0 <;> rfl
theorem c_giveEnding {σ : rb_St} {F : fx_F} (hb : rb_b σ ≤ b) (hF : fx_ln F) {n : Nat} (h1 : F.1 505 = nI n) (hn : n ≤ 8) {i : Nat} (hi : i < n) (x : Int32) : f_Rules_giveEndingCommands (some (fx_ad b 5)) (nI i) x (fx_mk σ b F) = some (none, fx_mk σ b (fx_A F 9 ((F.2.1 9).set i x))) := by
  have hl9 := hF.1 9
  simp only [fx_cI] at hl9
  unfold f_Rules_giveEndingCommands
  rw [if_neg (show ¬ nI i < 0 by rw [u_l0, u_lt (by omega) (by omega)]; omega)]
  simp (disch := omega) only [↓fx_bc, ↓fx_vc hb, h1, u_le, n_leF, if_false, u_l0, u_lt, n_ltF, u_cl, not_false_eq_true, true_and, hl9, if_pos, u_nar2]
theorem c_renewEnding {σ : rb_St} {F : fx_F} {En : List ((List Nat × List Nat) × Option Nat)} (hk : kx σ b) (hF : fx_ln F) (h1 : F.1 505 = nI En.length) (hl : En.length ≤ 8) (hp : erow σ b F En) {a a2 : Nat} {s s2 : List Nat} (hs : sx σ b a s) (hs2 : sx σ b a2 s2) : ∃ σ' F', f_Rules_renewEnding (some (fx_ad b 5)) (some a) (some a2) (fx_mk σ b F) = some (some (.int (oi (match x_eidx En (s, s2) with | some k => some k | none => if En.length = 8 then none else some En.length))), fx_mk σ' b F') ∧ hn σ σ' ∧ gw 2 2 σ σ' ∧ cf [505] [9] [] [7, 8] F F' ∧ fx_ln F' ∧ (∀ En', En' = (match x_eidx En (s, s2) with | some k => En.set k ((s, s2), none) | none => if En.length = 8 then En else En ++ [((s, s2), none)]) → F'.1 505 = nI En'.length ∧ erow σ' b F' En' ∧ ∀ i, i < En'.length → (match x_eidx En (s, s2) with | some k => some k | none => if En.length = 8 then none else some En.length) = some i ∧ (F'.2.1 9)[i]? = some (-1 : Int32) ∨ ((match x_eidx En (s, s2) with | some k => some k | none => if En.length = 8 then none else some En.length) ≠ some i ∧ i < En.length ∧ (F'.2.1 9)[i]? = (F.2.1 9)[i]?)) := by
  have hfe := c_findEnding h1 hl hp hs hs2
  have hl9 := hF.1 9
  have hl7 := hF.2.2 7
  have hl8 := hF.2.2 8
  simp only [fx_cI] at hl9
  simp only [fx_cR] at hl7 hl8
  unfold f_Rules_renewEnding
  simp only [↓fx_bc, ↓cI_of hfe]
  cases hx : x_eidx En (s, s2) with
  | some k =>
    have hsr := sr_some (show sr (fun k => decide ((En.getD k (([], []), none)).1 = (s, s2))) En.length 0 = some k from hx)
    have hkl : k < En.length := by omega
    have heq : (En.getD k (([], []), none)).1 = (s, s2) := of_decide_eq_true hsr.2.2
    have hg := c_giveEnding (b := b) (F := F) hk.1 hF h1 hl hkl (-1)
    simp only
    rw [show oi (some k) = nI k from rfl, if_neg (show ¬ nI k = (-1 : Int32) by rw [u_nm1 (by omega)]; exact id)]
    refine ⟨σ, fx_A F 9 ((F.2.1 9).set k (-1)), ?_, hn_refl _, gw_mono (gw_refl _) (by decide) (by decide), cf_A (cf_refl _ _ _ _ _) (by decide), fx_lnA hF (by rw [List.length_set]; exact hF.1 9), fun En' he => ?_⟩
    · unfold f_Rules_renewEnding_j64
      simp only [↓fx_bc, ↓cV_of hg]
    · subst he
      refine ⟨by rw [List.length_set]; exact h1, fun i hi => ?_, fun i hi => ?_⟩
      · rw [List.length_set] at hi
        obtain ⟨p, q, q1, q2, q3, q4⟩ := hp i hi
        have hsame : ((En.set k ((s, s2), none)).getD i (([], []), none)).1 = (En.getD i (([], []), none)).1 := by
          by_cases e : i = k
          · subst e
            rw [heq]
            simp [List.getD, List.getElem?_set_self hi]
          · simp [List.getD, List.getElem?_set_ne (show k ≠ i from fun h => e h.symm)]
        exact ⟨p, q, q1, by rw [hsame]; exact q2, q3, by rw [hsame]; exact q4⟩
      · rw [List.length_set] at hi
        rw [fx_A_A, if_pos rfl]
        by_cases e : i = k
        · exact Or.inl ⟨by rw [e], by rw [e, List.getElem?_set_self (by omega)]⟩
        · exact Or.inr ⟨fun h => e (by injection h with h; exact h.symm), hi, by rw [List.getElem?_set_ne (show k ≠ i from fun h => e h.symm)]⟩
  | none =>
    simp only
    rw [show oi none = (-1 : Int32) from rfl, if_pos rfl]
    simp only [↓fx_bc, h1]
    by_cases e8 : En.length = 8
    · rw [if_pos (show (8 : Int32) ≤ nI En.length by rw [e8]; decide), if_pos e8]
      refine ⟨σ, F, ?_, hn_refl _, gw_mono (gw_refl _) (by decide) (by decide), cf_refl _ _ _ _ _, hF, fun En' he => ?_⟩
      · unfold f_Rules_renewEnding_j64 f_Rules_giveEndingCommands
        rw [if_pos (show (-1 : Int32) < 0 by decide)]
        simp only [↓fx_bc]
        rfl
      · subst he
        simp only [if_pos e8]
        exact ⟨h1, hp, fun i hi => Or.inr ⟨fun h => (by cases h), hi, trivial⟩⟩
    · obtain ⟨σ1, a1, b2', b3, b4, b5⟩ := c_newPhrase hk hs
      have hk1 : kx σ1 b := kx_hx hk b3.1
      obtain ⟨σ2, c1, c2, c3, c4, c5⟩ := c_newPhrase hk1 (sx_hx hs2 b3.1)
      have hb2 : rb_b σ2 ≤ b := by rw [c3.1.2.1, b3.1.2.1]; exact hk.1
      rw [if_neg (show ¬ (8 : Int32) ≤ nI En.length by rw [u_l8, u_le (by omega) (by omega)]; omega), if_neg e8]
      generalize hF1 : fx_Q F 7 ((F.2.2.2.2 7).set En.length (some (rb_n σ))) = F1
      have b5' := b5 F 7 En.length (by decide) rfl (by omega) (by omega)
      rw [hF1] at b5'
      have hQ8 : F1.2.2.2.2 8 = F.2.2.2.2 8 := by subst hF1; rw [fx_Q_Q, if_neg (by decide)]
      have hQ7 : F1.2.2.2.2 7 = (F.2.2.2.2 7).set En.length (some (rb_n σ)) := by subst hF1; rw [fx_Q_Q, if_pos rfl]
      generalize hF2 : fx_Q F1 8 ((F1.2.2.2.2 8).set En.length (some (rb_n σ1))) = F2
      have c5' := c5 F1 8 En.length (by decide) rfl (by rw [hQ8]; omega) (by omega)
      rw [hF2] at c5'
      have hln1 : fx_ln F1 := by subst hF1; exact fx_lnQ hF (by rw [List.length_set]; exact hF.2.2 7)
      have hln2 : fx_ln F2 := by subst hF2; exact fx_lnQ hln1 (by rw [List.length_set]; exact hln1.2.2 8)
      have h2505 : F2.1 505 = nI En.length := by subst hF2; subst hF1; exact h1
      have hrow9 : F2.2.1 9 = F.2.1 9 := by subst hF2; subst hF1; rfl
      have hQ82 : F2.2.2.2.2 8 = (F.2.2.2.2 8).set En.length (some (rb_n σ1)) := by subst hF2; rw [fx_Q_Q, if_pos rfl, hQ8]
      have hQ72 : F2.2.2.2.2 7 = (F.2.2.2.2 7).set En.length (some (rb_n σ)) := by subst hF2; rw [fx_Q_Q, if_neg (by decide), hQ7]
      generalize hF3 : fx_I F2 505 (nI (En.length + 1)) = F3
      have h3505 : F3.1 505 = nI (En.length + 1) := by subst hF3; rw [fx_I_1, if_pos rfl]
      have hln3 : fx_ln F3 := by subst hF3; exact fx_lnI hln2
      have hg := c_giveEnding (b := b) (σ := σ2) (F := F3) hb2 hln3 h3505 (by omega) (i := En.length) (by omega) (-1)
      have hcf : cf [505] [9] [] [7, 8] F (fx_A F3 9 ((F3.2.1 9).set En.length (-1))) := by
        subst hF3; subst hF2; subst hF1
        exact cf_A (cf_I (cf_Q (cf_Q (cf_refl _ _ _ _ _) (by decide)) (by decide)) (by decide)) (by decide)
      refine ⟨σ2, fx_A F3 9 ((F3.2.1 9).set En.length (-1)), ?_, hn_trans b3 c3, gw_mono (gw_trans b4 c4) (by decide) (by decide), hcf, fx_lnA hln3 (by rw [List.length_set]; exact hln3.1 9), fun En' he => ?_⟩
      · have b5'' : rb_sR (fx_mk σ1 b F) (some (fx_ad b 7)) 111 (nI En.length) (some (rb_n (fx_mk σ b F))) = _ := b5'
        have c5'' : rb_sR (fx_mk σ2 b F1) (some (fx_ad b 8)) 111 (nI En.length) (some (rb_n (fx_mk σ1 b F1))) = _ := c5'
        rw [cV_of (a1 F), b5'', Option.bind_some]
        simp only [↓fx_bc]
        rw [cV_of (c1 F1), c5'', Option.bind_some]
        simp only [↓fx_bc, ↓fx_vc hb2, h2505]
        rw [show nI En.length + (1 : Int32) = nI (En.length + 1) by rw [u_l1, u_add], hF3]
        unfold f_Rules_renewEnding_j64
        simp only [↓fx_bc, ↓cV_of hg]
        rfl
      · subst he
        simp only [if_neg e8]
        have hrow3 : F3.2.1 9 = F.2.1 9 := by subst hF3; exact hrow9
        have hQ73 : F3.2.2.2.2 7 = (F.2.2.2.2 7).set En.length (some (rb_n σ)) := by subst hF3; exact hQ72
        have hQ83 : F3.2.2.2.2 8 = (F.2.2.2.2 8).set En.length (some (rb_n σ1)) := by subst hF3; exact hQ82
        refine ⟨by rw [List.length_append, List.length_cons, List.length_nil]; exact h3505, fun i hi => ?_, fun i hi => ?_⟩
        · rw [List.length_append, List.length_cons, List.length_nil] at hi
          show ∃ p q, (F3.2.2.2.2 7)[i]? = _ ∧ _ ∧ (F3.2.2.2.2 8)[i]? = _ ∧ _
          rw [hQ73, hQ83, set_get (by omega), set_get (by omega)]
          by_cases e : i = En.length
          · rw [if_pos e, if_pos e, e, getD_push]
            exact ⟨rb_n σ, rb_n σ1, rfl, ph_hx b2' c3.1, rfl, c2⟩
          · obtain ⟨p, q, q1, q2, q3, q4⟩ := hp i (by omega)
            rw [if_neg e, if_neg e, getD_pushl (by omega)]
            exact ⟨p, q, q1, ph_hx q2 (hx_trans b3.1 c3.1), q3, ph_hx q4 (hx_trans b3.1 c3.1)⟩
        · rw [List.length_append, List.length_cons, List.length_nil] at hi
          rw [fx_A_A, if_pos rfl, hrow3]
          by_cases e : i = En.length
          · exact Or.inl ⟨by rw [e], by rw [e, List.getElem?_set_self (by omega)]⟩
          · exact Or.inr ⟨fun h => e (by injection h with h; exact h.symm), by omega, by rw [List.getElem?_set_ne (show En.length ≠ i from fun h => e h.symm)]⟩
theorem c_addPrereq {σ : rb_St} {F : fx_F} {N : List (List Nat)} {ad : Nat → Nat} {I : Nat → Nat → Int32} {src : Nat → Option Nat} (hb : rb_b σ ≤ b) (hF : fx_ln F) (h : nx σ b F N ad I src) {n : Nat} (h1 : F.1 510 = nI n) (hn : n ≤ 80) {t p : Nat} (ht : t < N.length) (hp : p < N.length) : ∃ F', f_Rules_addPrerequisite (some (fx_ad b 5)) (some (ad t)) (some (ad p)) (fx_mk σ b F) = some (some (.int (nI (b2 (decide (¬ n = 80))))), fx_mk σ b F') ∧ fx_ln F' ∧ cf [510] [] [] [11, 12] F F' ∧ (¬ n = 80 → F'.1 510 = nI (n + 1) ∧ (F'.2.2.2.2 11) = (F.2.2.2.2 11).set n (some (ad t)) ∧ (F'.2.2.2.2 12) = (F.2.2.2.2 12).set n (some (ad p))) := by
  have hl11 := hF.2.2 11
  have hl12 := hF.2.2 12
  simp only [fx_cR] at hl11 hl12
  unfold f_Rules_addPrerequisite
  rw [if_neg (by simp)]
  simp only [↓fx_bc, h1]
  by_cases e : n = 80
  · rw [if_pos (show nI n = (80 : Int32) by rw [e]; rfl)]
    refine ⟨F, ?_, hF, cf_refl _ _ _ _ _, fun h => absurd e h⟩
    rw [decide_eq_false (by simpa using e)]
    rfl
  · rw [if_neg (show ¬ nI n = (80 : Int32) by rw [u_l80, u_eq (by omega) (by omega)]; exact e)]
    have s1 := n_sR hb h (o := 11) (by decide) rfl (i := n) (by omega) (by omega) (r := some (ad t)) (fun a ha => ⟨t, ht, by injection ha with ha; exact ha.symm⟩)
    generalize hF1 : fx_Q F 11 ((F.2.2.2.2 11).set n (some (ad t))) = F1 at s1
    have hx1 : nx σ b F1 N ad I src := by subst hF1; exact nx_fr h ⟨rfl, by rw [fx_Q_Q, if_neg (by decide)]⟩
    have hQ12 : F1.2.2.2.2 12 = F.2.2.2.2 12 := by subst hF1; rw [fx_Q_Q, if_neg (by decide)]
    have h510 : F1.1 510 = nI n := by subst hF1; exact h1
    have s2 := n_sR hb hx1 (o := 12) (by decide) rfl (i := n) (by rw [hQ12]; omega) (by omega) (r := some (ad p)) (fun a ha => ⟨p, hp, by injection ha with ha; exact ha.symm⟩)
    generalize hF2 : fx_Q F1 12 ((F1.2.2.2.2 12).set n (some (ad p))) = F2 at s2
    have h5102 : F2.1 510 = nI n := by subst hF2; exact h510
    refine ⟨fx_I F2 510 (nI (n + 1)), ?_, ?_, ?_, fun _ => ⟨by rw [fx_I_1, if_pos rfl], ?_, ?_⟩⟩
    · rw [s1, Option.bind_some]
      simp only [↓fx_bc, h510]
      rw [s2, Option.bind_some]
      simp only [↓fx_bc, ↓fx_vc hb, h5102]
      rw [show nI n + (1 : Int32) = nI (n + 1) by rw [u_l1, u_add], decide_eq_true e]
      rfl
    · subst hF2; subst hF1
      exact fx_lnI (fx_lnQ (fx_lnQ hF (by rw [List.length_set]; exact hF.2.2 11)) (by rw [List.length_set]; rw [fx_Q_Q, if_neg (by decide)]; exact hF.2.2 12))
    · subst hF2; subst hF1
      exact cf_I (cf_Q (cf_Q (cf_refl _ _ _ _ _) (by decide)) (by decide)) (by decide)
    · subst hF2; subst hF1
      rw [fx_I_Q, fx_Q_Q, if_neg (by decide), fx_Q_Q, if_pos rfl]
    · subst hF2; subst hF1
      rw [fx_I_Q, fx_Q_Q, if_pos rfl, fx_Q_Q, if_neg (by decide)]
end
