/-! the class: a rule line, by its words -/
abbrev RL (R : RS) : RS := wNu R (up1 (up1 (rNu R) 0 (rNu R 0 + 1)) 1 1)
theorem gin_line {R : RS} (hin : rin R) (hg : gin R) : gin (RL R) ∧ fg (rCm R) (rNu R 0 + 1) = none := by
  have hno : fg (rCm R) (rNu R 0 + 1) = none := by
    cases hx : fg (rCm R) (rNu R 0 + 1) with
    | none => rfl
    | some j =>
      have hj := fg_lt hx
      have := (hin.1.2.2.2.2.2.2.2.2.2.1 j hj.1).1
      omega
  exact ⟨⟨hg.1, hg.2.1, hg.2.2.1, fun h => absurd hno h, fun h => absurd (show (1 : Nat) = 3 from h) (by decide)⟩, hno⟩
def rq (σ : rb_St) (b : Nat) (F : fx_F) (R : RS) (ad : Nat → Nat) (I : Nat → Nat → Int32) (src : Nat → Option Nat) (o : List Nat) (W : List (Nat × Nat)) : Prop := kx σ b ∧ fx_ln F ∧ lg F ∧ rin R ∧ cr σ b F R ad I ∧ gin R ∧ fg (rCm R) (rNu R 0) = none ∧ nx σ b F (rN R) ad I src ∧ F.1 2807 = -1 ∧ tw F 14 o ∧ tk o ∧ wok o W ∧ wc F W ∧ 1 ≤ W.length ∧ rNu R 1 = 1 ∧ 1 ≤ rNu R 0
theorem rres_pre {σ σ1 σ' : rb_St} {b : Nat} {F F1 F' : fx_F} {N : List (List Nat)} {ad : Nat → Nat} {I : Nat → Nat → Int32} {n0 s0 n s : Nat} {x : Bool × RS} (hh : hx σ σ1) (hg : gw n0 s0 σ σ1) (hf : cf zQi zQa zQr zQq F F1) (h : rres σ1 b F1 N ad I n s x σ' F') : rres σ b F N ad I (n0 + n) (s0 + s) x σ' F' := by
  obtain ⟨ad', I', src', h1, h2, h3, h4, h5, h6, h7, h8⟩ := h
  exact ⟨ad', I', src', h1, h2, hx_trans hh h3, gw_trans hg h4, cf_trans hf h5, h6, h7, h8⟩
theorem rres_mono {σ σ' : rb_St} {b : Nat} {F F' : fx_F} {N : List (List Nat)} {ad : Nat → Nat} {I : Nat → Nat → Int32} {n0 s0 n s : Nat} {x : Bool × RS} (h : rres σ b F N ad I n s x σ' F') (hn : n ≤ n0) (hs : s ≤ s0) : rres σ b F N ad I n0 s0 x σ' F' := by
  obtain ⟨ad', I', src', h1, h2, h3, h4, h5, h6, h7, h8⟩ := h
  exact ⟨ad', I', src', h1, h2, h3, gw_mono h4 hn hs, h5, h6, h7, h8⟩
section
variable {σ : rb_St} {b : Nat} {F : fx_F} {R : RS} {ad : Nat → Nat} {I : Nat → Nat → Int32} {src : Nat → Option Nat} {o : List Nat} {W : List (Nat × Nat)}
theorem c_meetN (hc : ∀ c, c ∈ o → c < 128) (hwo : wok o W) {i t : Nat} (ht60 : t ≤ W.length) (hi : i ≤ t) {N : List (List Nat)} (hN : nok N) (hF : fx_ln F) (hk : kx σ b) (h : nx σ b F N ad I src) (ht : tw F 14 o) (hw : wc F W) : ∃ σ' F' ad' I' src', f_Words_meet (some (fx_ad b 21)) (some (fx_ad b 3)) (nI i) (nI t) (fx_mk σ b F) = some (some (.int (nI (b2 (x_meets (((wl o W).take t).drop i) N).1.isSome))), fx_mk σ' b F') ∧ nx σ' b F' (x_meets (((wl o W).take t).drop i) N).2 ad' I' src' ∧ nxt N ad I src (x_meets (((wl o W).take t).drop i) N).2 ad' I' src' ∧ hn σ σ' ∧ gn N (x_meets (((wl o W).take t).drop i) N).2 σ σ' ∧ cf [301] [] [] [4, 24] F F' ∧ fx_ln F' ∧ nok (x_meets (((wl o W).take t).drop i) N).2 ∧ (∀ ks, (x_meets (((wl o W).take t).drop i) N).1 = some ks → ks.length = t - i ∧ mt F' ad' i ks ∧ ∀ j, j < ks.length → ks.getD j 0 < (x_meets (((wl o W).take t).drop i) N).2.length) := by
  have h60 := hwo.1
  obtain ⟨σ', F', ad', I', src', a1, a2, a3, a4, a5, a6, a7, a8, a9, a10⟩ := c_wmeet (b := b) hc hwo ht60 (t - i) i σ F N ad I src (by omega) hN hF hk h ht hw
  refine ⟨σ', F', ad', I', src', ?_, a2, a3, a4, a5, a6, a7, a8, a9⟩
  unfold f_Words_meet
  rw [show rb_mx (nI i) (0 : Int32) = nI i from if_neg (by rw [u_l0, u_lt (by omega) (by omega)]; omega)]
  exact a1
theorem gn_32 {N N' : List (List Nat)} {σ σ' : rb_St} (h : gn N N' σ σ') (hN : nok N') : gw 128 1280 σ σ' := gw_mono h (by have := hN.1; omega) (by have := hN.1; omega)
theorem c_ruleSuf (hq : rq σ b F R ad I src o W) (h5 : F.1 2805 = 1) : ∃ σ' F', f_Reader_readSuffixes (some (fx_ad b 28)) (fx_mk σ b F) = some (some (.int (nI (b2 (x_sufL R (wl o W)).1))), fx_mk σ' b F') ∧ rres σ b F (rN R) ad I 240 15060 (x_sufL R (wl o W)) σ' F' := by
  obtain ⟨hk, hF, hlg, hin, h, hg, h0, hnx, h7, ht, hto, hwo, hw, h1, hkd, hnu⟩ := hq
  obtain ⟨σ2, F2, a1, a2, a3, a4, a5, a6⟩ := c_readSuffixes hk hF h.1 hin.1.2.1.1 ht hto hwo hw h1
  refine ⟨σ2, F2, a1, ?_⟩
  have hN : rN (x_sufL R (wl o W)).2 = rN R := by
    unfold x_sufL
    cases x_suf ((wl o W).drop 1) (if (wl o W).length = 1 then [] else rSf R) <;> rfl
  have hnx2 : nx σ2 b F2 (rN R) ad I src := nx_cf (nx_hn hnx a2) a4 (by decide) (by decide)
  refine ⟨ad, I, src, by rw [hN]; exact hnx2, by rw [hN]; exact nxr_refl _ _ _, a2.1, a3, cf_mono a4 (by decide) (by decide) (by decide) (by decide), a5, lg_cf hlg a4 (by decide), fun hs => ?_⟩
  have hb := a6 hs
  unfold x_sufL at hs hb ⊢
  cases hx : x_suf ((wl o W).drop 1) (if (wl o W).length = 1 then [] else rSf R) with
  | none =>
    rw [hx] at hs
    cases hs
  | some sf =>
    rw [hx] at hb
    obtain ⟨c1, c2, c3, c4, c5, c6, c7⟩ := h
    refine ⟨⟨hb, cr2_hx c2 a2.1 a4 (by decide) (by decide) (by decide) (by decide), cr3_hx c3 a2.1 a4 (by decide) (by decide), cr4_cf c4 a4 (by decide) (by decide) (by decide), cr5_cf c5 a4 (by decide) (by decide) (by decide) (by decide), c6, vx_hx c7 a2.1 (a4.2.2.2.2 19 (by decide))⟩, ⟨?_, fun h2 => absurd (show 2 ≤ rNu R 1 from h2) (by omega), fun h2 => absurd (show rNu R 1 = 3 from h2) (by omega), fun h2 => absurd (show rNu R 1 = 4 from h2) (by omega)⟩, hg⟩
    show F2.1 2805 = kd (rNu R 1)
    rw [a4.1 2805 (by decide), h5, hkd]
    rfl
theorem c_ruleMark (hq : rq σ b F R ad I src o W) (h5 : F.1 2805 = 1) {a : Nat} {only : List Nat} (hs : sx σ b a only) : ∃ σ' F', ((rb_cI (f_Words_meet (some (fx_ad b 21)) (some (fx_ad b 3)) ((1 : Int32)) (nI W.length) (fx_mk σ b F)) fun x_37 σ_38 => if x_37 = 0 then (some (some (Value.int (0 : Int32)), σ_38)) else ((rb_fc σ_38 (some (fx_ad b 28)) 8).bind fun _ => rb_cI (f_Reader_mark (some (fx_ad b 28)) (some a) σ_38) fun x_39 σ_40 => if x_39 = 0 then (some (some (Value.int (0 : Int32)), σ_40)) else (some (some (Value.int (1 : Int32)), σ_40)))) : Option rb_Rs) = some (some (.int (nI (b2 (x_markL R only (wl o W)).1))), fx_mk σ' b F') ∧ rres σ b F (rN R) ad I 128 1280 (x_markL R only (wl o W)) σ' F' := by
  obtain ⟨hk, hF, hlg, hin, h, hg, h0, hnx, h7, ht, hto, hwo, hw, h1, hkd, hnu⟩ := hq
  have hc : ∀ c, c ∈ o → c < 128 := fun c hc => ((tk_ok hto) c hc).2
  obtain ⟨σ1, F1, ad1, I1, src1, a1, a2, a3, a4, a5, a6, a7, a8, a9⟩ := c_meetN (σ := σ) (b := b) hc hwo (Nat.le_refl W.length) h1 hin.1.1 hF hk hnx ht hw
  rw [List.take_of_length_le (by rw [wl_len]; exact Nat.le_refl _)] at a1 a2 a3 a5 a8 a9
  have hmm := mark_meets only ((wl o W).drop 1) (wBo R (fun i => rBo R i || (decide ((wl o W).length = 1) && ((decide (i = 0) && decide (only = q_IGN)) || (decide (i = 1) && decide (only = q_SIL))))))
  have hNB : rN (wBo R (fun i => rBo R i || (decide ((wl o W).length = 1) && ((decide (i = 0) && decide (only = q_IGN)) || (decide (i = 1) && decide (only = q_SIL)))))) = rN R := rfl
  rw [hNB] at hmm
  have a1' : f_Words_meet (some (fx_ad b 21)) (some (fx_ad b 3)) (1 : Int32) (nI W.length) (fx_mk σ b F) = _ := a1
  have hcrm := cr_meet h hin a3 a4.1 a6
  have hgw := gn_32 a5 a8
  have hcf1 : cf zQi zQa zQr zQq F F1 := cf_mono a6 (by decide) (by decide) (by decide) (by decide)
  unfold x_markL
  cases hx : (x_meets ((wl o W).drop 1) (rN R)).1 with
  | none =>
    obtain ⟨m1, m2⟩ := hmm.1 hx
    rw [hx] at a1'
    refine ⟨σ1, F1, ?_, ad1, I1, src1, by rw [m2]; exact a2, by rw [m2]; exact nxr_nxt a3, a4.1, hgw, hcf1, a7, lg_cf hlg a6 (by decide), fun hs => by rw [m1] at hs; cases hs⟩
    simp only [↓cI_of a1']
    rw [if_pos (show nI (b2 (none : Option (List Nat)).isSome) = 0 from rfl), m1]
    rfl
  | some ks =>
    have m1 := hmm.2 ks hx
    rw [hx] at a1'
    obtain ⟨k1, k2, k3⟩ := a9 ks hx
    have hw1 : wc F1 W := wc_cf hw a6 (by decide) (by decide) (by decide)
    obtain ⟨c1, c2, c3, c4, c5, c6, c7⟩ := hcrm
    generalize hN' : (x_meets ((wl o W).drop 1) (rN R)).2 = N' at *
    have hm : mkf N' I1 (rFl R) := fun k hk => ⟨(c6 k hk).2.1, (c6 k hk).2.2.1, (c6 k hk).2.2.2.1⟩
    obtain ⟨σ2, F2, I2, d1, d2, d3, d4, d5, d6, d7, d8, d9, d10⟩ := c_mark (σ := σ1) (b := b) (F := F1) (N := N') (ad := ad1) (I := I1) (src := src1) (kx_hx hk a4.1) a7 hw1 hwo.1 h1 (sx_hx hs a4.1) k1 k2 k3 a2 hm c5.2.2.1 c5.2.2.2
    have hh := hx_trans a4.1 d3
    rw [m1]
    refine ⟨σ2, F2, ?_, ad1, I2, src1, d2, nxr_trans (nxr_nxt a3) (nxr_of (fun k hk f hf => d7 k f (by
      have : f = 2 ∨ f = 3 ∨ f = 10 ∨ f = 11 := by simpa using hf
      rcases this with e | e | e | e <;> subst e <;> decide))), hh, gw_mono (gw_trans hgw d4) (by decide) (by decide), cf_trans hcf1 (cf_mono d5 (by decide) (by decide) (by decide) (by decide)), d6, lg_cf (lg_cf hlg a6 (by decide)) d5 (by decide), fun _ => ⟨⟨?_, ?_, ?_, ?_, ?_, ?_, ?_⟩, ⟨?_, fun h2 => absurd (show 2 ≤ rNu R 1 from h2) (by omega), fun h2 => absurd (show rNu R 1 = 3 from h2) (by omega), fun h2 => absurd (show rNu R 1 = 4 from h2) (by omega)⟩, ?_⟩⟩
    · simp only [↓cI_of a1']
      rw [if_neg (show ¬ nI (b2 (some ks).isSome) = 0 from (by decide : ¬ nI (b2 true) = 0))]
      simp only [↓fx_bc, ↓cI_of d1]
      rw [if_neg (show ¬ (1 : Int32) = 0 by decide)]
      rfl
    · exact cr1_hx c1 d3 d5 (by decide) (by decide)
    · exact cr2_hx c2 d3 d5 (by decide) (by decide) (by decide) (by decide)
    · exact cr3_hx c3 d3 d5 (by decide) (by decide)
    · exact cr4_cf c4 d5 (by decide) (by decide) (by decide)
    · refine ⟨by rw [d5.1 511 (by decide)]; exact c5.1, by rw [d5.2.2.2.1 512 (by decide)]; exact c5.2.1, ?_, ?_⟩
      · rw [d9]
        show nI (b2 (rBo R 0 || (decide (W.length = 1) && decide (only = q_IGN)))) = nI (b2 (rBo R 0 || (decide ((wl o W).length = 1) && ((decide (0 = 0) && decide (only = q_IGN)) || (decide (0 = 1) && decide (only = q_SIL))))))
        rw [wl_len]
        simp
      · rw [d10]
        show nI (b2 (rBo R 1 || (decide (W.length = 1) && decide (only = q_SIL)))) = nI (b2 (rBo R 1 || (decide ((wl o W).length = 1) && ((decide (1 = 0) && decide (only = q_IGN)) || (decide (1 = 1) && decide (only = q_SIL))))))
        rw [wl_len]
        simp
    · intro k hk
      obtain ⟨e1, e2, e3⟩ := d8 k hk
      refine ⟨?_, e1, e2, e3, ?_⟩
      · rw [d7 k 4 (by decide), (c6 k hk).1]
        show nI (b2 (rFl R 0 k)) = nI (b2 (rFl R 0 k || (decide (k ∈ ks) && ((decide (0 = 1) && decide (only = q_PHO)) || (decide (0 = 2) && decide (only = q_IGN)) || (decide (0 = 3) && decide (only = q_SIL))))))
        simp
      · rw [d7 k 9 (by decide)]
        exact (c6 k hk).2.2.2.2
    · exact vx_hx c7 d3 (d5.2.2.2.2 19 (by decide))
    · show F2.1 2805 = kd (rNu R 1)
      rw [d5.1 2805 (by decide), a6.1 2805 (by decide), h5, hkd]
      rfl
    · refine ⟨hg.1, hg.2.1, hg.2.2.1, fun hc => absurd h0 hc, fun h2 => absurd (show rNu R 1 = 3 from h2) (by omega)⟩
theorem c_ruleEnd (hq : rq σ b F R ad I src o W) (h5 : F.1 2805 = 3) {a : Nat} {only : List Nat} (hol : only.length ≤ 320) (hs : sx σ b a only) {rs : List Nat × List Nat} (hrs : x_from (rSf R) only = some rs) : ∃ σ' F', f_Reader_readEnding (some (fx_ad b 28)) (some a) (fx_mk σ b F) = some (some (.int (nI (b2 (x_end R rs).1))), fx_mk σ' b F') ∧ rres σ b F (rN R) ad I 30 5500 (x_end R rs) σ' F' := by
  obtain ⟨hk, hF, hlg, hin, h, hg, h0, hnx, h7, ht, hto, hwo, hw, h1, hkd, hnu⟩ := hq
  obtain ⟨σ2, F2, a1, a2, a3, a4, a5, a6⟩ := c_readEnding hk hF h.1 hin.1.2.1.1 h.2.1 hin.1.2.2.1.1 hol hs hrs
  refine ⟨σ2, F2, a1, ?_⟩
  have hN : rN (x_end R rs).2 = rN R := by
    unfold x_end
    split
    · rfl
    · split <;> rfl
  have hnx2 : nx σ2 b F2 (rN R) ad I src := nx_cf (nx_hn hnx a2) a4 (by decide) (by decide)
  refine ⟨ad, I, src, by rw [hN]; exact hnx2, by rw [hN]; exact nxr_refl _ _ _, a2.1, a3, cf_mono a4 (by decide) (by decide) (by decide) (by decide), a5, lg_cf hlg a4 (by decide), fun hs => ?_⟩
  obtain ⟨b1, b2'⟩ := a6 hs
  obtain ⟨c1, c2, c3, c4, c5, c6, c7⟩ := h
  have key : ∀ (k : Nat) (En' : List ((List Nat × List Nat) × Option Nat)), (x_end R rs).2 = wNu (wOp (wEn R En') (up1 (rOp R) 2 (some k))) (up1 (rNu R) 1 3) → k < En'.length → (∀ i g, (En'.getD i (([], []), none)).2 = some g → ((rEn R).getD i (([], []), none)).2 = some g) → cr σ2 b F2 (x_end R rs).2 ad I ∧ rd F2 (x_end R rs).2 I ∧ gin (x_end R rs).2 := by
    intro k En' hR hk2 hEn
    rw [hR] at b1 b2' ⊢
    refine ⟨⟨cr1_hx c1 a2.1 a4 (by decide) (by decide), b1, cr3_hx c3 a2.1 a4 (by decide) (by decide), cr4_cf c4 a4 (by decide) (by decide) (by decide), ⟨by rw [a4.1 511 (by decide)]; exact c5.1, by rw [a4.2.2.2.1 512 (by decide)]; exact c5.2.1, by rw [a4.1 513 (by decide)]; exact c5.2.2.1, by rw [a4.1 514 (by decide)]; exact c5.2.2.2⟩, c6, vx_hx c7 a2.1 (a4.2.2.2.2 19 (by decide))⟩, ⟨?_, fun h2 => ?_, fun _ => b2', fun h2 => absurd (show (3 : Nat) = 4 from h2) (by decide)⟩, ⟨hg.1, hg.2.1, fun i g hi => hg.2.2.1 i g (hEn i g hi), fun hc => absurd h0 hc, fun _ => ⟨k, rfl, hk2⟩⟩⟩
    · show F2.1 2805 = kd 3
      rw [a4.1 2805 (by decide), h5]
      rfl
    · show F2.1 2807 = oi (fg (rCm R) (rNu R 0))
      rw [a4.1 2807 (by decide), h7, h0]
      rfl
  unfold x_end at hs
  cases hx : x_eidx (rEn R) rs with
  | some k =>
    have hk8 : k < (rEn R).length := by
      have := sr_some hx
      omega
    refine key k ((rEn R).set k (rs, none)) (by unfold x_end; rw [hx]) (by rw [List.length_set]; exact hk8) (fun i g hi => ?_)
    rw [getD_set hk8] at hi
    by_cases e : i = k
    · rw [if_pos e] at hi
      cases hi
    · rw [if_neg e] at hi
      exact hi
  | none =>
    rw [hx] at hs
    simp only at hs
    by_cases e8 : (rEn R).length = 8
    · rw [if_pos e8] at hs
      cases hs
    · refine key (rEn R).length (rEn R ++ [(rs, none)]) (by unfold x_end; rw [hx]; simp only; rw [if_neg e8]) (by rw [List.length_append, List.length_cons]; omega) (fun i g hi => ?_)
      by_cases e : i < (rEn R).length
      · rw [getD_pushl e] at hi
        exact hi
      · by_cases e2 : i = (rEn R).length
        · rw [e2, getD_push] at hi
          cases hi
        · rw [List.getD_eq_getElem?_getD, List.getElem?_eq_none (by rw [List.length_append, List.length_cons, List.length_nil]; omega)] at hi
          cases hi
theorem c_rulePlain (hq : rq σ b F R ad I src o W) (h5 : F.1 2805 = 2) {n : Nat} (hn1 : 1 ≤ n) (hn : n ≤ W.length) : ∃ σ' F', ((rb_cI (f_Words_meet (some (fx_ad b 21)) (some (fx_ad b 3)) ((0 : Int32)) (nI W.length) (fx_mk σ b F)) fun x_49 σ_50 => if x_49 = 0 then (some (some (Value.int (0 : Int32)), σ_50)) else ((rb_fc σ_50 (some (fx_ad b 28)) 8).bind fun _ => rb_cI (f_Reader_addRules (some (fx_ad b 28)) (nI n) σ_50) fun x_51 σ_52 => if x_51 = 0 then (some (some (Value.int (0 : Int32)), σ_52)) else (some (some (Value.int (1 : Int32)), σ_52)))) : Option rb_Rs) = some (some (.int (nI (b2 (x_plain R n (wl o W)).1))), fx_mk σ' b F') ∧ rres σ b F (rN R) ad I 128 1280 (x_plain R n (wl o W)) σ' F' := by
  obtain ⟨hk, hF, hlg, hin, h, hg, h0, hnx, h7, ht, hto, hwo, hw, h1, hkd, hnu⟩ := hq
  have hc : ∀ c, c ∈ o → c < 128 := fun c hc => ((tk_ok hto) c hc).2
  obtain ⟨σ1, F1, ad1, I1, src1, a1, a2, a3, a4, a5, a6, a7, a8, a9⟩ := c_meetN (σ := σ) (b := b) hc hwo (Nat.le_refl W.length) (Nat.zero_le _) hin.1.1 hF hk hnx ht hw
  rw [List.take_of_length_le (by rw [wl_len]; exact Nat.le_refl _), List.drop_zero] at a1 a2 a3 a5 a8 a9
  have a1' : f_Words_meet (some (fx_ad b 21)) (some (fx_ad b 3)) (0 : Int32) (nI W.length) (fx_mk σ b F) = _ := a1
  have hcrm := cr_meet h hin a3 a4.1 a6
  have hgw := gn_32 a5 a8
  have hcf1 : cf zQi zQa zQr zQq F F1 := cf_mono a6 (by decide) (by decide) (by decide) (by decide)
  unfold x_plain
  rcases hx : x_meets (wl o W) (rN R) with ⟨r, N'⟩
  rw [hx] at a1' a2 a3 a5 a8 a9 hcrm
  cases r with
  | none =>
    refine ⟨σ1, F1, ?_, ad1, I1, src1, a2, nxr_nxt a3, a4.1, hgw, hcf1, a7, lg_cf hlg a6 (by decide), fun hs => by cases hs⟩
    simp only [↓cI_of a1']
    rw [if_pos (show nI (b2 (none : Option (List Nat)).isSome) = 0 from rfl)]
    rfl
  | some ks =>
    obtain ⟨k1, k2, k3⟩ := a9 ks rfl
    rw [Nat.sub_zero] at k1
    have hw1 : wc F1 W := wc_cf hw a6 (by decide) (by decide) (by decide)
    obtain ⟨c1, c2, c3, c4, c5, c6, c7⟩ := hcrm
    have hb1 := (kx_hx hk a4.1).1
    obtain ⟨σ2, F2, I2, d1, d2, d3, d4, d5, d6, d7, d8⟩ := c_addRules (σ := σ1) (b := b) (F := F1) (N := N') (ad := ad1) (I := I1) (src := src1) (W := W) (ks := ks) hb1 a7 a8 a2 hwo.1 h1 k1 k3 hw1 k2 hn c4 hin.1.2.2.2.2.1.1 (o1 := rOp R 1) c5.2.1 (f0 := rFl R 0) (fun k hk => (c6 k hk).1)
    have hh := hx_trans a4.1 d3
    have hnr : nxr (rN R) ad I N' ad1 I2 := nxr_trans (nxr_nxt a3) (nxr_of (fun k hk f hf => by
      have : f = 2 ∨ f = 3 ∨ f = 10 ∨ f = 11 := by simpa using hf
      rcases this with e | e | e | e <;> subst e <;> exact d7 k _ hk (by decide) (by decide)))
    have hfun : ((rb_cI (f_Words_meet (some (fx_ad b 21)) (some (fx_ad b 3)) ((0 : Int32)) (nI W.length) (fx_mk σ b F)) fun x_49 σ_50 => if x_49 = 0 then (some (some (Value.int (0 : Int32)), σ_50)) else ((rb_fc σ_50 (some (fx_ad b 28)) 8).bind fun _ => rb_cI (f_Reader_addRules (some (fx_ad b 28)) (nI n) σ_50) fun x_51 σ_52 => if x_51 = 0 then (some (some (Value.int (0 : Int32)), σ_52)) else (some (some (Value.int (1 : Int32)), σ_52)))) : Option rb_Rs) = some (some (.int (nI (b2 (decide ((rPr R).length + n * (W.length - n) ≤ 80))))), fx_mk σ2 b F2) := by
      simp only [↓cI_of a1']
      rw [if_neg (show ¬ nI (b2 (some ks).isSome) = 0 from (by decide : ¬ nI (b2 true) = 0))]
      simp only [↓fx_bc, ↓cI_of d1]
      cases decide ((rPr R).length + n * (W.length - n) ≤ 80)
      · rw [if_pos (show nI (b2 false) = 0 from rfl)]
        rfl
      · rw [if_neg (show ¬ nI (b2 true) = 0 by decide)]
        rfl
    have hgw2 : gw 128 1280 σ σ2 := gw_mono (gw_trans hgw d4) (by decide) (by decide)
    have hcf2 : cf zQi zQa zQr zQq F F2 := cf_trans hcf1 (cf_mono d5 (by decide) (by decide) (by decide) (by decide))
    have hlg2 : lg F2 := lg_cf (lg_cf hlg a6 (by decide)) d5 (by decide)
    simp only
    by_cases e : 80 < (rPr R).length + n * ((wl o W).length - n)
    · rw [if_pos e]
      rw [wl_len] at e
      rw [decide_eq_false (by omega)] at hfun
      exact ⟨σ2, F2, hfun, ad1, I2, src1, d2, hnr, hh, hgw2, hcf2, d6, hlg2, fun hs => by cases hs⟩
    · rw [if_neg e]
      rw [wl_len] at e
      have e' : (rPr R).length + n * (W.length - n) ≤ 80 := Nat.le_of_not_lt e
      rw [decide_eq_true e'] at hfun
      obtain ⟨g1, g2, g3⟩ := d8 e'
      refine ⟨σ2, F2, hfun, ad1, I2, src1, d2, hnr, hh, hgw2, hcf2, d6, hlg2, fun _ => ⟨⟨cr1_hx c1 d3 d5 (by decide) (by decide), cr2_hx c2 d3 d5 (by decide) (by decide) (by decide) (by decide), cr3_hx c3 d3 d5 (by decide) (by decide), g1, ⟨by rw [d5.1 511 (by decide)]; exact c5.1, g2, by rw [d5.1 513 (by decide)]; exact c5.2.2.1, by rw [d5.1 514 (by decide)]; exact c5.2.2.2⟩, fun k hk => ?_, vx_hx c7 d3 (d5.2.2.2.2 19 (by decide))⟩, ⟨?_, fun _ => ?_, fun h2 => absurd (show (4 : Nat) = 3 from h2) (by decide), fun _ k hk => ?_⟩, ⟨hg.1, hg.2.1, hg.2.2.1, fun hc => absurd h0 hc, fun h2 => absurd (show (4 : Nat) = 3 from h2) (by decide)⟩⟩⟩
      · obtain ⟨f1, f2, f3, f4, f5⟩ := c6 k hk
        refine ⟨?_, ?_, ?_, ?_, ?_⟩
        · rw [(g3 k hk).1]
          show nI (b2 (rFl R 0 k || decide (k ∈ ks.take n))) = nI (b2 (if 0 = 4 then decide (k ∈ ks.take n) else rFl R 0 k || (decide (0 = 0) && decide (k ∈ ks.take n))))
          simp
        · rw [d7 k 5 hk (by decide) (by decide), f2]
          show nI (b2 (rFl R 1 k)) = nI (b2 (if 1 = 4 then decide (k ∈ ks.take n) else rFl R 1 k || (decide (1 = 0) && decide (k ∈ ks.take n))))
          simp
        · rw [d7 k 6 hk (by decide) (by decide), f3]
          show nI (b2 (rFl R 2 k)) = nI (b2 (if 2 = 4 then decide (k ∈ ks.take n) else rFl R 2 k || (decide (2 = 0) && decide (k ∈ ks.take n))))
          simp
        · rw [d7 k 7 hk (by decide) (by decide), f4]
          show nI (b2 (rFl R 3 k)) = nI (b2 (if 3 = 4 then decide (k ∈ ks.take n) else rFl R 3 k || (decide (3 = 0) && decide (k ∈ ks.take n))))
          simp
        · rw [d7 k 9 hk (by decide) (by decide)]
          exact f5
      · show F2.1 2805 = kd 4
        rw [d5.1 2805 (by decide), a6.1 2805 (by decide), h5]
        rfl
      · show F2.1 2807 = oi (fg (rCm R) (rNu R 0))
        rw [d5.1 2807 (by decide), a6.1 2807 (by decide), h7, h0]
        rfl
      · rw [(g3 k hk).2]
        show nI (b2 (decide (k ∈ ks.take n))) = nI (b2 (if 4 = 4 then decide (k ∈ ks.take n) else rFl R 4 k || (decide (4 = 0) && decide (k ∈ ks.take n))))
        simp
end
