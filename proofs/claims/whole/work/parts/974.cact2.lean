/-! the class: a command, whole -/
abbrev zP : List Nat := [301, 302, 2104, 2601]
abbrev zPa : List Nat := [22, 23, 27]
abbrev zPq : List Nat := [4, 24]
section
variable {σ : rb_St} {b : Nat} {F : fx_F} {o : List Nat} {S : PS} {ad : Nat → Nat} {I : Nat → Nat → Int32} {src : Nat → Option Nat}
/-- how a command comes out -/
def pres (σ : rb_St) (b : Nat) (F : fx_F) (S : PS) (ad : Nat → Nat) (I : Nat → Nat → Int32) (src : Nat → Option Nat) (σ' : rb_St) (F' : fx_F) (S' : PS) : Prop := ∃ ad' I' src', cps σ' b F' S' ad' I' src' ∧ nxo (pN S) ad I src (pN S') ad' I' src' ∧ hx σ σ' ∧ gn (pN S) (pN S') σ σ' ∧ cf zP zPa [] zPq F F' ∧ fx_ln F' ∧ nok (pN S')
theorem b2i {x : Bool} {τ : rb_St} : (if nI (b2 x) = 0 then some (some (Value.int (0 : Int32)), τ) else some (some (Value.int (1 : Int32)), τ)) = some (some (Value.int (nI (b2 x))), τ) := by
  cases x <;> rfl
theorem c_act (hk : kx σ b) (hF : fx_ln F) (ht : tw F 14 o) (hto : tk o) (h : cps σ b F S ad I src) (hN : nok (pN S)) (hC : pC S + 60 < 2147483648) : ∃ σ' F', f_Shell_act (some (fx_ad b 25)) (some (fx_ad b 14)) (fx_mk σ b F) = some (some (.int (nI (b2 (x_perf (wl o (wds o o.length 0 o.length)) S).1))), fx_mk σ' b F') ∧ pres σ b F S ad I src σ' F' (x_perf (wl o (wds o o.length 0 o.length)) S).2 := by
  have hb := hk.1
  have hol := tw_len hF ht
  rw [show tcap 14 = 120 from rfl] at hol
  have hc : ∀ c, c ∈ o → c < 128 := fun c hc => ((tk_ok hto) c hc).2
  have hwo := wok_wds hol
  have hclr := c_wclear (F := F) hb
  have hlen := c_tlen (σ := σ) (b := b) tO14 (F := fx_I F 2104 0) (tw_fr ht (fr_I (zi := [2104]) (za := []) (zl := []) (fr_refl _ _ _ _) (by decide)) (by decide) (by decide))
  obtain ⟨F1, w1, w2, w3, w4⟩ := c_addWords (b := b) hb (fun c h => Nat.lt_trans (hc c h) (by decide)) (q := o.length) (Nat.le_refl _) hol (o.length + 1) 0 0 [] (fx_I F 2104 0) (by omega) (Nat.le_refl _) (fun h => by omega) (fun j j1 j2 => by omega) (by
    have := hwo.1
    show (wds o o.length 0 o.length).length ≤ 61
    omega) (fx_lnI hF) (tw_fr ht (fr_I (zi := [2104]) (za := []) (zl := []) (fr_refl _ _ _ _) (by decide)) (by decide) (by decide)) (wc_nil F)
  have w2' : wc F1 (wds o o.length 0 o.length) := w2
  generalize hWd : wds o o.length 0 o.length = W at hwo w2'
  have w1' : f_Words_addWords (some (fx_ad b 21)) (0 : Int32) (nI o.length) (fx_mk σ b (fx_I F 2104 0)) = some (none, fx_mk σ b F1) := w1
  have hcf1 : cf [2104] [22, 23] [] [] F F1 := cf_trans (cf_I (cf_refl _ _ _ _ _) (by decide)) (cf_fr w4)
  have hcf1' : cf zP zPa [] zPq F F1 := cf_mono hcf1 (by decide) (by decide) (by decide) (by decide)
  have h1 : cps σ b F1 S ad I src := cps_fr h hcf1 (by decide) (by decide) (by decide) (by decide) (by decide)
  have ht1 : tw F1 14 o := tw_cf ht hcf1 (by decide) (by decide)
  have hcnt := c_wcount (σ := σ) (b := b) w2'
  have h60 := hwo.1
  have hstay : pres σ b F S ad I src σ F1 S := ⟨ad, I, src, h1, nxo_refl _ _ _ _, hx_refl _, gw_mono (gw_refl _) (Nat.zero_le _) (Nat.zero_le _), hcf1', w3, hN⟩
  unfold f_Shell_act
  simp only [↓fx_bc, ↓cV_of hclr, ↓fc14, ↓cI_of hlen, ↓cV_of w1', ↓cI_of hcnt]
  by_cases h0 : W.length = 0
  · have hws : wl o W = [] := List.eq_nil_of_length_eq_zero (by rw [wl_len]; exact h0)
    rw [if_pos (show nI W.length = 0 by rw [h0]; rfl), hws]
    exact ⟨σ, F1, rfl, hstay⟩
  · have hws : ¬ wl o W = [] := fun e => h0 (by have := congrArg List.length e; rw [wl_len] at this; exact this)
    have hwl := wl_len o W
    have hw0 : (wl o W).getD 0 [] = wd o W 0 := wl_get (by omega)
    have his : ∀ j, j < 14 → f_Words_is (some (fx_ad b 21)) (0 : Int32) (some (rb_k (fx_mk σ b F1) j)) (fx_mk σ b F1) = some (some (.int (nI (b2 (decide (wd o W 0 = kT j))))), fx_mk σ b F1) := fun j hj => c_wis (σ := σ) (b := b) w3 ht1 hc hwo w2' (i := 0) (by omega) (hk.2.2 j hj)
    rw [if_neg (show ¬ nI W.length = 0 by rw [u_l0, u_eq (by omega) (by omega)]; exact h0)]
    unfold x_perf
    rw [if_neg hws, hw0]
    -- names are met
    have hmeet := fun (i t : Nat) (ht60 : t ≤ W.length) (hi : i ≤ t) => c_meetW (σ := σ) (b := b) hc hwo ht60 hi hN w3 hk h1 ht1 w2'
    simp only [↓fx_bc, ↓cI_of (his 7 (by decide))]
    by_cases e7 : wd o W 0 = q_true
    · rw [if_pos e7, decide_eq_true (show wd o W 0 = kT 7 from e7), b2_t, if_neg (show ¬ nI 1 = 0 by decide)]
      exact ⟨σ, F1, rfl, hstay⟩
    · rw [if_neg e7, decide_eq_false (show ¬ wd o W 0 = kT 7 from e7), b2_f, if_pos (show nI 0 = 0 from rfl)]
      simp only [↓fx_bc, ↓cI_of (his 8 (by decide))]
      by_cases e8 : wd o W 0 = q_echo
      · rw [if_pos e8, decide_eq_true (show wd o W 0 = kT 8 from e8), b2_t, if_neg (show ¬ nI 1 = 0 by decide)]
        obtain ⟨F2, a1, a2, a3, a4⟩ := c_shEcho (σ := σ) hb hc hwo (by omega) w3 ht1 w2' h1.2.2.2.2.1
        refine ⟨σ, F2, ?_, ad, I, src, ⟨nx_fr h1.1 ⟨a4.1 301 (by decide), by rw [a4.2.2.2]⟩, by rw [a4.1 302 (by decide)]; exact h1.2.1, h1.2.2.1, h1.2.2.2.1, a2, h1.2.2.2.2.2⟩, nxo_refl _ _ _ _, hx_refl _, gw_mono (gw_refl _) (Nat.zero_le _) (Nat.zero_le _), cf_trans hcf1' (cf_mono (cf_fr a4) (by decide) (by decide) (by decide) (by decide)), a3, hN⟩
        simp only [↓fx_bc, ↓cI_of a1]
        rw [if_pos (show rb_isZ (nI 1) from Or.inr rfl)]
      · rw [if_neg e8, decide_eq_false (show ¬ wd o W 0 = kT 8 from e8), b2_f, if_pos (show nI 0 = 0 from rfl)]
        simp only [↓fx_bc, ↓cI_of (his 9 (by decide))]
        by_cases e9 : wd o W 0 = q_touch
        · rw [if_pos (show wd o W 0 = q_touch ∨ wd o W 0 = q_rm from Or.inl e9), decide_eq_true (show wd o W 0 = kT 9 from e9), b2_t, if_neg (show ¬ nI 1 = 0 by decide), hwl]
          by_cases e2 : W.length < 2
          · rw [if_pos e2, if_pos (show nI W.length < (2 : Int32) by rw [u_l2, u_lt (by omega) (by omega)]; exact e2)]
            exact ⟨σ, F1, rfl, hstay⟩
          · rw [if_neg e2, if_neg (show ¬ nI W.length < (2 : Int32) by rw [u_l2, u_lt (by omega) (by omega)]; exact e2)]
            obtain ⟨σ2, F2, ad2, I2, src2, a1, a2, a3, a4, a5, a6, a7, a8, a9, a10⟩ := hmeet 1 W.length (Nat.le_refl _) (by omega)
            rw [List.take_of_length_le (by rw [wl_len]; exact Nat.le_refl _)] at a1 a2 a3 a5 a8 a9
            have a1' : f_Words_meet (some (fx_ad b 21)) (some (fx_ad b 3)) (1 : Int32) (nI W.length) (fx_mk σ b F1) = _ := a1
            simp only [↓fx_bc, ↓cI_of a1']
            have hcf2 : cf zP zPa [] zPq F F2 := cf_trans hcf1' (cf_mono a6 (by decide) (by decide) (by decide) (by decide))
            generalize hxm : x_meets ((wl o W).drop 1) (pN S) = xm at *
            obtain ⟨xm1, xm2⟩ := xm
            cases xm1 with
            | none =>
              refine ⟨σ2, F2, rfl, ad2, I2, src2, a2, nxo_of a3 (fun _ _ _ _ => rfl), a4.1, a5, hcf2, a7, a8⟩
            | some ks =>
              obtain ⟨k1, k2, k3⟩ := a9 ks rfl
              obtain ⟨σ3, F3, I3, g1, g2, g3, g4, g5, g6, g7⟩ := c_touchLoop (W := W) h60 ks 1 σ2 F2 _ _ (by omega) (by rw [a4.1.2.1]; exact hb) a7 a2 (wc_cf w2' a6 (by decide) (by decide) (by decide)) k2 k3
              have g1' : f_Shell_touch (some (fx_ad b 25)) (fx_mk σ2 b F2) = _ := g1
              simp only [if_pos e9]
              refine ⟨σ3, F3, ?_, ad2, I3, src2, g2, nxo_of a3 g7, hx_trans a4.1 g3, gw_mono (gw_trans a5 g4) (Nat.le_refl _) (Nat.le_refl _), cf_trans hcf2 (cf_mono g5 (by decide) (by decide) (by decide) (by decide)), g6, a8⟩
              simp only [Option.isSome_some, b2_t, show (nI 1 = 0) = False from eq_false (by decide), if_false, ↓fx_bc, ↓cI_of g1']
              rfl
        · rw [decide_eq_false (show ¬ wd o W 0 = kT 9 from e9), b2_f, if_pos (show nI 0 = 0 from rfl)]
          simp only [↓fx_bc, ↓cI_of (his 10 (by decide))]
          by_cases e10 : wd o W 0 = q_rm
          · rw [if_pos (show wd o W 0 = q_touch ∨ wd o W 0 = q_rm from Or.inr e10), decide_eq_true (show wd o W 0 = kT 10 from e10), b2_t, if_neg (show ¬ nI 1 = 0 by decide), hwl]
            by_cases e2 : W.length < 2
            · rw [if_pos e2, if_pos (show nI W.length < (2 : Int32) by rw [u_l2, u_lt (by omega) (by omega)]; exact e2)]
              exact ⟨σ, F1, rfl, hstay⟩
            · rw [if_neg e2, if_neg (show ¬ nI W.length < (2 : Int32) by rw [u_l2, u_lt (by omega) (by omega)]; exact e2)]
              obtain ⟨σ2, F2, ad2, I2, src2, a1, a2, a3, a4, a5, a6, a7, a8, a9, a10⟩ := hmeet 1 W.length (Nat.le_refl _) (by omega)
              rw [List.take_of_length_le (by rw [wl_len]; exact Nat.le_refl _)] at a1 a2 a3 a5 a8 a9
              have a1' : f_Words_meet (some (fx_ad b 21)) (some (fx_ad b 3)) (1 : Int32) (nI W.length) (fx_mk σ b F1) = _ := a1
              simp only [↓fx_bc, ↓cI_of a1']
              have hcf2 : cf zP zPa [] zPq F F2 := cf_trans hcf1' (cf_mono a6 (by decide) (by decide) (by decide) (by decide))
              generalize hxm : x_meets ((wl o W).drop 1) (pN S) = xm at *
              obtain ⟨xm1, xm2⟩ := xm
              cases xm1 with
              | none =>
                refine ⟨σ2, F2, rfl, ad2, I2, src2, a2, nxo_of a3 (fun _ _ _ _ => rfl), a4.1, a5, hcf2, a7, a8⟩
              | some ks =>
                obtain ⟨k1, k2, k3⟩ := a9 ks rfl
                obtain ⟨σ3, I3, g1, g2, g3, g4, g7⟩ := c_rmLoop (W := W) h60 ks 1 σ2 F2 _ _ (by omega) (by rw [a4.1.2.1]; exact hb) a7 a2 (wc_cf w2' a6 (by decide) (by decide) (by decide)) k2 k3
                have g1' : f_Shell_remove (some (fx_ad b 25)) (fx_mk σ2 b F2) = _ := g1
                simp only [if_neg e9]
                refine ⟨σ3, F2, ?_, ad2, I3, src2, g2, nxo_of a3 g7, hx_trans a4.1 g3, gw_mono (gw_trans a5 g4) (Nat.le_refl _) (Nat.le_refl _), hcf2, a7, a8⟩
                simp only [Option.isSome_some, b2_t, show (nI 1 = 0) = False from eq_false (by decide), if_false, ↓fx_bc, ↓cI_of g1']
                rfl
          · rw [if_neg (show ¬ (wd o W 0 = q_touch ∨ wd o W 0 = q_rm) by rintro (e | e); exact e9 e; exact e10 e), decide_eq_false (show ¬ wd o W 0 = kT 10 from e10), b2_f, if_pos (show nI 0 = 0 from rfl)]
            simp only [↓fx_bc, ↓cI_of (his 11 (by decide))]
            by_cases e11 : wd o W 0 = q_cp
            · rw [if_pos e11, decide_eq_true (show wd o W 0 = kT 11 from e11), b2_t, if_neg (show ¬ nI 1 = 0 by decide), hwl]
              by_cases e3 : W.length = 3
              · rw [if_neg (show ¬ W.length ≠ 3 from fun h => h e3), if_pos (show nI W.length = (3 : Int32) by rw [e3]; rfl)]
                obtain ⟨σ2, F2, ad2, I2, src2, a1, a2, a3, a4, a5, a6, a7, a8, a9, a10⟩ := hmeet 1 W.length (Nat.le_refl _) (by omega)
                rw [List.take_of_length_le (by rw [wl_len]; exact Nat.le_refl _)] at a1 a2 a3 a5 a8 a9
                have a1' : f_Words_meet (some (fx_ad b 21)) (some (fx_ad b 3)) (1 : Int32) (nI W.length) (fx_mk σ b F1) = _ := a1
                simp only [↓fx_bc, ↓cI_of a1']
                have hcf2 : cf zP zPa [] zPq F F2 := cf_trans hcf1' (cf_mono a6 (by decide) (by decide) (by decide) (by decide))
                generalize hxm : x_meets ((wl o W).drop 1) (pN S) = xm at *
                obtain ⟨xm1, xm2⟩ := xm
                cases xm1 with
                | none =>
                  refine ⟨σ2, F2, rfl, ad2, I2, src2, a2, nxo_of a3 (fun _ _ _ _ => rfl), a4.1, a5, hcf2, a7, a8⟩
                | some ks =>
                  obtain ⟨k1, k2, k3⟩ := a9 ks rfl
                  obtain ⟨σ3, F3, I3, g1, g2, g3, g4, g5, g6, g7⟩ := c_copy (W := W) e3 (by rw [a4.1.2.1]; exact hb) a7 a2 (show pC S < 2147483648 by omega) (wc_cf w2' a6 (by decide) (by decide) (by decide)) (by omega) k2 k3
                  have hcf3 : cf zP zPa [] zPq F F3 := cf_trans hcf2 (cf_mono g5 (by decide) (by decide) (by decide) (by decide))
                  have g1' : f_Shell_copy (some (fx_ad b 25)) (fx_mk σ2 b F2) = some (some (.int (nI (b2 (decide (¬ (pF S (ks.getD 0 0)).1 = 0))))), fx_mk σ3 b F3) := g1
                  simp only [Option.isSome_some, b2_t, show (nI 1 = 0) = False from eq_false (by decide), if_false, ↓fx_bc, ↓cI_of g1']
                  by_cases ez : (pF S (ks.getD 0 0)).1 = 0
                  · have g2' : cps σ3 b F3 (xm2, pF S, pC S, pP S) ad2 I3 src2 := by
                      have : cps σ3 b F3 (if (pF S (ks.getD 0 0)).1 = 0 then (xm2, pF S, pC S, pP S) else _) ad2 I3 src2 := g2
                      rw [if_pos ez] at this
                      exact this
                    rw [if_pos ez]
                    refine ⟨σ3, F3, ?_, ad2, I3, src2, g2', nxo_of a3 g7, hx_trans a4.1 g3, gw_mono (gw_trans a5 g4) (Nat.le_refl _) (Nat.le_refl _), hcf3, g6, a8⟩
                    rw [b2i, decide_eq_false (show ¬ ¬ (pF S (ks.getD 0 0)).1 = 0 by simpa using ez)]
                  · have g2' : cps σ3 b F3 (xm2, up1 (pF S) (ks.getD 1 0) (pC S + 1, (pF S (ks.getD 0 0)).2), pC S + 1, pP S) ad2 I3 src2 := by
                      have : cps σ3 b F3 (if (pF S (ks.getD 0 0)).1 = 0 then (xm2, pF S, pC S, pP S) else (xm2, up1 (pF S) (ks.getD 1 0) (pC S + 1, (pF S (ks.getD 0 0)).2), pC S + 1, pP S)) ad2 I3 src2 := g2
                      rw [if_neg ez] at this
                      exact this
                    rw [if_neg ez]
                    refine ⟨σ3, F3, ?_, ad2, I3, src2, g2', nxo_of a3 g7, hx_trans a4.1 g3, gw_mono (gw_trans a5 g4) (Nat.le_refl _) (Nat.le_refl _), hcf3, g6, a8⟩
                    rw [b2i, decide_eq_true ez]
              · rw [if_pos (show W.length ≠ 3 from e3), if_neg (show ¬ nI W.length = (3 : Int32) by rw [u_l3, u_eq (by omega) (by omega)]; exact e3)]
                exact ⟨σ, F1, rfl, hstay⟩
            · rw [if_neg e11, decide_eq_false (show ¬ wd o W 0 = kT 11 from e11), b2_f, if_pos (show nI 0 = 0 from rfl)]
              simp only [↓fx_bc, ↓cI_of (his 12 (by decide))]
              by_cases e12 : wd o W 0 = q_cat
              · rw [if_pos e12, decide_eq_true (show wd o W 0 = kT 12 from e12), b2_t, if_neg (show ¬ nI 1 = 0 by decide), hwl]
                by_cases e4 : W.length < 4
                · rw [if_pos (show W.length < 4 ∨ _ from Or.inl e4), if_pos (show nI W.length < (4 : Int32) by rw [u_l4, u_lt (by omega) (by omega)]; exact e4)]
                  exact ⟨σ, F1, rfl, hstay⟩
                · have hw2 : (wl o W).getD (W.length - 2) [] = wd o W (W.length - 2) := wl_get (by omega)
                  have hs2 : nI W.length - (2 : Int32) = nI (W.length - 2) := by rw [u_l2, u_sub (by omega)]
                  have hs1 : nI W.length - (1 : Int32) = nI (W.length - 1) := by rw [u_l1, u_sub (by omega)]
                  have his13 : f_Words_is (some (fx_ad b 21)) (nI (W.length - 2)) (some (rb_k (fx_mk σ b F1) 13)) (fx_mk σ b F1) = some (some (.int (nI (b2 (decide (wd o W (W.length - 2) = [62]))))), fx_mk σ b F1) := c_wis (σ := σ) (b := b) w3 ht1 hc hwo w2' (i := W.length - 2) (by omega) (hk.2.2 13 (by decide))
                  rw [if_neg (show ¬ nI W.length < (4 : Int32) by rw [u_l4, u_lt (by omega) (by omega)]; exact e4), hs2, hs1]
                  simp only [↓fx_bc, ↓cI_of his13]
                  by_cases e62 : wd o W (W.length - 2) = [62]
                  · rw [if_neg (show ¬ (W.length < 4 ∨ (wl o W).getD (W.length - 2) [] ≠ [62]) by rintro (e | e); exact e4 e; exact e (hw2.trans e62)), decide_eq_true e62, b2_t, if_neg (show ¬ nI 1 = 0 by decide)]
                    obtain ⟨σ2, F2, ad2, I2, src2, a1, a2, a3, a4, a5, a6, a7, a8, a9, a10⟩ := hmeet 1 (W.length - 2) (by omega) (by omega)
                    have a1' : f_Words_meet (some (fx_ad b 21)) (some (fx_ad b 3)) (1 : Int32) (nI (W.length - 2)) (fx_mk σ b F1) = _ := a1
                    simp only [↓fx_bc, ↓cI_of a1']
                    have hcf2 : cf zP zPa [] zPq F F2 := cf_trans hcf1' (cf_mono a6 (by decide) (by decide) (by decide) (by decide))
                    generalize hxm : x_meets (((wl o W).take (W.length - 2)).drop 1) (pN S) = xm at *
                    obtain ⟨xm1, xm2⟩ := xm
                    cases xm1 with
                    | none =>
                      refine ⟨σ2, F2, rfl, ad2, I2, src2, a2, nxo_of a3 (fun _ _ _ _ => rfl), a4.1, a5, hcf2, a7, a8⟩
                    | some ks =>
                      obtain ⟨k1, k2, k3⟩ := a9 ks rfl
                      have hk2 : kx σ2 b := kx_hx hk a4.1
                      obtain ⟨σ3, F3, ad3, I3, src3, d1, d2, d3, d4, d5, d6, d7, d8, d9, d10⟩ := c_meetW (σ := σ2) (b := b) (S := (xm2, pF S, pC S, pP S)) hc hwo (t := W.length) (Nat.le_refl _) (i := W.length - 1) (by omega) a8 a7 hk2 a2 (tw_cf ht1 a6 (by decide) (by decide)) (wc_cf w2' a6 (by decide) (by decide) (by decide))
                      have hlast : ((wl o W).take W.length).drop (W.length - 1) = [(wl o W).getD (W.length - 1) []] := by
                        rw [List.take_of_length_le (by rw [wl_len]; exact Nat.le_refl _), wl_drop (by omega), wl_drop0 (by omega), wl_get (by omega)]
                      rw [hlast] at d1 d2 d3 d5 d8 d9
                      have hone : x_meets [(wl o W).getD (W.length - 1) []] xm2 = ((nmeet xm2 ((wl o W).getD (W.length - 1) [])).1.map (fun k => [k]), (nmeet xm2 ((wl o W).getD (W.length - 1) [])).2) := by
                        rw [x_meets]
                        generalize nmeet xm2 ((wl o W).getD (W.length - 1) []) = z
                        obtain ⟨z1, z2⟩ := z
                        cases z1 <;> rfl
                      have hcf3 : cf zP zPa [] zPq F F3 := cf_trans hcf2 (cf_mono d6 (by decide) (by decide) (by decide) (by decide))
                      have d1' : f_Words_meet (some (fx_ad b 21)) (some (fx_ad b 3)) (nI (W.length - 1)) (nI W.length) (fx_mk σ2 b F2) = some (some (.int (nI (b2 (x_meets [(wl o W).getD (W.length - 1) []] xm2).1.isSome))), fx_mk σ3 b F3) := d1
                      have d9' : ∀ ks, (x_meets [(wl o W).getD (W.length - 1) []] xm2).1 = some ks → ks.length = W.length - (W.length - 1) ∧ mt F3 ad3 (W.length - 1) ks ∧ ∀ j, j < ks.length → ks.getD j 0 < (x_meets [(wl o W).getD (W.length - 1) []] xm2).2.length := d9
                      have d2' : cps σ3 b F3 ((x_meets [(wl o W).getD (W.length - 1) []] xm2).2, pF S, pC S, pP S) ad3 I3 src3 := d2
                      have d3' : nxt xm2 ad2 I2 src2 (x_meets [(wl o W).getD (W.length - 1) []] xm2).2 ad3 I3 src3 := d3
                      have d5' : gn xm2 (x_meets [(wl o W).getD (W.length - 1) []] xm2).2 σ2 σ3 := d5
                      have d8' : nok (x_meets [(wl o W).getD (W.length - 1) []] xm2).2 := d8
                      rw [hone] at d1' d9' d2' d3' d5' d8'
                      simp only [Option.isSome_some, b2_t, show (nI 1 = 0) = False from eq_false (by decide), if_false, ↓fx_bc, ↓cI_of d1']
                      generalize hnm : nmeet xm2 ((wl o W).getD (W.length - 1) []) = nm at *
                      obtain ⟨nm1, nm2⟩ := nm
                      have hnxo : nxo (pN S) ad I src nm2 ad3 I3 src3 := nxo_of (nxt_trans a3 d3') (fun _ _ _ _ => rfl)
                      have hgn : gn (pN S) nm2 σ σ3 := gn_trans a5 d5' a3.1 d3'.1
                      cases nm1 with
                      | none => exact ⟨σ3, F3, rfl, ad3, I3, src3, d2', hnxo, hx_trans a4.1 d4.1, hgn, hcf3, d7, d8'⟩
                      | some k =>
                        obtain ⟨m1, m2, m3⟩ := d9' [k] rfl
                        have hkl : k < nm2.length := m3 0 (by simp)
                        have hkr : (F3.2.2.2.2 24)[W.length - 1]? = some (some (ad3 k)) := m2 0 (by simp)
                        have hmt3 : mt F3 ad3 1 ks := fun j hj => by
                          rw [d10 (1 + j) (by omega), k2 j hj, (d3'.2.1 _ (k3 j hj)).2.1]
                        obtain ⟨σ4, F4, I4, g1, g2, g3, g4, g5, g6, g7⟩ := c_catLoop (b := b) (W := W) h60 (by omega) (by rw [d4.1.2.1, a4.1.2.1]; exact hb) d7 d2' (show pC S < 2147483648 by omega) (wc_cf (wc_cf w2' a6 (by decide) (by decide) (by decide)) d6 (by decide) (by decide) (by decide)) hkl hkr ks 1 0 (by omega) hmt3 (fun j hj => Nat.lt_of_lt_of_le (k3 j hj) d3'.1)
                        have g1' : f_Shell_concatenate (some (fx_ad b 25)) (fx_mk σ3 b F3) = some (some (.int (nI (b2 (x_sum (pF S) ks 0).isSome))), fx_mk σ4 b F4) := g1
                        have g2' : cps σ4 b F4 (match x_sum (pF S) ks 0 with | none => (nm2, pF S, pC S, pP S) | some c => (nm2, up1 (pF S) k (pC S + 1, c), pC S + 1, pP S)) ad3 I4 src3 := g2
                        have hcf4 : cf zP zPa [] zPq F F4 := cf_trans hcf3 (cf_mono g5 (by decide) (by decide) (by decide) (by decide))
                        have hnxo4 : nxo (pN S) ad I src nm2 ad3 I4 src3 := nxo_of (nxt_trans a3 d3') g7
                        simp only [Option.map_some, Option.isSome_some, b2_t, show (nI 1 = 0) = False from eq_false (by decide), if_false, ↓fx_bc, ↓cI_of g1', b2i]
                        cases hxs : x_sum (pF S) ks 0 with
                        | none =>
                          rw [hxs] at g2'
                          exact ⟨σ4, F4, rfl, ad3, I4, src3, g2', hnxo4, hx_trans a4.1 (hx_trans d4.1 g3), gw_mono (gw_trans hgn g4) (Nat.le_refl _) (Nat.le_refl _), hcf4, g6, d8'⟩
                        | some c =>
                          rw [hxs] at g2'
                          exact ⟨σ4, F4, rfl, ad3, I4, src3, g2', hnxo4, hx_trans a4.1 (hx_trans d4.1 g3), gw_mono (gw_trans hgn g4) (Nat.le_refl _) (Nat.le_refl _), hcf4, g6, d8'⟩
                  · rw [if_pos (show W.length < 4 ∨ (wl o W).getD (W.length - 2) [] ≠ [62] from Or.inr (fun e => e62 (hw2.symm.trans e))), decide_eq_false e62, b2_f, if_pos (show nI 0 = 0 from rfl)]
                    exact ⟨σ, F1, rfl, hstay⟩
              · rw [if_neg e12, decide_eq_false (show ¬ wd o W 0 = kT 12 from e12), b2_f, if_pos (show nI 0 = 0 from rfl)]
                exact ⟨σ, F1, rfl, hstay⟩
end
