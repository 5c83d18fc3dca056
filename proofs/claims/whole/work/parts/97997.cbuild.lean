/-! the class: updates, down and up -/
theorem fate2_le (R : RS) (gv : Nat → Option (List Nat)) (w t : Nat) (ch : CH) (S : BS) : (x_fate2 R gv w t ch S).1 ≤ 3 := by
  unfold x_fate2
  split
  · simp only
    split <;> omega
  · exact (by decide : 1 ≤ 3)
theorem fate_le (R : RS) (gv : Nat → Option (List Nat)) (w : Nat) (upd : Nat → BS → BS) (u : List Nat) (t : Nat) (S : BS) : (x_fate R gv w upd u t S).1 ≤ 3 := by
  unfold x_fate
  split
  · exact Nat.le_refl _
  · split
    · exact Nat.le_refl _
    · exact fate2_le _ _ _ _ _ _
/-- fields of fate and of being under way may change -/
theorem cst_I {σ σ' : rb_St} {b : Nat} {F : fx_F} {R : RS} {gv : Nat → Option (List Nat)} {w : Nat} {S : PS} {n : Nat} {ad : Nat → Nat} {I I' : Nat → Nat → Int32} {src : Nat → Option Nat} (h : cst σ b F R gv w S n ad I src) (hh : hx σ σ') (hnx : nx σ' b F (pN S) ad I' src) (hI : ∀ k, k < (pN S).length → ∀ f, f ∈ [2, 3, 4, 5, 6, 7, 9] → I' k f = I k f) : cst σ' b F R gv w S n ad I' src := by
  obtain ⟨c1, c2, c3, c4, c5, c6, c7, c8, c9⟩ := h
  obtain ⟨r1, r2, r3, r4, r5, r6, r7⟩ := cr_hx c6 hh (cf_refl [] [] [] [] _) (by decide) (by decide) (by decide) (by decide)
  exact ⟨kx_hx c1 hh, c2, c3, ⟨hnx, c4.2.1, fun k hk => by rw [hI k hk 2 (by decide), hI k hk 3 (by decide)]; exact c4.2.2.1 k hk, c4.2.2.2⟩, c5, ⟨r1, r2, r3, r4, r5, fun k hk => by rw [hI k hk 4 (by decide), hI k hk 5 (by decide), hI k hk 6 (by decide), hI k hk 7 (by decide), hI k hk 9 (by decide)]; exact r6 k hk, r7⟩, vx_hx c7 hh rfl, c8, c9⟩
section
variable {b : Nat} {R : RS} {gv : Nat → Option (List Nat)} {w : Nat}
theorem c_call (hin : rin R) (hg : gin R) (hgv : ∀ m v, gv m = some v → tk v ∧ v.length ≤ 320) (hw : w < 64) (k0 : Nat) : ∀ (n : Nat) (u : List Nat), 33 ≤ n + u.length → rTk b R gv w u (x_upd R gv w n u) (f_Bld_update_N (n + 1 + k0)) u.length := by
  intro n
  induction n with
  | zero =>
    intro u hn d σ F S ad I src hd hu hS h
    have := nodup_le 32 u hu.1 (fun x hx => Nat.lt_of_lt_of_le (hu.2 x hx) hS.1.1.1)
    omega
  | succ n ih =>
    intro u hn d σ F S ad I src hd hu hS h
    have hu32 := nodup_le 32 u hu.1 (fun x hx => Nat.lt_of_lt_of_le (hu.2 x hx) hS.1.1.1)
    have hN := hS.1.1
    have hnx := h.1.2.2.2.1.1
    have hfa := h.2.2.1 d hd
    have g11 := n_gI hnx hd (f := 11) ⟨by decide, by decide, by decide⟩
    have g10 := n_gI hnx hd (f := 10) ⟨by decide, by decide, by decide⟩
    rw [hfa.2] at g11
    rw [hfa.1] at g10
    have h3 := hS.2.2.2.1 d
    rw [show n + 1 + 1 + k0 = (n + 1 + k0) + 1 by omega]
    show ∃ σ' F', f_Bld_update_F (f_Bld_update_N (n + 1 + k0)) (some (fx_ad b 31)) (some (ad d)) (nI u.length) (fx_mk σ b F) = _ ∧ _
    unfold x_call
    by_cases hdu : d ∈ u
    · rw [if_neg (fun hc => hc.2 hdu)]
      refine ⟨σ, F, ?_, bres_refl h⟩
      rw [decide_eq_true hdu] at g11 ⊢
      unfold f_Bld_update_F
      rw [g11, Option.bind_some, if_neg (show ¬ nI (b2 true) = 0 by decide)]
      rfl
    · rw [decide_eq_false hdu] at g11
      have hdp : nI u.length ≤ (32 : Int32) := by rw [u_l32, u_le (by omega) (by omega)]; exact hu32
      by_cases h0 : bG S d = 0
      · rw [if_pos ⟨h0, hdu⟩]
        obtain ⟨hul, hu1⟩ := u_len hN hu hd hdu
        obtain ⟨σ1, a1, a2, a3, a4⟩ := n_pZ hnx hd (f := 11) ⟨by decide, by decide, by decide⟩ (by decide) true
        have a1' : rb_pZ (fx_mk σ b F) (some (ad d)) 12 11 (1 : Int32) = _ := a1
        have hI1 : ∀ k f, f ≠ 11 → up2 I d 11 (nI (b2 true)) k f = I k f := fun k f hf => up2_ne (fun hc => hf hc.2)
        have hb1 : bst σ1 b F R gv w (d :: u) S ad (up2 I d 11 (nI (b2 true))) src := by
          refine ⟨cst_I h.1 a3 a2 (fun k _ f hf => hI1 k f (by
            have : f = 2 ∨ f = 3 ∨ f = 4 ∨ f = 5 ∨ f = 6 ∨ f = 7 ∨ f = 9 := by simpa using hf
            omega)), h.2.1, fun k hk => ⟨by rw [hI1 k 10 (by decide)]; exact (h.2.2.1 k hk).1, ?_⟩, h.2.2.2⟩
          by_cases ek : k = d
          · rw [ek, up2_eq, decide_eq_true (List.mem_cons_self ..)]
          · rw [up2_ne (fun hc => ek hc.1), (h.2.2.1 k hk).2]
            have : decide (k ∈ u) = decide (k ∈ d :: u) := by
              refine decide_eq_decide.mpr ⟨fun hm => List.mem_cons_of_mem _ hm, fun hm => (List.mem_cons.mp hm).resolve_left ek⟩
            rw [this]
        have hhup : hup R (d :: u) (x_upd R gv w n (d :: u)) := fun d' S' u1 u2 u3 u4 u5 => upd_ok hin.1 gv w n (d :: u) d' S' (by rw [List.length_cons]; omega) u1 u2 u3 u4 u5
        obtain ⟨σ2, F2, c1, ad2, I2, src2, c2, c3, c4, c5, c6⟩ := c_fate (dp := u.length) hin hg hgv hw hhup (ih (d :: u) (by rw [List.length_cons]; omega)) hS hu1 hdu hb1
        have hfl := fate_le R gv w (x_upd R gv w n (d :: u)) u d S
        rw [upd_fate]
        generalize hxf : x_fate R gv w (x_upd R gv w n (d :: u)) u d S = xf at c1 c2 c3 c5 hfl ⊢
        have hd2 : d < (pN xf.2.1).length := Nat.lt_of_lt_of_le hd c3.1
        have had : ad2 d = ad d := (c3.2.1 d hd).2
        have hnx2 := c2.1.2.2.2.1.1
        obtain ⟨σ3, p1, p2, p3, p4⟩ := n_pI hnx2 hd2 (f := 10) ⟨by decide, by decide, by decide⟩ (by decide) (nI xf.1)
        obtain ⟨σ4, q1, q2, q3, q4⟩ := n_pZ p2 hd2 (f := 11) ⟨by decide, by decide, by decide⟩ (by decide) false
        have q1' : rb_pZ (fx_mk σ3 b F2) (some (ad2 d)) 12 11 (0 : Int32) = _ := q1
        have gg := n_gI q2 hd2 (f := 10) ⟨by decide, by decide, by decide⟩
        rw [up2_ne (fun hc => absurd hc.2 (by decide)), up2_eq] at gg
        rw [had] at p1 q1' gg
        have hI4 : ∀ k f, f ≠ 10 → f ≠ 11 → up2 (up2 I2 d 10 (nI xf.1)) d 11 (nI (b2 false)) k f = I2 k f := fun k f hf1 hf2 => by
          rw [up2_ne (fun hc => hf2 hc.2), up2_ne (fun hc => hf1 hc.2)]
        have hgG : ∀ k, bG (wG xf.2 d xf.1) k = up1 (bG xf.2) d xf.1 k := fun k => rfl
        refine ⟨σ4, F2, ?_, ad2, up2 (up2 I2 d 10 (nI xf.1)) d 11 (nI (b2 false)), src2, ⟨?_, c2.2.1, fun k hk => ?_, fun k hk => ?_⟩, ?_, hx_trans a3 (hx_trans c4 (hx_trans p3 q3)), ?_, c6⟩
        · unfold f_Bld_update_F f_Bld_update_j42
          rw [h0] at g10
          rw [g11, Option.bind_some, if_pos (show nI (b2 false) = 0 from rfl), if_pos hdp, g10, Option.bind_some, if_pos (show nI 0 = 0 from rfl), a1', Option.bind_some]
          simp only [↓fx_bc, ↓cI_of c1]
          rw [p1, Option.bind_some, q1', Option.bind_some, gg, Option.bind_some]
          show _ = some (some (Value.int (nI (b2 (decide (¬ bG (wG xf.2 d xf.1) d = 3))))), fx_mk σ4 b F2)
          rw [hgG, up1_eq]
          by_cases e3 : xf.1 = 3
          · rw [if_pos (show nI xf.1 = (3 : Int32) by rw [e3]; rfl), decide_eq_false (fun h => h e3)]
            rfl
          · rw [if_neg (show ¬ nI xf.1 = (3 : Int32) by rw [u_l3, u_eq (by omega) (by omega)]; exact e3), decide_eq_true e3]
            rfl
        · exact cst_I c2.1 (hx_trans p3 q3) q2 (fun k _ f hf => hI4 k f (by
            have : f = 2 ∨ f = 3 ∨ f = 4 ∨ f = 5 ∨ f = 6 ∨ f = 7 ∨ f = 9 := by simpa using hf
            omega) (by
            have : f = 2 ∨ f = 3 ∨ f = 4 ∨ f = 5 ∨ f = 6 ∨ f = 7 ∨ f = 9 := by simpa using hf
            omega))
        · rw [hgG]
          by_cases ek : k = d
          · rw [ek, up1_eq, up2_ne (fun hc => absurd hc.2 (by decide)), up2_eq, up2_eq, decide_eq_false hdu]
            exact ⟨rfl, rfl⟩
          · rw [up1_ne ek, up2_ne (fun hc => ek hc.1), up2_ne (fun hc => ek hc.1), up2_ne (fun hc => ek hc.1), up2_ne (fun hc => ek hc.1)]
            obtain ⟨f1, f2⟩ := c2.2.2.1 k hk
            refine ⟨f1, f2.trans ?_⟩
            have : decide (k ∈ d :: u) = decide (k ∈ u) := by
              refine decide_eq_decide.mpr ⟨fun hm => (List.mem_cons.mp hm).resolve_left ek, fun hm => List.mem_cons_of_mem _ hm⟩
            rw [this]
        · have hkd : k ≠ d := fun e => by
            have hk' : (pN xf.2.1).length ≤ k := hk
            omega
          rw [hgG, up1_ne hkd]
          exact c2.2.2.2 k hk
        · have hu0 : ugo u (pN S.1) ad I src (pN S.1) ad (up2 I d 11 (nI (b2 true))) src := ⟨Nat.le_refl _, fun _ _ => ⟨rfl, rfl⟩, fun k _ _ => ⟨hI1 k 12 (by decide), hI1 k 13 (by decide), hI1 k 15 (by decide), rfl⟩⟩
          have hu4 : ugo u (pN xf.2.1) ad2 I2 src2 (pN xf.2.1) ad2 (up2 (up2 I2 d 10 (nI xf.1)) d 11 (nI (b2 false))) src2 := ⟨Nat.le_refl _, fun _ _ => ⟨rfl, rfl⟩, fun k _ _ => ⟨hI4 k 12 (by decide) (by decide), hI4 k 13 (by decide) (by decide), hI4 k 15 (by decide) (by decide), rfl⟩⟩
          exact ugo_trans hu0 (ugo_trans c3 hu4)
        · exact gn_trans (gn_same a4) (gn_trans c5 (gn_same (gw_trans p4 q4)) c3.1 (Nat.le_refl _)) (Nat.le_refl _) c3.1
      · rw [if_neg (fun hc => h0 hc.1)]
        refine ⟨σ, F, ?_, bres_refl h⟩
        unfold f_Bld_update_F f_Bld_update_j42
        rw [g11, Option.bind_some, if_pos (show nI (b2 false) = 0 from rfl), if_pos hdp, g10, Option.bind_some, if_neg (show ¬ nI (bG S d) = 0 by rw [u_l0, u_eq (by omega) (by omega)]; exact h0), Option.bind_some, decide_eq_false hdu, Bool.false_or]
        by_cases e3 : bG S d = 3
        · rw [if_pos (show nI (bG S d) = (3 : Int32) by rw [e3]; rfl), decide_eq_true e3]
          rfl
        · rw [if_neg (show ¬ nI (bG S d) = (3 : Int32) by rw [u_l3, u_eq (by omega) (by omega)]; exact e3), decide_eq_false e3]
          rfl
end
