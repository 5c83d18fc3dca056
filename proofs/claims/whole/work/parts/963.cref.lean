/-! the class: references -/
section
variable {σ : rb_St} {b : Nat} {F : fx_F} {A : Nat → Option (List Nat)} {gv df : Nat → Option (List Nat)} {P : fx_F → Prop} {rT : Option Nat → Option Nat → Int32 → rb_St → Option rb_Rs} {lv : Nat} {o : List Nat} {L : Nat}
theorem c_bracket (hb : rb_b σ ≤ b) (hk : kx σ b) (hA : aok A) (hV : vok (vl gv df)) (hP : ∀ F F', fr zX zY [] F F' → P F → P F') (hPF : P F) (hlv : lv ≤ 6) (hT : rTok σ b A gv df P lv rT) (hvl : ∀ m, (vl gv df m).length ≤ 320) (hg : vx σ b F 18 gv) (hd : vx σ b F 19 df) (hX : xst F A (vl gv df) o L) {a : Nat} {s : List Nat} (hs : sx σ b a s) (hts : tk s) (hsl : s.length ≤ 320) {i : Nat} (hi : i + 2 ≤ s.length) : ∃ F', f_Exp_expandBracket rT (some (fx_ad b 13)) (some a) (nI i) (nI lv) (fx_mk σ b F) = some (some (.int (rfv s o A (vl gv df) (6 - lv) (brk (s.drop (i + 2))))), fx_mk σ b F') ∧ yres F F' A (vl gv df) o L (rfe A (vl gv df) (6 - lv) (brk (s.drop (i + 2)))) := by
  have ho : tO 14 := Or.inr (Or.inl rfl)
  rw [brk_drop s (i + 2) hi]
  have hlen := c_len (F := F) hs
  obtain ⟨v, rest, k1, k2, k3, k4, k5, k6⟩ := hs.2.2
  have hfc : ∀ G, rb_fc (fx_mk σ b G) (some a) 14 = some (.ref v :: .int 0 :: rest) := fun G => fo_fk (F := G) hs.1 k3
  rw [show i + 2 + 1 = i + 3 from rfl, show i + 2 + 2 = i + 4 from rfl]
  have hC0 := c_placeOf (F := F) hs (c := 41) (by decide) (p := i + 3) (by omega)
  have hE0 := c_placeOf (F := F) hs (c := 61) (by decide) (p := i + 3) (by omega)
  have hCle : clo s (i + 3) ≤ s.length := by
    by_cases h : i + 3 ≤ s.length
    · exact (fi_le h).2
    · exact Nat.le_of_eq (fi_end (by omega))
  have hEle : eqs s (i + 3) ≤ s.length := by
    by_cases h : i + 3 ≤ s.length
    · exact (fi_le h).2
    · exact Nat.le_of_eq (fi_end (by omega))
  have hC : f_Exp_placeOf (some a) (41 : Int32) (nI i + (3 : Int32)) (fx_mk σ b F) = some (some (.int (nI (clo s (i + 3)))), fx_mk σ b F) := by
    rw [u_l41, u_l3, u_add]
    exact hC0
  have hE : f_Exp_placeOf (some a) (61 : Int32) (nI i + (3 : Int32)) (fx_mk σ b F) = some (some (.int (nI (eqs s (i + 3)))), fx_mk σ b F) := by
    rw [u_l61, u_l3, u_add]
    exact hE0
  have hnot : ∀ (x : Option xI) (F' : fx_F), fr zX zY [] F F' → fx_ln F' → lg F' → x = none → yres F F' A (vl gv df) o L (rfe A (vl gv df) (6 - lv) x) := fun x F' h1 h2 h4 h3 => ⟨h1, h2, fun e1 he => (by rw [h3] at he; cases he), h4⟩
  unfold f_Exp_expandBracket
  rw [cI_of hC, hfc, Option.bind_some, cI_of hlen]
  by_cases h1 : clo s (i + 3) = s.length
  · rw [if_pos (Or.inl h1), if_pos (by rw [h1])]
    exact ⟨F, rfl, hnot _ F (fr_refl _ _ _ _) hX.1 (lg_x hX) rfl⟩
  · have hClt : clo s (i + 3) < s.length := by omega
    have hi3 : i + 3 ≤ clo s (i + 3) := by
      by_cases h : i + 3 ≤ s.length
      · exact (fi_le h).1
      · exact absurd (fi_end (by omega)) h1
    have hch : f_Str_charAt (some a) (nI i + (2 : Int32)) (fx_mk σ b F) = some (some (.int (nI (s.getD (i + 2) 0))), fx_mk σ b F) := by
      rw [u_l2, u_add]
      exact c_charAt (F := F) hs (by omega)
    have hc128 := k5 _ (getD_mem (d := 0) (show i + 2 < s.length by omega))
    have hcap := c_isCapital (fx_mk σ b F) (c := s.getD (i + 2) 0) (by omega)
    rw [if_neg (show ¬ nI (clo s (i + 3)) = nI s.length by rw [u_eq (by omega) (by omega)]; exact h1), hfc, Option.bind_some, cI_of hch, cI_of hcap]
    by_cases h2 : cap (s.getD (i + 2) 0) = false
    · rw [if_pos (Or.inr h2), h2, b2_f, if_pos (show nI 0 = 0 from rfl)]
      exact ⟨F, rfl, hnot _ F (fr_refl _ _ _ _) hX.1 (lg_x hX) rfl⟩
    · have h2' : cap (s.getD (i + 2) 0) = true := by
        cases h : cap (s.getD (i + 2) 0)
        · exact absurd h h2
        · rfl
      rw [if_neg (show ¬ (clo s (i + 3) = s.length ∨ cap (s.getD (i + 2) 0) = false) by rintro (h | h); exact h1 h; exact h2 h), h2', b2_t, if_neg (show ¬ nI 1 = 0 by decide), cI_of hE, show nI i + (3 : Int32) = nI (i + 3) by rw [u_l3, u_add]]
      obtain ⟨F1, m1, m2⟩ := c_macro hb hk hA hV hP hPF hlv hT hvl hg hd hX h2'
      have hltxt := c_tlen (σ := σ) (b := b) ho hX.2.1
      have hdr : s.length - (s.drop (clo s (i + 3) + 1)).length - 1 = clo s (i + 3) := by
        rw [List.length_drop]
        omega
      have hge : ∀ e, xm A (vl gv df) (6 - lv) (s.getD (i + 2) 0 - 65) = some e → e.1.length ≤ e.2 := fun e he => xm_ge _ _ e he
      by_cases h3 : clo s (i + 3) = i + 3
      · rw [if_pos h3, if_pos (show nI (clo s (i + 3)) ≤ nI (i + 3) by rw [h3]; exact nI_le (Nat.le_refl _) (by omega))]
        have hev : evI A (vl gv df) (6 - lv) (.inr (s.getD (i + 2) 0 - 65, none)) = xm A (vl gv df) (6 - lv) (s.getD (i + 2) 0 - 65) := by
          unfold evI
          show Option.map (fun e => rpx e none) _ = _
          cases xm A (vl gv df) (6 - lv) (s.getD (i + 2) 0 - 65) <;> rfl
        refine ⟨F1, ?_, ?_⟩
        · unfold f_Exp_expandBracket_j61 f_Exp_expandBracket_j88 rfv
          rw [if_pos rfl]
          show _ = some (some (Value.int (if xgood o (evI A (vl gv df) (6 - lv) (.inr (s.getD (i + 2) 0 - 65, none))) = true then nI (s.length - (s.drop (clo s (i + 3) + 1)).length - 1) else -1)), _)
          rw [hev, hdr]
          simp only [↓fx_bc, ↓cI_of hltxt, hfc, Option.bind_some, ↓cI_of hch, ↓cI_of m1]
          cases hxg : xgood o (xm A (vl gv df) (6 - lv) (s.getD (i + 2) 0 - 65)) with
          | true => rw [b2_t, if_neg (show ¬ nI 1 = 0 by decide), if_pos rfl]; rfl
          | false => rw [b2_f, if_pos (show nI 0 = 0 from rfl)]; rfl
        · show yres F F1 A _ o L (evI A (vl gv df) (6 - lv) (.inr (s.getD (i + 2) 0 - 65, none)))
          rw [hev]
          exact xst_yres hge m2
      · rw [if_neg h3, if_neg (show ¬ nI (clo s (i + 3)) ≤ nI (i + 3) by rw [u_le (by omega) (by omega)]; omega)]
        unfold f_Exp_expandBracket_j61
        have hch3 := c_charAt (F := F) hs (i := i + 3) (by omega)
        have hc3 := k5 _ (getD_mem (d := 0) (show i + 3 < s.length by omega))
        rw [if_neg (show ¬ (1 : Int32) = 0 by decide), hfc, Option.bind_some, cI_of hch3]
        by_cases h4 : s.getD (i + 3) 0 = 58
        · rw [if_pos (show nI (s.getD (i + 3) 0) = (58 : Int32) by rw [h4]; rfl)]
          by_cases h5 : eqs s (i + 3) ≤ clo s (i + 3)
          · have hElt : eqs s (i + 3) < s.length := by omega
            have hE61 : s.getD (eqs s (i + 3)) 0 = 61 := of_decide_eq_true (fi_P (P := fun k => decide (s.getD k 0 = 61)) (n := s.length) (k := i + 3) hElt)
            have hC41 : s.getD (clo s (i + 3)) 0 = 41 := of_decide_eq_true (fi_P (P := fun k => decide (s.getD k 0 = 41)) (n := s.length) (k := i + 3) hClt)
            have hne : eqs s (i + 3) ≠ clo s (i + 3) := fun h => by
              rw [h, hC41] at hE61
              cases hE61
            have hEge : i + 3 ≤ eqs s (i + 3) := (fi_le (by omega)).1
            have hE3 : eqs s (i + 3) ≠ i + 3 := fun h => by
              rw [h, h4] at hE61
              cases hE61
            rw [if_pos (show _ ∧ _ from ⟨h4, h5⟩), if_pos (show nI (eqs s (i + 3)) ≤ nI (clo s (i + 3)) from nI_le h5 (by omega))]
            unfold f_Exp_expandBracket_j88
            simp only [↓fx_bc, ↓cI_of hltxt, hfc, Option.bind_some, ↓cI_of hch, ↓cI_of m1]
            show ∃ F', _ = some (some (Value.int (if xgood o (evI A (vl gv df) (6 - lv) (.inr (s.getD (i + 2) 0 - 65, some (slc s (i + 4) (eqs s (i + 3)), slc s (eqs s (i + 3) + 1) (clo s (i + 3)))))) = true then nI (s.length - (s.drop (clo s (i + 3) + 1)).length - 1) else -1)), fx_mk σ b F') ∧ yres F F' A (vl gv df) o L (evI A (vl gv df) (6 - lv) (.inr (s.getD (i + 2) 0 - 65, some (slc s (i + 4) (eqs s (i + 3)), slc s (eqs s (i + 3) + 1) (clo s (i + 3))))))
            rw [hdr]
            generalize hu : slc s (i + 4) (eqs s (i + 3)) = u
            generalize hw : slc s (eqs s (i + 3) + 1) (clo s (i + 3)) = w
            have htw : tk w := hw ▸ slc_tk hts _ _
            unfold evI
            show ∃ F', _ = some (some (Value.int (if xgood o ((xm A (vl gv df) (6 - lv) (s.getD (i + 2) 0 - 65)).map (fun e => rpx e (some (u, w)))) = true then _ else _)), fx_mk σ b F') ∧ yres F F' A (vl gv df) o L ((xm A (vl gv df) (6 - lv) (s.getD (i + 2) 0 - 65)).map (fun e => rpx e (some (u, w))))
            cases hxm : xm A (vl gv df) (6 - lv) (s.getD (i + 2) 0 - 65) with
            | none =>
              rw [hxm] at m2
              refine ⟨F1, ?_, m2.1, m2.2.1, fun e1 he => (by cases he), m2.2.2.2⟩
              rw [show b2 (xgood o none) = 0 from rfl, if_pos (show nI 0 = 0 from rfl)]
              rfl
            | some e =>
              rw [hxm] at m2
              have hel := hge e hxm
              by_cases hfit : o.length + e.2 ≤ 120
              · obtain ⟨x1, x2, x3, x4, x5, x6, x7⟩ := m2.2.2.1 e rfl hfit
                obtain ⟨F2, r1, r2, r3, r4⟩ := c_replaceEnds hb x1 hs (by omega) (i := i + 4) (e := eqs s (i + 3)) (cl := clo s (i + 3)) (by omega) (by omega) hCle (O := o) (y := e.1) x2 (fun c hc => ((tk_ok x7) c hc).2)
                rw [hu, hw] at r1 r2
                have hfr : fr zX zY [] F1 F2 := fr_mono r4 (by decide) (by decide) (by decide)
                refine ⟨F2, ?_, fr_trans m2.1 hfr, r3, fun e1 he hle => ?_, lg_fr m2.2.2.2 r4 (by decide)⟩
                · rw [show xgood o (some e) = true from decide_eq_true hfit, b2_t, if_neg (show ¬ nI 1 = 0 by decide), if_neg (show ¬ (1 : Int32) = 0 by decide), show nI (i + 3) + (1 : Int32) = nI (i + 4) by rw [u_l1, u_add], cI_of r1]
                  show _ = some (some (Value.int (if decide (o.length + max e.2 (rpF u w [] e.1).length ≤ 120) = true then _ else _)), _)
                  by_cases hf2 : o.length + (rpF u w [] e.1).length ≤ 120
                  · rw [decide_eq_true hf2, b2_t, if_neg (show ¬ nI 1 = 0 by decide), if_pos (decide_eq_true (by omega))]
                  · rw [decide_eq_false hf2, b2_f, if_pos (show nI 0 = 0 from rfl), if_neg (by simp; omega)]
                · injection he with he
                  subst he
                  have hle2 : o.length + max e.2 (rpF u w [] e.1).length ≤ 120 := hle
                  refine ⟨max L (o.length + e.2), r2 (by omega), by rw [r4.1 1305 (by decide)]; exact x3, ?_, by omega, mem_fr x6 (r4.2.1 20 (by decide)), ?_⟩
                  · show max (max L (o.length + e.2)) (o.length + (rpF u w [] e.1).length) = max L (o.length + max e.2 (rpF u w [] e.1).length)
                    omega
                  · exact tk_app (fun c hc => x7 c (by simp [hc])) (rpF_tk htw _ _ (fun c hc => by cases hc) (fun c hc => x7 c (by simp [hc])))
              · refine ⟨F1, ?_, m2.1, m2.2.1, fun e1 he hle => ?_, m2.2.2.2⟩
                · rw [show xgood o (some e) = false from decide_eq_false hfit, b2_f, if_pos (show nI 0 = 0 from rfl)]
                  show _ = some (some (Value.int (if decide (o.length + max e.2 (rpF u w [] e.1).length ≤ 120) = true then _ else _)), _)
                  rw [if_neg (by simp; omega)]
                · injection he with he
                  subst he
                  have hle2 : o.length + max e.2 (rpF u w [] e.1).length ≤ 120 := hle
                  omega
          · rw [if_neg (show ¬ (s.getD (i + 3) 0 = 58 ∧ eqs s (i + 3) ≤ clo s (i + 3)) from fun h => h5 h.2), if_neg (show ¬ nI (eqs s (i + 3)) ≤ nI (clo s (i + 3)) by rw [u_le (by omega) (by omega)]; exact h5)]
            exact ⟨F, rfl, hnot _ F (fr_refl _ _ _ _) hX.1 (lg_x hX) rfl⟩
        · rw [if_neg (show ¬ (s.getD (i + 3) 0 = 58 ∧ eqs s (i + 3) ≤ clo s (i + 3)) from fun h => h4 h.1), if_neg (show ¬ nI (s.getD (i + 3) 0) = (58 : Int32) by rw [u_l58, u_eq (by omega) (by omega)]; exact h4)]
          exact ⟨F, rfl, hnot _ F (fr_refl _ _ _ _) hX.1 (lg_x hX) rfl⟩
end
