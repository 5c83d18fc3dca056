/-! the class: the expander -/
abbrev zX : List Nat := [1305, 1401]
abbrev zY : List Nat := [15, 20]
/-- what is known of macros that are empty: level, macro -/
def mem (F : fx_F) (A : Nat → Option (List Nat)) (V : Nat → List Nat) : Prop := ∀ lv m, lv < 6 → m < 26 → (F.2.1 20)[lv * 26 + m]? = some (-1 : Int32) ∨ ∃ g, g ≤ 120 ∧ (F.2.1 20)[lv * 26 + m]? = some (nI g) ∧ xm A V (6 - lv) m = some ([], g)
/-- the expander as it stands: the text, the longest, what is known -/
def xst (F : fx_F) (A : Nat → Option (List Nat)) (V : Nat → List Nat) (o : List Nat) (L : Nat) : Prop := fx_ln F ∧ tw F 14 o ∧ F.1 1305 = nI L ∧ o.length ≤ L ∧ L ≤ 1000 ∧ mem F A V ∧ tk o
/-- the longest so far is no more than that -/
def lg (F : fx_F) : Prop := ∃ L, L ≤ 1000 ∧ F.1 1305 = nI L
theorem lg_x {F : fx_F} {A : Nat → Option (List Nat)} {V : Nat → List Nat} {o : List Nat} {L : Nat} (h : xst F A V o L) : lg F := ⟨L, h.2.2.2.2.1, h.2.2.1⟩
theorem lg_fr {zi za zl : List Nat} {F F' : fx_F} (h : lg F) (hf : fr zi za zl F F') (hz : 1305 ∉ zi) : lg F' := by
  obtain ⟨L, h1, h2⟩ := h
  exact ⟨L, h1, by rw [hf.1 1305 hz]; exact h2⟩
/-- how an expansion e of a part comes out -/
def xres (F F' : fx_F) (A : Nat → Option (List Nat)) (V : Nat → List Nat) (o : List Nat) (L : Nat) (e : Option (List Nat × Nat)) : Prop := fr zX zY [] F F' ∧ fx_ln F' ∧ (∀ e1, e = some e1 → o.length + e1.2 ≤ 120 → xst F' A V (o ++ e1.1) (max L (o.length + e1.2))) ∧ lg F'
/-- whether it comes out -/
def xgood (o : List Nat) (e : Option (List Nat × Nat)) : Bool := match e with | some e1 => decide (o.length + e1.2 ≤ 120) | none => false
section
variable {σ : rb_St} {b : Nat} {F : fx_F} {A : Nat → Option (List Nat)} {gv df : Nat → Option (List Nat)}
theorem c_macro (hb : rb_b σ ≤ b) (hk : kx σ b) (hA : aok A) (hV : vok (vl gv df)) {P : fx_F → Prop} (hP : ∀ F F', fr zX zY [] F F' → P F → P F') (hPF : P F) {rT : Option Nat → Option Nat → Int32 → rb_St → Option rb_Rs} {lv : Nat} (hlv : lv ≤ 6) (hT : lv < 6 → ∀ (F : fx_F) (o : List Nat) (L a : Nat) (s : List Nat), P F → vx σ b F 18 gv → vx σ b F 19 df → xst F A (vl gv df) o L → sx σ b a s → tk s → s.length ≤ 320 → ∃ F', rT (some (fx_ad b 13)) (some a) (nI (lv + 1)) (fx_mk σ b F) = some (some (.int (nI (b2 (xgood o (xe A (vl gv df) (6 - lv - 1) s))))), fx_mk σ b F') ∧ xres F F' A (vl gv df) o L (xe A (vl gv df) (6 - lv - 1) s)) (hvl : ∀ m, (vl gv df m).length ≤ 320) (hg : vx σ b F 18 gv) (hd : vx σ b F 19 df) {o : List Nat} {L : Nat} (hX : xst F A (vl gv df) o L) {c : Nat} (hc : cap c = true) : ∃ F', f_Exp_expandMacro rT (some (fx_ad b 13)) (nI c) (nI lv) (fx_mk σ b F) = some (some (.int (nI (b2 (xgood o (xm A (vl gv df) (6 - lv) (c - 65)))))), fx_mk σ b F') ∧ xres F F' A (vl gv df) o L (xm A (vl gv df) (6 - lv) (c - 65)) := by
  have ho : tO 14 := Or.inr (Or.inl rfl)
  have hcc := of_decide_eq_true hc
  have hm26 : c - 65 < 26 := by omega
  unfold f_Exp_expandMacro
  by_cases h6 : lv = 6
  · subst h6
    refine ⟨F, ?_, fr_refl _ _ _ _, hX.1, fun e1 he => (by cases he), lg_x hX⟩
    rw [if_neg (show ¬ nI 6 < 0 by decide), if_pos (show (6 : Int32) ≤ nI 6 by decide)]
    rfl
  · have hlt : lv < 6 := by omega
    obtain ⟨x1, x2, x3, x4, x5, x6, x7⟩ := hX
    have hol := tw_len x1 x2
    rw [show tcap 14 = 120 from rfl] at hol
    have hlen := c_tlen (σ := σ) (b := b) ho x2
    have hcap := c_isCapital (fx_mk σ b F) (c := c) (by omega)
    rw [hc, b2_t] at hcap
    have hxm : xm A (vl gv df) (6 - lv) (c - 65) = xe A (vl gv df) (6 - lv - 1) (vl gv df (c - 65)) := by
      rw [show 6 - lv = (6 - lv - 1) + 1 by omega]
      rfl
    have hidx : ((nI lv * (26 : Int32)) + nI c) - (65 : Int32) = nI (lv * 26 + (c - 65)) := by
      rw [u_l26, u_mul, u_add, u_l65, u_sub (by omega)]
      congr 1
      omega
    have hl20 := x1.1 20
    simp only [fx_cI] at hl20
    rw [if_neg (show ¬ nI lv < 0 by rw [u_l0, u_lt (by omega) (by omega)]; omega), if_neg (show ¬ (6 : Int32) ≤ nI lv by rw [u_l6, u_le (by omega) (by omega)]; omega), cI_of hcap, if_neg (show ¬ nI 1 = 0 by decide)]
    rcases x6 lv (c - 65) hlt hm26 with hm | ⟨g, hg120, hm, hge⟩
    · -- not known
      have hfr1 : fr zX zY [] F (fx_I F 1305 (nI o.length)) := fr_I (fr_refl _ _ _ _) (by decide)
      have hg1 : vx σ b (fx_I F 1305 (nI o.length)) 18 gv := hg
      have hd1 : vx σ b (fx_I F 1305 (nI o.length)) 19 df := hd
      obtain ⟨s, v1, v2⟩ := c_valueOf (F := fx_I F 1305 (nI o.length)) hk hg1 hd1 hc
      have hX1 : xst (fx_I F 1305 (nI o.length)) A (vl gv df) o o.length := ⟨fx_lnI x1, tw_fr x2 (fr_I (zi := [1305]) (za := []) (zl := []) (fr_refl _ _ _ _) (by decide)) (by decide) (by decide), by rw [fx_I_1, if_pos rfl], Nat.le_refl _, by omega, x6, x7⟩
      obtain ⟨F2, t1, t2, t3, t4, t5⟩ := hT hlt (fx_I F 1305 (nI o.length)) o o.length s _ (hP _ _ hfr1 hPF) hg1 hd1 hX1 v2 (hV (c - 65)) (hvl _)
      rw [← hxm] at t1 t4
      have t1' : rT (some (fx_ad b 13)) (some s) (nI lv + (1 : Int32)) (fx_mk σ b (fx_I F 1305 (nI o.length))) = some (some (.int (nI (b2 (xgood o (xm A (vl gv df) (6 - lv) (c - 65)))))), fx_mk σ b F2) := by
        rw [u_l1, u_add]
        exact t1
      have hfr2 : fr zX zY [] F F2 := fr_trans hfr1 t2
      cases hgd : xgood o (xm A (vl gv df) (6 - lv) (c - 65)) with
      | false =>
        rw [hgd, b2_f] at t1'
        refine ⟨F2, ?_, hfr2, t3, fun e1 he hle => ?_, t5⟩
        · simp (disch := omega) only [↓fx_bc, ↓cI_of hlen, hidx, ↓bx_of hidx (show lv * 26 + (c - 65) < 2147483648 by omega) hm, ↓reduceIte, ↓fx_vc hb, ↓cR_of v1, ↓cI_of t1', show (nI 0 = 0) = True from eq_true rfl]
          rfl
        · rw [he] at hgd
          exact absurd hle (of_decide_eq_false hgd)
      | true =>
        rw [hgd, b2_t] at t1'
        cases hxe : xm A (vl gv df) (6 - lv) (c - 65) with
        | none =>
          rw [hxe] at hgd
          cases hgd
        | some e1 =>
          rw [hxe] at hgd t4
          have hfit : o.length + e1.2 ≤ 120 := of_decide_eq_true hgd
          obtain ⟨y1, y2, y3, y4, y5, y6, y7⟩ := t4 e1 rfl hfit
          have hge1 : e1.1.length ≤ e1.2 := xe_ge _ _ _ (hxm ▸ hxe)
          have hlen2 := c_tlen (σ := σ) (b := b) ho y2
          have hmax : max o.length (o.length + e1.2) = o.length + e1.2 := by omega
          rw [hmax] at y3 y4 y5
          have hmx : rb_mx (nI (o.length + e1.2)) (nI L) = nI (max L (o.length + e1.2)) := by
            unfold rb_mx
            by_cases e : o.length + e1.2 < L
            · rw [if_pos (show nI (o.length + e1.2) < nI L by rw [u_lt (by omega) (by omega)]; exact e)]
              congr 1
              omega
            · rw [if_neg (show ¬ nI (o.length + e1.2) < nI L by rw [u_lt (by omega) (by omega)]; exact e)]
              congr 1
              omega
          have hl20' := y1.1 20
          simp only [fx_cI] at hl20'
          by_cases hemp : e1.1 = []
          · -- it is noted
            generalize hF3 : fx_I (fx_A F2 20 ((F2.2.1 20).set (lv * 26 + (c - 65)) (nI e1.2))) 1305 (nI (max L (o.length + e1.2))) = F3
            have hfr3 : fr zX zY [] F2 F3 := by
              subst hF3
              exact fr_I (fr_A (fr_refl _ _ _ _) (by decide)) (by decide)
            have hln3 : fx_ln F3 := by
              subst hF3
              exact fx_lnI (fx_lnA y1 (by rw [List.length_set]; exact y1.1 _))
            have hlg3 : lg F3 := ⟨max L (o.length + e1.2), by omega, by subst hF3; rw [fx_I_1, if_pos rfl]⟩
            refine ⟨F3, ?_, fr_trans hfr2 hfr3, hln3, fun e2 he2 hle2 => ?_, hlg3⟩
            · have hsb : nI (o.length + e1.2) - nI o.length = nI e1.2 := by
                rw [u_sub (by omega)]
                congr 1
                omega
              rw [hemp, List.append_nil] at hlen2
              subst hF3
              simp (disch := omega) only [↓fx_bc, ↓cI_of hlen, hidx, ↓bx_of hidx (show lv * 26 + (c - 65) < 2147483648 by omega) hm, ↓reduceIte, ↓fx_vc hb, ↓cR_of v1, ↓cI_of t1', ↓cI_of hlen2, show (nI 1 = 0) = False from eq_false (by decide), x3, y3, hsb, f_Exp_expandMacro_j142, hmx, fx_A_1, u_cl, u_nar2, u_l0, u_lt, n_ltF, n_ltT, not_false_eq_true, and_true, true_and, u_l1]
              rfl
            · injection he2 with he2
              subst he2
              rw [hemp, List.append_nil]
              refine ⟨hln3, ?_, ?_, by omega, by omega, ?_, x7⟩
              · rw [hemp, List.append_nil] at y2
                subst hF3
                exact tw_fr (F := F2) y2 (fr_I (zi := [1305]) (za := [20]) (zl := []) (fr_A (fr_refl _ _ _ _) (by decide)) (by decide)) (by decide) (by decide)
              · subst hF3
                rw [fx_I_1, if_pos rfl]
              · intro l2 m2 hl2 hm2
                have hrow : F3.2.1 20 = (F2.2.1 20).set (lv * 26 + (c - 65)) (nI e1.2) := by
                  subst hF3
                  rw [fx_I_A, fx_A_A, if_pos rfl]
                rw [hrow, set_get (by omega)]
                by_cases ei : l2 * 26 + m2 = lv * 26 + (c - 65)
                · have e3 : l2 = lv := by omega
                  have e4 : m2 = c - 65 := by omega
                  rw [if_pos ei, e3, e4]
                  refine Or.inr ⟨e1.2, by omega, rfl, ?_⟩
                  rw [hxe, ← hemp]
                · rw [if_neg ei]
                  exact y6 l2 m2 hl2 hm2
          · generalize hF3 : fx_I F2 1305 (nI (max L (o.length + e1.2))) = F3
            have hfr3 : fr zX zY [] F2 F3 := by
              subst hF3
              exact fr_I (fr_refl _ _ _ _) (by decide)
            have hln3 : fx_ln F3 := by
              subst hF3
              exact fx_lnI y1
            have hpos : 0 < e1.1.length := List.length_pos_iff.mpr hemp
            have hlg3 : lg F3 := ⟨max L (o.length + e1.2), by omega, by subst hF3; rw [fx_I_1, if_pos rfl]⟩
            refine ⟨F3, ?_, fr_trans hfr2 hfr3, hln3, fun e2 he2 hle2 => ?_, hlg3⟩
            · have hne : ¬ nI (o ++ e1.1).length = nI o.length := by
                rw [List.length_append, u_eq (by omega) (by omega)]
                omega
              subst hF3
              simp (disch := omega) only [↓fx_bc, ↓cI_of hlen, hidx, ↓bx_of hidx (show lv * 26 + (c - 65) < 2147483648 by omega) hm, ↓reduceIte, ↓fx_vc hb, ↓cR_of v1, ↓cI_of t1', ↓cI_of hlen2, show (nI 1 = 0) = False from eq_false (by decide), x3, y3, hne, f_Exp_expandMacro_j142, hmx, u_l1]
              rfl
            · injection he2 with he2
              subst he2
              refine ⟨hln3, ?_, ?_, by rw [List.length_append]; omega, by omega, ?_, y7⟩
              · subst hF3
                exact tw_fr (F := F2) y2 (fr_I (zi := [1305]) (za := []) (zl := []) (fr_refl _ _ _ _) (by decide)) (by decide) (by decide)
              · subst hF3
                rw [fx_I_1, if_pos rfl]
              · subst hF3
                exact y6
    · -- known
      generalize hF1 : fx_I F 1305 (nI (max L (o.length + g))) = F1
      have hmx : rb_mx (nI L) (nI (o.length + g)) = nI (max L (o.length + g)) := by
        unfold rb_mx
        by_cases e : L < o.length + g
        · rw [if_pos (show nI L < nI (o.length + g) by rw [u_lt (by omega) (by omega)]; exact e)]
          congr 1
          omega
        · rw [if_neg (show ¬ nI L < nI (o.length + g) by rw [u_lt (by omega) (by omega)]; exact e)]
          congr 1
          omega
      rw [hge]
      refine ⟨F1, ?_, ?_, ?_, fun e1 he1 hle1 => ?_, ⟨max L (o.length + g), by omega, by subst hF1; rw [fx_I_1, if_pos rfl]⟩⟩
      · have hne : ¬ nI g = (-1 : Int32) := by
          rw [u_nm1 (by omega)]
          exact id
        subst hF1
        by_cases hfit : o.length + g ≤ 120
        · have hxg : xgood o (some ([], g)) = true := decide_eq_true hfit
          rw [hxg, b2_t]
          simp (disch := omega) only [↓fx_bc, ↓cI_of hlen, hidx, ↓bx_of hidx (show lv * 26 + (c - 65) < 2147483648 by omega) hm, bx_of (rfl : nI (lv * 26 + (c - 65)) = nI (lv * 26 + (c - 65))) (show lv * 26 + (c - 65) < 2147483648 by omega) hm, hne, ↓reduceIte, ↓fx_vc hb, x3, u_add, hmx, u_l120, u_lt, n_ltF, fx_I_A]
          rfl
        · have hxg : xgood o (some ([], g)) = false := decide_eq_false hfit
          rw [hxg, b2_f]
          simp (disch := omega) only [↓fx_bc, ↓cI_of hlen, hidx, ↓bx_of hidx (show lv * 26 + (c - 65) < 2147483648 by omega) hm, bx_of (rfl : nI (lv * 26 + (c - 65)) = nI (lv * 26 + (c - 65))) (show lv * 26 + (c - 65) < 2147483648 by omega) hm, hne, ↓reduceIte, ↓fx_vc hb, x3, u_add, hmx, u_l120, u_lt, n_ltT, fx_I_A]
          rfl
      · subst hF1
        exact fr_I (fr_refl _ _ _ _) (by decide)
      · subst hF1
        exact fx_lnI x1
      · injection he1 with he1
        subst he1
        simp only [List.append_nil] at hle1 ⊢
        subst hF1
        exact ⟨fx_lnI x1, tw_fr x2 (fr_I (zi := [1305]) (za := []) (zl := []) (fr_refl _ _ _ _) (by decide)) (by decide) (by decide), by rw [fx_I_1, if_pos rfl], by omega, by omega, x6, x7⟩
end
