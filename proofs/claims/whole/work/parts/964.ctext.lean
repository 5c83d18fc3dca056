/-! the class: a text is expanded -/
/-- how the automatic macros come out -/
def AU (σ : rb_St) (b : Nat) (A : Nat → Option (List Nat)) (V : Nat → List Nat) (F : fx_F) : Prop := A 0 = none ∧ ((F.2.2.2.1 1306 = none ∧ ∀ d, A d = none) ∨ (F.2.2.2.1 1306 ≠ none ∧ ∀ (F1 : fx_F) (o : List Nat) (L d : Nat), fr zX zY [] F F1 → xst F1 A V o L → d < 128 → ∃ F', f_Exp_addAutomatic (some (fx_ad b 13)) (nI d) (fx_mk σ b F1) = some (some (.int (nI (b2 (xgood o ((A d).map (fun l => (l, l.length))))))), fx_mk σ b F') ∧ fx_ln F' ∧ fr [1401] [15] [] F1 F' ∧ ∀ l, A d = some l → o.length + l.length ≤ 120 → tw F' 14 (o ++ l)))
theorem AU_fr {σ : rb_St} {b : Nat} {A : Nat → Option (List Nat)} {V : Nat → List Nat} (F F' : fx_F) (hf : fr zX zY [] F F') (h : AU σ b A V F) : AU σ b A V F' := by
  have hR : F'.2.2.2.1 1306 = F.2.2.2.1 1306 := by rw [hf.2.2.2]
  refine ⟨h.1, ?_⟩
  rcases h.2 with ⟨h1, h2⟩ | ⟨h1, h2⟩
  · exact Or.inl ⟨by rw [hR]; exact h1, h2⟩
  · exact Or.inr ⟨by rw [hR]; exact h1, fun F1 o L d hf1 => h2 F1 o L d (fr_trans hf hf1)⟩
section
variable {σ : rb_St} {b : Nat} {F : fx_F} {A : Nat → Option (List Nat)} {gv df : Nat → Option (List Nat)} {rT : Option Nat → Option Nat → Int32 → rb_St → Option rb_Rs} {lv : Nat} {o : List Nat} {L : Nat}
theorem c_ref (hb : rb_b σ ≤ b) (hk : kx σ b) (hA : aok A) (hV : vok (vl gv df)) (hU : AU σ b A (vl gv df) F) (hlv : lv ≤ 6) (hT : rTok σ b A gv df (AU σ b A (vl gv df)) lv rT) (hvl : ∀ m, (vl gv df m).length ≤ 320) (hg : vx σ b F 18 gv) (hd : vx σ b F 19 df) (hX : xst F A (vl gv df) o L) {a : Nat} {s : List Nat} (hs : sx σ b a s) (hts : tk s) (hsl : s.length ≤ 320) {i : Nat} (hi : i < s.length) : ∃ F', f_Exp_expandReference rT (some (fx_ad b 13)) (some a) (nI i) (nI lv) (fx_mk σ b F) = some (some (.int (rfv s o A (vl gv df) (6 - lv) (dlr A (s.drop (i + 1))))), fx_mk σ b F') ∧ yres F F' A (vl gv df) o L (rfe A (vl gv df) (6 - lv) (dlr A (s.drop (i + 1)))) := by
  have ho : tO 14 := Or.inr (Or.inl rfl)
  have hlen := c_len (F := F) hs
  obtain ⟨v, rest, k1, k2, k3, k4, k5, k6⟩ := hs.2.2
  have hfc : ∀ G, rb_fc (fx_mk σ b G) (some a) 14 = some (.ref v :: .int 0 :: rest) := fun G => fo_fk (F := G) hs.1 k3
  obtain ⟨x1, x2, x3, x4, x5, x6, x7⟩ := hX
  have hX : xst F A (vl gv df) o L := ⟨x1, x2, x3, x4, x5, x6, x7⟩
  -- what is not a bracket, a dollar or a capital
  have hother : ∀ d, d < 128 → d ≠ 40 → d ≠ 36 → cap d = false → ∀ r : List Nat, (A d ≠ none → s.length - r.length - 1 = i + 1) → ∃ F', f_Exp_expandReference_j21 rT (some (fx_ad b 13)) (some a) (nI i) (nI lv) (nI d) (fx_mk σ b F) = some (some (.int (rfv s o A (vl gv df) (6 - lv) ((A d).map (fun l => (.inl l, r))))), fx_mk σ b F') ∧ yres F F' A (vl gv df) o L (rfe A (vl gv df) (6 - lv) ((A d).map (fun l => (.inl l, r)))) := by
    intro d hd1 hd2 hd3 hd4 r hr
    have hcap := c_isCapital (fx_mk σ b F) (c := d) (by omega)
    rw [hd4, b2_f] at hcap
    unfold f_Exp_expandReference_j21
    rw [if_neg (show ¬ nI d = (40 : Int32) by rw [u_l40, u_eq (by omega) (by omega)]; exact hd2), if_neg (show ¬ nI d = (36 : Int32) by rw [u_l36, u_eq (by omega) (by omega)]; exact hd3), cI_of hcap, if_pos (show nI 0 = 0 from rfl)]
    rcases hU.2 with ⟨h1, h2⟩ | ⟨h1, h2⟩
    · rw [h2 d]
      refine ⟨F, ?_, fr_refl _ _ _ _, x1, fun e1 he => (by cases he), lg_x hX⟩
      simp only [↓fx_bc, h1, if_true]
      rfl
    · obtain ⟨F1, a1, a2, a3, a4⟩ := h2 F o L d (fr_refl _ _ _ _) hX hd1
      have hfr : fr zX zY [] F F1 := fr_mono a3 (by decide) (by decide) (by decide)
      simp only [↓fx_bc, h1, if_false, ↓cI_of a1]
      cases hAd : A d with
      | none =>
        refine ⟨F1, ?_, hfr, a2, fun e1 he => (by cases he), lg_fr (lg_x hX) a3 (by decide)⟩
        rfl
      | some l =>
        rw [hAd] at hr a4
        refine ⟨F1, ?_, hfr, a2, fun e1 he hle => ?_, lg_fr (lg_x hX) a3 (by decide)⟩
        · show _ = some (some (Value.int (if xgood o (some (l, l.length)) = true then nI (s.length - r.length - 1) else -1)), _)
          rw [hr (by simp), Option.map_some]
          cases xgood o (some (l, l.length)) with
          | true =>
            rw [b2_t, if_neg (show ¬ nI 1 = 0 by decide), if_pos rfl]
            unfold f_Exp_expandReference_j100 f_Exp_expandReference_j102
            rw [if_neg (show ¬ (1 : Int32) = 0 by decide), u_l1, u_add]
          | false => rw [b2_f, if_pos (show nI 0 = 0 from rfl)]; rfl
        · injection he with he
          subst he
          refine ⟨L, a4 l rfl hle, by rw [a3.1 1305 (by decide)]; exact x3, rfl, x5, mem_fr x6 (a3.2.1 20 (by decide)), tk_app x7 (hA d l hAd)⟩
  unfold f_Exp_expandReference
  rw [hfc, Option.bind_some, cI_of hlen, show nI i + (1 : Int32) = nI (i + 1) by rw [u_l1, u_add]]
  by_cases h1 : s.length ≤ i + 1
  · rw [if_pos (nI_le h1 (by omega)), List.drop_eq_nil_of_le h1]
    have h := hother 0 (by decide) (by decide) (by decide) (by decide) [] (fun h => absurd hU.1 h)
    rw [hU.1] at h
    exact h
  · have hi1 : i + 1 < s.length := by omega
    have hch := c_charAt (F := F) hs (i := i + 1) hi1
    have hc128 := k5 _ (getD_mem (d := 0) hi1)
    rw [if_neg (show ¬ nI s.length ≤ nI (i + 1) by rw [u_le (by omega) (by omega)]; exact h1), hfc, Option.bind_some, cI_of hch]
    have hdr : s.drop (i + 1) = s.getD (i + 1) 0 :: s.drop (i + 2) := by
      have := slc_drop (o := s) (p := i + 1) (q := i + 2) (by omega)
      rw [this, slc_cons (by omega) (by omega), slc_self]
      rfl
    rw [hdr, dlr]
    generalize hdd : s.getD (i + 1) 0 = d at hc128
    have hrl : s.length - (s.drop (i + 2)).length - 1 = i + 1 := by
      rw [List.length_drop]
      omega
    by_cases e36 : d = 36
    · rw [if_pos e36, e36]
      obtain ⟨F1, a1, a2, a3, a4⟩ := c_add (σ := σ) ho hb x1 x2 (c := 36) (by decide)
      rw [show tcap 14 = 120 from rfl] at a1 a2
      have hfr : fr zX zY [] F F1 := fr_mono a4 (by decide) (by decide) (by decide)
      refine ⟨F1, ?_, hfr, a3, fun e1 he hle => ?_, lg_fr (lg_x hX) a4 (by decide)⟩
      · show _ = some (some (Value.int (if decide (o.length + 1 ≤ 120) = true then nI (s.length - (s.drop (i + 2)).length - 1) else -1)), _)
        rw [hrl]
        unfold f_Exp_expandReference_j21
        rw [if_neg (show ¬ nI 36 = (40 : Int32) by decide), if_pos (show nI 36 = (36 : Int32) from rfl)]
        simp only [↓fx_bc, ↓(show ∀ {β : Type} (f : List Value → Option β), (rb_fc (fx_mk σ b F) (some (fx_ad b 14)) 2).bind f = f (fx_row b F 14) from (t_b ho).1)]
        rw [show (36 : Int32) = nI 36 from rfl, cI_of a1]
        unfold f_Exp_expandReference_j102
        by_cases hf : o.length < 120
        · rw [decide_eq_true hf, b2_t, if_neg (show ¬ nI 1 = 0 by decide), if_pos (decide_eq_true (by omega)), u_l1, u_add]
        · rw [decide_eq_false hf, b2_f, if_pos (show nI 0 = 0 from rfl), if_neg (by simp; omega)]
      · injection he with he
        subst he
        have hle2 : o.length + 1 ≤ 120 := hle
        rw [if_pos (by omega)] at a2
        refine ⟨L, a2, by rw [a4.1 1305 (by decide)]; exact x3, rfl, x5, mem_fr x6 (a4.2.1 20 (by decide)), ?_⟩
        refine tk_app x7 (fun c hc => ?_)
        have : c = 36 := by simpa using hc
        subst this
        rfl
    · rw [if_neg e36]
      by_cases ecap : cap d = true
      · rw [if_pos ecap]
        obtain ⟨F1, m1, m2⟩ := c_macro hb hk hA hV (fun F F' => AU_fr F F') hU hlv hT hvl hg hd hX ecap
        have hcap := c_isCapital (fx_mk σ b F) (c := d) (by omega)
        rw [ecap, b2_t] at hcap
        have hcc := of_decide_eq_true ecap
        have hev : evI A (vl gv df) (6 - lv) (.inr (d - 65, none)) = xm A (vl gv df) (6 - lv) (d - 65) := by
          unfold evI
          show Option.map (fun e => rpx e none) _ = _
          cases xm A (vl gv df) (6 - lv) (d - 65) <;> rfl
        refine ⟨F1, ?_, ?_⟩
        · show _ = some (some (Value.int (if xgood o (evI A (vl gv df) (6 - lv) (.inr (d - 65, none))) = true then nI (s.length - (s.drop (i + 2)).length - 1) else -1)), _)
          rw [hev, hrl]
          unfold f_Exp_expandReference_j21
          rw [if_neg (show ¬ nI d = (40 : Int32) by rw [u_l40, u_eq (by omega) (by omega)]; omega), if_neg (show ¬ nI d = (36 : Int32) by rw [u_l36, u_eq (by omega) (by omega)]; exact e36), cI_of hcap, if_neg (show ¬ nI 1 = 0 by decide)]
          simp only [↓fx_bc, ↓cI_of m1]
          unfold f_Exp_expandReference_j102
          cases hxg : xgood o (xm A (vl gv df) (6 - lv) (d - 65)) with
          | true => rw [b2_t, if_neg (show ¬ nI 1 = 0 by decide), if_pos rfl, u_l1, u_add]
          | false => rw [b2_f, if_pos (show nI 0 = 0 from rfl)]; rfl
        · show yres F F1 A _ o L (evI A (vl gv df) (6 - lv) (.inr (d - 65, none)))
          rw [hev]
          exact xst_yres (fun e he => xm_ge _ _ e he) m2
      · rw [if_neg ecap]
        by_cases e40 : d = 40
        · rw [if_pos e40]
          obtain ⟨F1, m1, m2⟩ := c_bracket hb hk hA hV (fun F F' => AU_fr F F') hU hlv hT hvl hg hd hX hs hts hsl (i := i) (by omega)
          refine ⟨F1, ?_, m2⟩
          unfold f_Exp_expandReference_j21
          rw [if_pos (show nI d = (40 : Int32) by rw [e40]; rfl)]
          simp only [↓fx_bc, ↓cI_of m1]
        · rw [if_neg e40]
          have hcf : cap d = false := by
            cases h : cap d
            · rfl
            · exact absurd h ecap
          exact hother d hc128 e40 e36 hcf (s.drop (i + 2)) (fun _ => hrl)
end
