/-! the class: a text is expanded, whole -/
theorem xe_stepE (A : Nat → Option (List Nat)) (V : Nat → List Nat) (n : Nat) {t : List Nat} (h : t ≠ []) : xe A V n t = match itm A t with
    | none => none
    | some z => match evI A V n z.1 with
      | none => none
      | some e1 => (xe A V n z.2).map (fun e => (e1.1 ++ e.1, max e1.2 (e1.1.length + e.2))) := by
  rw [xe_step A V n h]
  cases itm A t with
  | none => rfl
  | some z =>
    obtain ⟨y, r⟩ := z
    cases y with
    | inl l =>
      show Option.map _ _ = Option.map _ _
      congr 1
      funext e
      show (l ++ e.1, l.length + e.2) = (l ++ e.1, max l.length (l.length + e.2))
      rw [Nat.max_eq_right (by omega)]
    | inr q =>
      unfold evI
      show (match xm A V n q.1 with | none => none | some e1 => _) = (match (xm A V n q.1).map (fun e => rpx e q.2) with | none => none | some e1 => _)
      cases xm A V n q.1 <;> rfl
theorem itm_sfx {A : Nat → Option (List Nat)} {t : List Nat} {z : xI} (h : itm A t = some z) : ∃ i, z.2 = t.drop i := by
  cases t with
  | nil => cases h
  | cons c r =>
    rw [itm] at h
    split at h
    · obtain ⟨i, hi⟩ := dlr_sfx h
      exact ⟨i + 1, hi⟩
    · cases h
      exact ⟨1, rfl⟩
theorem sfx_drop {s r : List Nat} {i j : Nat} (h : r = (s.drop i).drop j) : s.drop (s.length - r.length) = r := by
  rw [h, List.drop_drop, List.length_drop]
  by_cases e : i + j ≤ s.length
  · congr 1
    omega
  · rw [List.drop_eq_nil_of_le (show s.length ≤ i + j by omega), List.drop_eq_nil_of_le (by omega)]
section
variable {σ : rb_St} {b : Nat} {A : Nat → Option (List Nat)} {gv df : Nat → Option (List Nat)} {rT : Option Nat → Option Nat → Int32 → rb_St → Option rb_Rs} {lv : Nat}
theorem c_j60 (hb : rb_b σ ≤ b) {F : fx_F} {o : List Nat} {L : Nat} (hF : fx_ln F) (h : tw F 14 o) (h2 : F.1 1305 = nI L) (hL : L ≤ 1000) {a i : Nat} : f_Exp_expandText_j60 rT (some (fx_ad b 13)) (some a) (nI lv) (nI i) (fx_mk σ b F) = some (.inl (nI (i + 1), fx_mk σ b (fx_I F 1305 (nI (max L o.length))))) := by
  have ho : tO 14 := Or.inr (Or.inl rfl)
  have hlen := c_tlen (σ := σ) (b := b) ho h
  have hol := tw_len hF h
  rw [show tcap 14 = 120 from rfl] at hol
  have hmx : rb_mx (nI L) (nI o.length) = nI (max L o.length) := by
    unfold rb_mx
    by_cases e : L < o.length
    · rw [if_pos (show nI L < nI o.length by rw [u_lt (by omega) (by omega)]; exact e)]
      congr 1
      omega
    · rw [if_neg (show ¬ nI L < nI o.length by rw [u_lt (by omega) (by omega)]; exact e)]
      congr 1
      omega
  unfold f_Exp_expandText_j60
  simp only [↓fx_bc, ↓(show ∀ {β : Type} (f : List Value → Option β), (rb_fc (fx_mk σ b F) (some (fx_ad b 14)) 2).bind f = f (fx_row b F 14) from (t_b ho).1), ↓cI_of hlen, h2, hmx, ↓fx_vc hb]
  rw [show nI i + 1 = nI (i + 1) by rw [u_l1, u_add]]
theorem c_loop (hb : rb_b σ ≤ b) (hk : kx σ b) (hA : aok A) (hV : vok (vl gv df)) (hlv : lv ≤ 6) (hT : rTok σ b A gv df (AU σ b A (vl gv df)) lv rT) (hvl : ∀ m, (vl gv df m).length ≤ 320) {a : Nat} {s : List Nat} (hs : sx σ b a s) (hts : tk s) (hsl : s.length ≤ 320) : ∀ (m i : Nat) (F : fx_F) (o : List Nat) (L : Nat), s.length - i ≤ m → i ≤ s.length → AU σ b A (vl gv df) F → vx σ b F 18 gv → vx σ b F 19 df → xst F A (vl gv df) o L → ∃ F', rb_it (fun z : (Int32 × rb_St) => f_Exp_expandText_b2 rT (some (fx_ad b 13)) (some a) (nI lv) (z.1) z.2) (nI i, fx_mk σ b F) = some (some (.int (nI (b2 (xgood o (xe A (vl gv df) (6 - lv) (s.drop i)))))), fx_mk σ b F') ∧ xres F F' A (vl gv df) o L (xe A (vl gv df) (6 - lv) (s.drop i)) := by
  have ho : tO 14 := Or.inr (Or.inl rfl)
  obtain ⟨v, rest, k1, k2, k3, k4, k5, k6⟩ := hs.2.2
  have hfc : ∀ G, rb_fc (fx_mk σ b G) (some a) 14 = some (.ref v :: .int 0 :: rest) := fun G => fo_fk (F := G) hs.1 k3
  intro m
  induction m with
  | zero =>
    intro i F o L hm hi hU hg hd hX
    have hlen := c_len (F := F) hs
    have hol := tw_len hX.1 hX.2.1
    rw [show tcap 14 = 120 from rfl] at hol
    rw [List.drop_eq_nil_of_le (by omega), xe_nil]
    refine ⟨F, rb_it_r ?_, fr_refl _ _ _ _, hX.1, fun e1 he hle => ?_, lg_x hX⟩
    · unfold f_Exp_expandText_b2
      simp only [hfc, Option.bind_some]
      rw [cI_of hlen, if_pos (nI_le (by omega) (by omega)), show xgood o (some ([], 0)) = true from decide_eq_true (by simpa using hol)]
      rfl
    · injection he with he
      subst he
      rw [List.append_nil, show max L (o.length + ([], 0).2) = L from Nat.max_eq_left (by simpa using hX.2.2.2.1)]
      exact hX
  | succ m ih =>
    intro i F o L hm hi hU hg hd hX
    by_cases hend : i = s.length
    · exact ih i F o L (by omega) hi hU hg hd hX
    · have hi1 : i < s.length := by omega
      have hlen := c_len (F := F) hs
      have hch := c_charAt (F := F) hs hi1
      have hc128 := k5 _ (getD_mem (d := 0) hi1)
      have hol := tw_len hX.1 hX.2.1
      rw [show tcap 14 = 120 from rfl] at hol
      have hdr : s.drop i = s.getD i 0 :: s.drop (i + 1) := by
        have := slc_drop (o := s) (p := i) (q := i + 1) (by omega)
        rw [this, slc_cons (by omega) (by omega), slc_self]
        rfl
      have hne : s.drop i ≠ [] := by
        rw [hdr]
        exact fun h => by cases h
      -- how one thing goes on to the rest
      have hgo : ∀ (z : xI) (F1 : fx_F) (e1 : List Nat × Nat), itm A (s.drop i) = some z → evI A (vl gv df) (6 - lv) z.1 = some e1 → o.length + e1.2 ≤ 120 → yres F F1 A (vl gv df) o L (some e1) → e1.1.length ≤ e1.2 → f_Exp_expandText_b2 rT (some (fx_ad b 13)) (some a) (nI lv) (nI i) (fx_mk σ b F) = f_Exp_expandText_j60 rT (some (fx_ad b 13)) (some a) (nI lv) (nI (s.length - z.2.length - 1)) (fx_mk σ b F1) → ∃ F', rb_it (fun z : (Int32 × rb_St) => f_Exp_expandText_b2 rT (some (fx_ad b 13)) (some a) (nI lv) (z.1) z.2) (nI i, fx_mk σ b F) = some (some (.int (nI (b2 (xgood o (xe A (vl gv df) (6 - lv) (s.drop i)))))), fx_mk σ b F') ∧ xres F F' A (vl gv df) o L (xe A (vl gv df) (6 - lv) (s.drop i)) := by
        intro z F1 e1 hz he1 hle hy hge hbody
        obtain ⟨L1, y1, y2, y3, y4, y5, y6⟩ := hy.2.2.1 e1 rfl hle
        have hlt := itm_lt hz
        rw [List.length_drop] at hlt
        obtain ⟨j, hj⟩ := itm_sfx hz
        have hrest := sfx_drop hj
        have hol1 := tw_len hy.2.1 y1
        rw [show tcap 14 = 120 from rfl] at hol1
        rw [c_j60 hb hy.2.1 y1 y2 y4, show s.length - z.2.length - 1 + 1 = s.length - z.2.length by omega] at hbody
        generalize hF2 : fx_I F1 1305 (nI (max L1 (o ++ e1.1).length)) = F2 at hbody
        have hfr2 : fr zX zY [] F1 F2 := by
          subst hF2
          exact fr_I (fr_refl _ _ _ _) (by decide)
        have hfr : fr zX zY [] F F2 := fr_trans hy.1 hfr2
        have hmx : max L1 (o ++ e1.1).length = max L (o.length + e1.2) := by rw [List.length_append]; exact y3
        have hX2 : xst F2 A (vl gv df) (o ++ e1.1) (max L (o.length + e1.2)) := by
          subst hF2
          refine ⟨fx_lnI hy.2.1, tw_fr y1 (fr_I (zi := [1305]) (za := []) (zl := []) (fr_refl _ _ _ _) (by decide)) (by decide) (by decide), by rw [fx_I_1, if_pos rfl, hmx], by rw [List.length_append]; omega, ?_, y5, y6⟩
          have := hX.2.2.2.2.1
          omega
        have hg2 : vx σ b F2 18 gv := vx_hx hg (hx_refl _) (by rw [hfr.2.2.2])
        have hd2 : vx σ b F2 19 df := vx_hx hd (hx_refl _) (by rw [hfr.2.2.2])
        obtain ⟨F', g1, g2⟩ := ih (s.length - z.2.length) F2 (o ++ e1.1) (max L (o.length + e1.2)) (by omega) (by omega) (AU_fr _ _ hfr hU) hg2 hd2 hX2
        rw [hrest] at g1 g2
        rw [xe_stepE A (vl gv df) (6 - lv) hne, hz]
        simp only [he1]
        refine ⟨F', (rb_it_l hbody).trans ?_, fr_trans hfr g2.1, g2.2.1, fun e2 he2 hle2 => ?_, g2.2.2.2⟩
        · rw [g1]
          have hxg : xgood (o ++ e1.1) (xe A (vl gv df) (6 - lv) z.2) = xgood o ((xe A (vl gv df) (6 - lv) z.2).map (fun e => (e1.1 ++ e.1, max e1.2 (e1.1.length + e.2)))) := by
            cases xe A (vl gv df) (6 - lv) z.2 with
            | none => rfl
            | some e =>
              show decide ((o ++ e1.1).length + e.2 ≤ 120) = decide (o.length + max e1.2 (e1.1.length + e.2) ≤ 120)
              rw [List.length_append]
              congr 1
              apply propext
              constructor <;> intro h <;> omega
          rw [hxg]
        · cases hxe : xe A (vl gv df) (6 - lv) z.2 with
          | none => rw [hxe] at he2; cases he2
          | some e =>
            rw [hxe] at he2
            injection he2 with he2
            subst he2
            have hle3 : o.length + max e1.2 (e1.1.length + e.2) ≤ 120 := hle2
            have := g2.2.2.1 e hxe (by rw [List.length_append]; omega)
            rw [List.append_assoc, List.length_append] at this
            show xst F' A (vl gv df) (o ++ (e1.1 ++ e.1)) (max L (o.length + max e1.2 (e1.1.length + e.2)))
            rw [show max L (o.length + max e1.2 (e1.1.length + e.2)) = max (max L (o.length + e1.2)) (o.length + e1.1.length + e.2) by omega]
            exact this
      by_cases e36 : s.getD i 0 = 36
      · have hitm : itm A (s.drop i) = dlr A (s.drop (i + 1)) := by
          rw [hdr, itm, if_pos e36]
        obtain ⟨F1, r1, r2⟩ := c_ref hb hk hA hV hU hlv hT hvl hg hd hX hs hts hsl hi1
        have hb1 : f_Exp_expandText_b2 rT (some (fx_ad b 13)) (some a) (nI lv) (nI i) (fx_mk σ b F) = if nI i ≤ rfv s o A (vl gv df) (6 - lv) (dlr A (s.drop (i + 1))) then f_Exp_expandText_j60 rT (some (fx_ad b 13)) (some a) (nI lv) (rfv s o A (vl gv df) (6 - lv) (dlr A (s.drop (i + 1)))) (fx_mk σ b F1) else (some (some (.int (0 : Int32)), fx_mk σ b F1)).map Sum.inr := by
          unfold f_Exp_expandText_b2
          simp only [hfc, Option.bind_some]
          rw [cI_of hlen, if_neg (show ¬ nI s.length ≤ nI i by rw [u_le (by omega) (by omega)]; omega), cI_of hch, if_pos (show nI (s.getD i 0) = (36 : Int32) by rw [e36]; rfl)]
          simp only [↓fx_bc, ↓cI_of r1, hfc, Option.bind_some]
        have hneg : ¬ nI i ≤ (-1 : Int32) := by
          rw [u_m1n (by omega)]
          exact id
        rw [← hitm] at r1 r2 hb1
        cases hz : itm A (s.drop i) with
        | none =>
          rw [hz] at hb1 r2
          rw [show rfv s o A (vl gv df) (6 - lv) none = -1 from rfl, if_neg hneg] at hb1
          rw [xe_stepE A (vl gv df) (6 - lv) hne, hz]
          exact ⟨F1, rb_it_m hb1, r2.1, r2.2.1, fun e1 he => (by cases he), r2.2.2.2⟩
        | some z =>
          have hlt := itm_lt hz
          rw [List.length_drop] at hlt
          rw [hz] at hb1 r2
          have r2' : yres F F1 A (vl gv df) o L (evI A (vl gv df) (6 - lv) z.1) := r2
          have hb1' : f_Exp_expandText_b2 rT (some (fx_ad b 13)) (some a) (nI lv) (nI i) (fx_mk σ b F) = if nI i ≤ (if xgood o (evI A (vl gv df) (6 - lv) z.1) = true then nI (s.length - z.2.length - 1) else -1) then f_Exp_expandText_j60 rT (some (fx_ad b 13)) (some a) (nI lv) (if xgood o (evI A (vl gv df) (6 - lv) z.1) = true then nI (s.length - z.2.length - 1) else -1) (fx_mk σ b F1) else (some (some (.int (0 : Int32)), fx_mk σ b F1)).map Sum.inr := hb1
          cases hev : evI A (vl gv df) (6 - lv) z.1 with
          | none =>
            rw [hev] at hb1'
            rw [show (if xgood o none = true then nI (s.length - z.2.length - 1) else (-1 : Int32)) = -1 from rfl, if_neg hneg] at hb1'
            rw [xe_stepE A (vl gv df) (6 - lv) hne, hz]
            simp only [hev]
            exact ⟨F1, rb_it_m hb1', r2.1, r2.2.1, fun e1 he => (by cases he), r2.2.2.2⟩
          | some e1 =>
            rw [hev] at hb1' r2'
            have hge : e1.1.length ≤ e1.2 := by
              obtain ⟨y, r⟩ := z
              cases y with
              | inl l =>
                injection hev with hev
                subst hev
                exact Nat.le_refl _
              | inr q =>
                have hev' : (xm A (vl gv df) (6 - lv) q.1).map (fun e => rpx e q.2) = some e1 := hev
                cases hxm : xm A (vl gv df) (6 - lv) q.1 with
                | none => rw [hxm] at hev'; cases hev'
                | some e =>
                  rw [hxm] at hev'
                  injection hev' with hev'
                  subst hev'
                  exact rpx_ge (xm_ge _ _ e hxm) _
            by_cases hfit : o.length + e1.2 ≤ 120
            · rw [show (if xgood o (some e1) = true then nI (s.length - z.2.length - 1) else (-1 : Int32)) = nI (s.length - z.2.length - 1) from if_pos (decide_eq_true hfit), if_pos (nI_le (by omega) (by omega))] at hb1'
              exact hgo z F1 e1 hz hev hfit r2' hge hb1'
            · rw [show (if xgood o (some e1) = true then nI (s.length - z.2.length - 1) else (-1 : Int32)) = -1 from if_neg (by show ¬ decide _ = true; simp; omega), if_neg hneg] at hb1'
              have hxf : xgood o (xe A (vl gv df) (6 - lv) (s.drop i)) = false ∧ ∀ e2, xe A (vl gv df) (6 - lv) (s.drop i) = some e2 → ¬ o.length + e2.2 ≤ 120 := by
                rw [xe_stepE A (vl gv df) (6 - lv) hne, hz]
                simp only [hev]
                cases xe A (vl gv df) (6 - lv) z.2 with
                | none => exact ⟨rfl, fun e2 he => by cases he⟩
                | some e =>
                  refine ⟨decide_eq_false (by show ¬ o.length + max e1.2 (e1.1.length + e.2) ≤ 120; omega), fun e2 he => ?_⟩
                  injection he with he
                  subst he
                  show ¬ o.length + max e1.2 (e1.1.length + e.2) ≤ 120
                  omega
              rw [hxf.1]
              exact ⟨F1, rb_it_m hb1', r2'.1, r2'.2.1, fun e2 he2 hle2 => absurd hle2 (hxf.2 e2 he2), r2'.2.2.2⟩
      · have hitm : itm A (s.drop i) = some (.inl [s.getD i 0], s.drop (i + 1)) := by
          rw [hdr, itm, if_neg e36]
        obtain ⟨F1, a1, a2, a3, a4⟩ := c_add (σ := σ) ho hb hX.1 hX.2.1 (c := s.getD i 0) (by omega)
        rw [show tcap 14 = 120 from rfl] at a1 a2
        have hfr : fr zX zY [] F F1 := fr_mono a4 (by decide) (by decide) (by decide)
        have hb1 : f_Exp_expandText_b2 rT (some (fx_ad b 13)) (some a) (nI lv) (nI i) (fx_mk σ b F) = if nI (b2 (decide (o.length < 120))) = 0 then (some (some (.int (0 : Int32)), fx_mk σ b F1)).map Sum.inr else f_Exp_expandText_j60 rT (some (fx_ad b 13)) (some a) (nI lv) (nI i) (fx_mk σ b F1) := by
          unfold f_Exp_expandText_b2
          simp only [hfc, Option.bind_some]
          rw [cI_of hlen, if_neg (show ¬ nI s.length ≤ nI i by rw [u_le (by omega) (by omega)]; omega), cI_of hch, if_neg (show ¬ nI (s.getD i 0) = (36 : Int32) by rw [u_l36, u_eq (by omega) (by omega)]; exact e36)]
          simp only [↓fx_bc, ↓cI_of hch, ↓(show ∀ {β : Type} (f : List Value → Option β), (rb_fc (fx_mk σ b F) (some (fx_ad b 14)) 2).bind f = f (fx_row b F 14) from (t_b ho).1), ↓cI_of a1, hfc, Option.bind_some]
        by_cases hf : o.length < 120
        · rw [decide_eq_true hf, b2_t, if_neg (show ¬ nI 1 = 0 by decide)] at hb1
          rw [if_pos hf] at a2
          refine hgo _ F1 ([s.getD i 0], 1) hitm rfl hf ⟨hfr, a3, fun e1 he hle => ?_, lg_fr (lg_x hX) a4 (by decide)⟩ (Nat.le_refl _) ?_
          · injection he with he
            subst he
            refine ⟨L, a2, by rw [a4.1 1305 (by decide)]; exact hX.2.2.1, rfl, hX.2.2.2.2.1, mem_fr hX.2.2.2.2.2.1 (a4.2.1 20 (by decide)), tk_app hX.2.2.2.2.2.2 (fun c hc => ?_)⟩
            have : c = s.getD i 0 := by simpa using hc
            subst this
            exact tk_get hts hi1
          · rw [hb1, show s.length - (s.drop (i + 1)).length - 1 = i by rw [List.length_drop]; omega]
        · rw [decide_eq_false hf, b2_f, if_pos (show nI 0 = 0 from rfl)] at hb1
          have hxf : xgood o (xe A (vl gv df) (6 - lv) (s.drop i)) = false ∧ ∀ e2, xe A (vl gv df) (6 - lv) (s.drop i) = some e2 → ¬ o.length + e2.2 ≤ 120 := by
            rw [xe_stepE A (vl gv df) (6 - lv) hne, hitm]
            simp only [evI]
            cases xe A (vl gv df) (6 - lv) (s.drop (i + 1)) with
            | none => exact ⟨rfl, fun e2 he => by cases he⟩
            | some e =>
              refine ⟨decide_eq_false (by show ¬ o.length + max 1 (1 + e.2) ≤ 120; omega), fun e2 he => ?_⟩
              injection he with he
              subst he
              show ¬ o.length + max 1 (1 + e.2) ≤ 120
              omega
          rw [hxf.1]
          exact ⟨F1, rb_it_m hb1, hfr, a3, fun e2 he2 hle2 => absurd hle2 (hxf.2 e2 he2), lg_fr (lg_x hX) a4 (by decide)⟩
theorem c_textN (hb : rb_b σ ≤ b) (hk : kx σ b) (hA : aok A) (hV : vok (vl gv df)) (hvl : ∀ m, (vl gv df m).length ≤ 320) : ∀ (k lv : Nat), lv ≤ 6 → 7 - lv ≤ k → ∀ (F : fx_F) (o : List Nat) (L a : Nat) (s : List Nat), AU σ b A (vl gv df) F → vx σ b F 18 gv → vx σ b F 19 df → xst F A (vl gv df) o L → sx σ b a s → tk s → s.length ≤ 320 → ∃ F', f_Exp_expandText_N k (some (fx_ad b 13)) (some a) (nI lv) (fx_mk σ b F) = some (some (.int (nI (b2 (xgood o (xe A (vl gv df) (6 - lv) s))))), fx_mk σ b F') ∧ xres F F' A (vl gv df) o L (xe A (vl gv df) (6 - lv) s) := by
  intro k
  induction k with
  | zero => intro lv h1 h2; omega
  | succ k ih =>
    intro lv h1 h2 F o L a s hU hg hd hX hs hts hsl
    have hT : rTok σ b A gv df (AU σ b A (vl gv df)) lv (f_Exp_expandText_N k) := fun hlt F o L a s hU hg hd hX hs hts hsl => by
      rw [Nat.sub_sub]
      exact ih (lv + 1) (by omega) (by omega) F o L a s hU hg hd hX hs hts hsl
    exact c_loop hb hk hA hV h1 hT hvl hs hts hsl s.length 0 F o L (by omega) (by omega) hU hg hd hX
end
