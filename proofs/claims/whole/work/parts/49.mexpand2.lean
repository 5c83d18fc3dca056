/-! the reference: an expansion, level by level -/
section
variable {σ : rb_St} {b : Nat} {F0 : fx_F} {T : List Nat} {gv df : Nat → Option (List Nat)} {A : Nat → Option (List Nat)}
/-- the end of a level that a macro entered: back to the level below it, with the ends changed -/
theorem m_bd_leave (hb : rb_b σ ≤ b) (x : Int32) {F1 F3 : fx_F} {l : Nat} (hl6 : l < 6) {s : Option Nat} (hs : sok gv s) {e : Nat} {o e1 : List Nat} {g1 : Nat} {m : Nat} {rp : Option (List Nat × List Nat)} {r : List Nat} {F : fx_F} (hen : m_ent T gv df F F1 l s e o m rp r) (hR : m_rd T gv df F) {s' : Option Nat} {e' : Nat} (ha : m_at F3 (l + 1) s' e' e') (he' : e' < 2147483648) (hst : stk (l + 1) F1 F3) (hfr : fr zI zA [] F1 F3) (hln : fx_ln F3) (hout : m_out F3 (o ++ e1)) (hfit1 : (o ++ e1).length ≤ 120) (htk : tk (o ++ e1)) (hsr : (F.2.1 65)[l]? = some (oi s)) (hen2 : (F.2.1 67)[l]? = some (nI e)) : ∃ F4, m_bd b x (nI 1, fx_mk σ b F3) = some (.inl ((if o.length + (rpx (e1, g1) rp).1.length ≤ 120 then nI 1 else nI 0), fx_mk σ b F4)) ∧ (o.length + (rpx (e1, g1) rp).1.length ≤ 120 → m_out F4 (o ++ (rpx (e1, g1) rp).1)) ∧ m_at F4 l s (e - r.length) e ∧ stk l F F4 ∧ fx_ln F4 ∧ fr zI zA [] F F4 := by
  obtain ⟨sx, px, ex, k1, k2, k3, k4, k5, k6, k7, k8, k9, k10, k11, k12, k13⟩ := hen
  obtain ⟨a1, a2, a3, a4⟩ := ha
  have hfr3 : fr zI zA [] F F3 := fr_trans k12 hfr
  have hR3 := m_rd_fr hR hfr3
  have low : ∀ F4, F4.1 3448 = nI l → fr zI [62] [] F3 F4 → m_at F4 l s (e - r.length) e ∧ stk l F F4 := by
    intro F4 h1 h2
    refine ⟨⟨h1, ?_, ?_, ?_⟩, ?_⟩
    · rw [h2.2.1 65 (by decide), hst 65 l (by decide) (by decide) (by omega) (by omega), k10 65 l (by decide) (by decide) (Nat.le_refl _) (by omega)]
      exact hsr
    · rw [h2.2.1 66 (by decide), hst 66 l (by decide) (by decide) (by omega) (by omega)]
      exact k6
    · rw [h2.2.1 67 (by decide), hst 67 l (by decide) (by decide) (by omega) (by omega), k10 67 l (by decide) (by decide) (Nat.le_refl _) (by omega)]
      exact hen2
    · intro o' j q1 q2 q3 q4
      rw [h2.2.1 o' (by simp; omega), hst o' j q1 q2 (by omega) (by omega), k10 o' j q1 q2 q3 q4]
  have head : ∀ y F4, f_M_leave (some (fx_ad b 34)) (fx_mk σ b F3) = some (some (.int y), fx_mk σ b F4) → m_bd b x (nI 1, fx_mk σ b F3) = some (.inl (y, fx_mk σ b F4)) := by
    intro y F4 h
    unfold m_bd f_M_expand_b34
    simp only
    rw [if_neg (show ¬ nI 1 = 0 by decide)]
    simp (disch := omega) only [↓fx_bm, ↓bx_of a1 (show l + 1 < 2147483648 by omega) a3, ↓bx_of a1 (show l + 1 < 2147483648 by omega) a4, ↓cI_of h, a1, ↓reduceIte, n_ltT, n_ltF, n_leT, n_leF, n_eqT, n_eqF, nI_1, u_lt, u_le, u_eq, u_add, u_ix, u_ixL, u_ixR, u_cl, u_nm1, u_nm1', u_m1l, u_m1n, u_l0, Option.bind_some, Option.map_some, not_true_eq_false, not_false_eq_true, true_and, and_true, Nat.add_sub_cancel, Bool.false_eq_true, u_nar2]
  cases rp with
  | none =>
    have hc : (F3.2.1 69)[l + 1]? = some (-1) := by
      rw [hst 69 (l + 1) (by decide) (by decide) (Nat.le_refl _) (by omega)]
      exact k8 rfl
    have hfrl : fr zI [62] [] F3 (fx_I F3 3448 (nI l)) := fr_I (fr_refl _ _ _ _) (by decide)
    obtain ⟨l1, l2⟩ := low (fx_I F3 3448 (nI l)) (by simp [fx_II, fx_AA, fx_LL, fx_I_1, fx_I_A, fx_I_L, fx_I_R, fx_I_Q, fx_A_1, fx_A_A, fx_A_L, fx_A_R, fx_A_Q, fx_L_1, fx_L_A, fx_L_L, fx_L_R, fx_L_Q, fx_R_1, fx_R_A, fx_R_L, fx_R_R, fx_R_Q, fx_Q_1, fx_Q_A, fx_Q_L, fx_Q_R, fx_Q_Q]) hfrl
    refine ⟨fx_I F3 3448 (nI l), ?_, fun _ => hout, l1, l2, fx_lnI hln, fr_trans hfr3 (fr_mono hfrl (by simp) (by simp) (by simp))⟩
    have h := head _ _ (m_leave1 hb hl6 a1 hc)
    rw [h]
    have : o.length + (rpx (e1, g1) none).1.length ≤ 120 := by
      rw [List.length_append] at hfit1
      exact hfit1
    rw [if_pos this]
  | some uv =>
    obtain ⟨u, v⟩ := uv
    obtain ⟨cf, ct, nt, j1, j2, j3, j4, j5, j6, j7, j8⟩ := k9 u v rfl
    have hbl := bs_len (T := T) (gv := gv) (s := s) hR.2.1 hR.2.2.2.2.1
    have hlv : m_lv F3 l s cf ct nt := by
      refine ⟨a1, ?_, ?_, ?_, ?_⟩
      · rw [hst 65 l (by decide) (by decide) (by omega) (by omega), k10 65 l (by decide) (by decide) (Nat.le_refl _) (by omega)]
        exact hsr
      · rw [hst 69 (l + 1) (by decide) (by decide) (Nat.le_refl _) (by omega)]
        exact j4
      · rw [hst 70 (l + 1) (by decide) (by decide) (Nat.le_refl _) (by omega)]
        exact j5
      · rw [hst 71 (l + 1) (by decide) (by decide) (Nat.le_refl _) (by omega)]
        exact j6
    have h68 : (F3.2.1 68)[l + 1]? = some (nI o.length) := by
      rw [hst 68 (l + 1) (by decide) (by decide) (Nat.le_refl _) (by omega)]
      exact k7
    obtain ⟨F4, q1, q2, q3, q4, q5⟩ := m_leave_loop (σ := σ) (b := b) hb hR3.2.1 hR3.2.2.1 hR3.2.2.2.2.1 hs hl6 j1 j2 j3 ((o ++ e1).length) F3 (o ++ e1) o.length (by omega) (by simp) hfit1 hln hR3.1 hR3.2.2.2.1 hlv htk hout
    rw [List.drop_left, List.take_left, ← j7, ← j8] at q2
    rw [List.drop_left, ← j7, ← j8] at q1
    have hlea : f_M_leave (some (fx_ad b 34)) (fx_mk σ b F3) = some (some (.int (if o.length + (rpF u v [] e1).length ≤ 120 then nI 1 else nI 0)), fx_mk σ b F4) := by
      unfold f_M_leave
      simp (disch := omega) only [↓fx_bm, ↓bx_of a1 (show l + 1 < 2147483648 by omega) hlv.2.2.1, ↓bx_of a1 (show l + 1 < 2147483648 by omega) h68, a1, ↓reduceIte, n_ltT, n_ltF, n_leT, n_leF, n_eqT, n_eqF, nI_1, u_lt, u_le, u_eq, u_add, u_ix, u_ixL, u_ixR, u_cl, u_nm1, u_nm1', u_m1l, u_m1n, u_l0, Option.bind_some, Option.map_some, not_true_eq_false, not_false_eq_true, true_and, and_true, Nat.add_sub_cancel, Bool.false_eq_true, u_nar2]
      exact q1
    obtain ⟨l1, l2⟩ := low F4 q3 q5
    exact ⟨F4, head _ _ hlea, q2, l1, l2, q4, fr_trans hfr3 (fr_mono q5 (by simp) (by simp) (by simp))⟩
theorem brk_sfx {r : List Nat} {y : xI} (h : brk r = some y) : ∃ i, y.2 = r.drop i := by
  unfold brk at h
  split at h
  · cases h
  · split at h
    · cases h
      exact ⟨_, rfl⟩
    · split at h
      · cases h
        exact ⟨_, rfl⟩
      · cases h
theorem dlr_sfx {r : List Nat} {y : xI} (h : dlr A r = some y) : ∃ i, y.2 = r.drop i := by
  cases r with
  | nil => cases h
  | cons d r =>
    rw [dlr] at h
    split at h
    · cases h; exact ⟨1, rfl⟩
    · split at h
      · cases h; exact ⟨1, rfl⟩
      · split at h
        · obtain ⟨i, hi⟩ := brk_sfx h
          exact ⟨i + 1, hi⟩
        · cases hA : A d with
          | none => rw [hA] at h; cases h
          | some l => rw [hA] at h; cases h; exact ⟨1, rfl⟩
theorem slc_rest {l r : List Nat} {q e i : Nat} (hq : q ≤ e) (he : e ≤ l.length) (h : r = (slc l q e).drop i) : r = slc l (e - r.length) e ∧ e - r.length ≤ e ∧ e - (e - r.length) ≤ e - q := by
  rw [slc_drop2] at h
  have hl : r.length = e - (q + i) := by rw [h, slc_len he]
  refine ⟨?_, by omega, by omega⟩
  rw [hl]
  by_cases c : q + i ≤ e
  · rw [show e - (e - (q + i)) = q + i by omega]
    exact h
  · rw [show e - (e - (q + i)) = e by omega, slc_self]
    apply List.eq_nil_of_length_eq_zero
    omega
theorem m_run_step (hb : rb_b σ ≤ b) {x : Int32} (hA : m_cmd σ b F0 A x) (hAk : aok A) (hVk : vok (vl gv df)) {n : Nat} (hn : n ≤ 6) (ihn : ∀ n', n = n' + 1 → m_R σ b x T gv df A F0 n') : m_R σ b x T gv df A F0 n := by
  intro k
  induction k with
  | zero =>
    intro F o s p e hk hpe he hs ha hF hF0 hR ho hto hm
    have : p = e := by omega
    subst this
    exact m_run_end ha hF ho hm
  | succ k ihk =>
    intro F o s p e hk hpe he hs ha hF hF0 hR ho hto hm
    by_cases hpe2 : p = e
    · subst hpe2
      exact m_run_end ha hF ho hm
    · have hbl := bs_len (T := T) (gv := gv) (s := s) hR.2.1 hR.2.2.2.2.1
      have hbt := bs_tk (T := T) (gv := gv) (s := s) hR.2.2.1 hR.2.2.2.2.1
      have h66 := hF.1 66
      simp only [fx_cI] at h66
      have hread := m_bd_read (σ := σ) (b := b) hb hF hR x (l := 6 - n) (by omega) hs ha (by omega) he
      have hcT := tk_get hbt (k := p) (by omega)
      have htne : slc (bs T gv s) p e ≠ [] := by
        rw [slc_cons (by omega) he]
        simp
      have hxs := xe_step A (vl gv df) n htne
      have hcons := slc_cons (l := bs T gv s) (p := p) (e := e) (by omega) he
      have htkt := slc_tk hbt p e
      have hlnA : fx_ln (fx_A F 66 ((F.2.1 66).set (6 - n) (nI (p + 1)))) := fx_lnA hF (by rw [List.length_set]; exact hF.1 _)
      have hfrA : fr zI zA [] F (fx_A F 66 ((F.2.1 66).set (6 - n) (nI (p + 1)))) := fr_A (fr_refl _ _ _ _) (by decide)
      have hstA : stk (6 - n) F (fx_A F 66 ((F.2.1 66).set (6 - n) (nI (p + 1)))) := stk_66 (by omega)
      have haA : m_at (fx_A F 66 ((F.2.1 66).set (6 - n) (nI (p + 1)))) (6 - n) s (p + 1) e := by
        obtain ⟨a1, a2, a3, a4⟩ := ha
        refine ⟨a1, ?_, ?_, ?_⟩
        · rw [fx_A_A, if_neg (by decide)]
          exact a2
        · rw [fx_A_A, if_pos rfl, set_get (by omega), if_pos rfl]
        · rw [fx_A_A, if_neg (by decide)]
          exact a4
      have hmA : m_out (fx_A F 66 ((F.2.1 66).set (6 - n) (nI (p + 1)))) o := hm
      have hRA := m_rd_fr hR hfrA
      by_cases hc : (bs T gv s).getD p 0 = 36
      · rw [if_pos hc] at hread
        have hitm : itm A (slc (bs T gv s) p e) = dlr A (slc (bs T gv s) (p + 1) e) := by
          rw [hcons, itm, if_pos hc]
        rw [hitm] at hxs
        have hd := m_dollar (σ := σ) (b := b) (F0 := F0) hb hA hlnA (fr_trans hF0 hfrA) hRA ho hmA (l := 6 - n) (by omega) hs haA (by omega) he
        cases hdl : dlr A (slc (bs T gv s) (p + 1) e) with
        | none =>
          rw [hdl] at hd hxs
          obtain ⟨F', k1, k2, k3⟩ := hd
          rw [k1] at hread
          refine ⟨fun ex g h _ => (by rw [hxs] at h; cases h), fun _ => ⟨F', ?_, k2, fr_trans hfrA k3⟩⟩
          rw [rb_it_l (show m_bd b x (nI 1, fx_mk σ b F) = some (.inl (nI 0, fx_mk σ b F')) from hread), m_bd0]
        | some y =>
          have hxt : xtk y := itm_tk hAk htkt (by rw [hitm]; exact hdl)
          obtain ⟨i, hi⟩ := dlr_sfx hdl
          rw [hdl] at hd hxs
          obtain ⟨y1, r⟩ := y
          obtain ⟨r1, r2, r3⟩ := slc_rest (l := bs T gv s) (r := r) (by omega) he hi
          have hrlt : e - (e - r.length) ≤ k := by omega
          cases y1 with
          | inl w =>
            obtain ⟨F', k1, k2, k3, k4, k5, k6⟩ := hd
            rw [k1] at hread
            refine m_run_app (w := w) (r := r) (F2 := F') hread (stk_trans hstA k4) (fr_trans hfrA k6) k5 k2 hxs (fun hw => ?_)
            have := ihk F' (o ++ w) s (e - r.length) e hrlt r2 he hs k3 k5 (fr_trans hF0 (fr_trans hfrA k6)) (m_rd_fr hRA k6) (by rw [List.length_append]; exact hw) (tk_app hto (hxt.2.1 w rfl)) (k2 hw)
            rw [← r1] at this
            exact this
          | inr q =>
            obtain ⟨m, rp⟩ := q
            cases n with
            | zero =>
              obtain ⟨F', k1, k2, k3⟩ := hd.2 rfl
              rw [k1] at hread
              refine ⟨fun ex g h _ => (by rw [hxs] at h; cases h), fun _ => ⟨F', ?_, k2, fr_trans hfrA k3⟩⟩
              rw [rb_it_l (show m_bd b x (nI 1, fx_mk σ b F) = some (.inl (nI 0, fx_mk σ b F')) from hread), m_bd0]
            | succ n =>
              obtain ⟨F', k1, k2, k3⟩ := hd.1 (by omega)
              rw [k1] at hread
              have hread' : m_bd b x (nI 1, fx_mk σ b F) = some (.inl (nI 1, fx_mk σ b F')) := hread
              have hent := m_ent_pre hstA hfrA k3
              obtain ⟨s', p', e', q1, q2, q3, q4, q5, q6, q7, q8, q9, q10, q11, q12, q13⟩ := k3
              have hlev : 6 - (n + 1) + 1 = 6 - n := by omega
              have hbl' := bs_len (T := T) (gv := gv) (s := s') hR.2.1 hR.2.2.2.2.1
              have hin := ihn n rfl (e' - p') F' o s' p' e' (Nat.le_refl _) q3 q4 q1 (by rw [← hlev]; exact q2) q11 (fr_trans hF0 (fr_trans hfrA q12)) (m_rd_fr hRA q12) ho hto q13
              rw [q5] at hin
              have hxm : xm A (vl gv df) (n + 1) m = xe A (vl gv df) n (vl gv df m) := rfl
              simp only at hxs
              rw [hxm] at hxs
              by_cases hfit : ∃ e1 g1, xe A (vl gv df) n (vl gv df m) = some (e1, g1) ∧ o.length + g1 ≤ 120
              · obtain ⟨e1, g1, hx1, hfit1⟩ := hfit
                rw [hx1] at hxs
                simp only at hxs
                have hge := xe_ge n _ _ hx1
                have htk1 := xe_tk hAk hVk n _ _ (hVk m) hx1
                simp only at hge htk1
                obtain ⟨F3, t1, t2, t3, t4, t5, t6⟩ := hin.1 e1 g1 hx1 hfit1
                obtain ⟨F4, u1, u2, u3, u4, u5, u6⟩ := m_bd_leave (σ := σ) (b := b) (g1 := g1) hb x (l := 6 - (n + 1)) (by omega) hs hent hR (by rw [hlev]; exact t2) (by omega) (by rw [hlev]; exact t4) t6 t5 t3 (by rw [List.length_append]; omega) (tk_app hto htk1) ha.2.1 ha.2.2.2
                have hw2 := rpx_ge (e := (e1, g1)) hge rp
                have htkw : tk (rpx (e1, g1) rp).1 := by
                  cases rp with
                  | none => exact htk1
                  | some uv => exact rpF_tk (hxt.2.2 m uv.1 uv.2 rfl).2 _ _ (fun c hc => by simp at hc) htk1
                have hG : o.length + (rpx (e1, g1) rp).1.length ≤ 120 → o.length + (rpx (e1, g1) rp).2 ≤ 120 := by
                  intro h
                  cases rp with
                  | none => exact hfit1
                  | some uv =>
                    simp only [rpx] at h ⊢
                    omega
                generalize rpx (e1, g1) rp = W at *
                obtain ⟨w, G⟩ := W
                simp only at hw2 htkw hG hxs u1 u2
                have hst : rb_it (m_bd b x) (nI 1, fx_mk σ b F) = rb_it (m_bd b x) ((if o.length + w.length ≤ 120 then nI 1 else nI 0), fx_mk σ b F4) := by
                  rw [rb_it_l hread', t1, rb_it_l u1]
                by_cases hw : o.length + w.length ≤ 120
                · rw [if_pos hw] at hst
                  have hGG := hG hw
                  have hrest := ihk F4 (o ++ w) s (e - r.length) e hrlt r2 he hs u3 u5 (fr_trans hF0 u6) (m_rd_fr hR u6) (by rw [List.length_append]; exact hw) (tk_app hto htkw) (u2 hw)
                  rw [← r1, List.length_append] at hrest
                  rw [hxs, hst]
                  refine ⟨fun ex g h hf => ?_, fun h => ?_⟩
                  · cases hr : xe A (vl gv df) (n + 1) r with
                    | none => rw [hr] at h; cases h
                    | some q =>
                      rw [hr] at h
                      cases h
                      obtain ⟨F', v1, v2, v3, v4, v5, v6⟩ := hrest.1 q.1 q.2 hr (by omega)
                      exact ⟨F', v1, v2, by rw [← List.append_assoc]; exact v3, stk_trans u4 v4, v5, fr_trans u6 v6⟩
                  · obtain ⟨F', v1, v2, v3⟩ := hrest.2 (fun ex g hr => by
                      have := h (w ++ ex) (max G (w.length + g)) (by rw [hr]; rfl)
                      omega)
                    exact ⟨F', v1, v2, fr_trans u6 v3⟩
                · rw [if_neg hw, m_bd0] at hst
                  refine ⟨fun ex g h hf => ?_, fun _ => ⟨F4, hst, u5, u6⟩⟩
                  exfalso
                  rw [hxs] at h
                  cases hr : xe A (vl gv df) (n + 1) r with
                  | none => rw [hr] at h; cases h
                  | some q =>
                    rw [hr] at h
                    cases h
                    omega
              · obtain ⟨F3, t1, t2, t3⟩ := hin.2 (fun ex g h => by
                  by_cases c : 120 < o.length + g
                  · exact c
                  · exact absurd ⟨ex, g, h, by omega⟩ hfit)
                refine ⟨fun ex g h hf => ?_, fun _ => ⟨F3, by rw [rb_it_l hread', t1], t2, fr_trans (fr_trans hfrA q12) t3⟩⟩
                exfalso
                rw [hxs] at h
                cases hx1 : xe A (vl gv df) n (vl gv df m) with
                | none => rw [hx1] at h; cases h
                | some E =>
                  rw [hx1] at h
                  simp only at h
                  have hle : E.2 ≤ (rpx E rp).2 := by
                    unfold rpx
                    split
                    · exact Nat.le_refl _
                    · exact Nat.le_max_left _ _
                  cases hr : xe A (vl gv df) (n + 1) r with
                  | none => rw [hr] at h; cases h
                  | some q =>
                    rw [hr] at h
                    cases h
                    exact hfit ⟨E.1, E.2, hx1, by omega⟩
      · rw [if_neg hc] at hread
        obtain ⟨F2, e1, e2, e3, e4⟩ := m_append (σ := σ) (b := b) hb hlnA ho hmA ((bs T gv s).getD p 0)
        rw [e1] at hread
        have hl1 : (o.length < 120) = (o.length + [(bs T gv s).getD p 0].length ≤ 120) := by
          apply propext
          simp only [List.length_singleton]
          omega
        simp only [hl1] at hread e2
        have hitm : itm A (slc (bs T gv s) p e) = some (.inl [(bs T gv s).getD p 0], slc (bs T gv s) (p + 1) e) := by
          rw [hcons, itm, if_neg hc]
        rw [hitm] at hxs
        have hfr2 : fr zI zA [] F F2 := fr_trans hfrA (fr_mono e4 (by simp) (by simp) (by simp))
        refine m_run_app (w := [(bs T gv s).getD p 0]) (r := slc (bs T gv s) (p + 1) e) (F2 := F2) hread (stk_trans hstA (stk_out e4)) hfr2 e3 (fun hw => by rw [if_pos hw] at e2; exact e2) hxs (fun hw => ?_)
        rw [if_pos hw] at e2
        exact ihk F2 (o ++ [(bs T gv s).getD p 0]) s (p + 1) e (by omega) (by omega) he hs (m_at_out e4 haA) e3 (fr_trans hF0 hfr2) (m_rd_fr hR hfr2) (by rw [List.length_append]; exact hw) (tk_app hto (fun c hc => by
          have : c = (bs T gv s).getD p 0 := by simpa using hc
          rw [this]; exact hcT)) e2
theorem m_run (hb : rb_b σ ≤ b) {x : Int32} (hA : m_cmd σ b F0 A x) (hAk : aok A) (hVk : vok (vl gv df)) : ∀ n, n ≤ 6 → m_R σ b x T gv df A F0 n := by
  intro n
  induction n with
  | zero => exact fun h => m_run_step hb hA hAk hVk h (fun n' h => by omega)
  | succ n ih => exact fun h => m_run_step hb hA hAk hVk h (fun n' h' => by
      have : n' = n := by omega
      subst this
      exact ih (by omega))
end
