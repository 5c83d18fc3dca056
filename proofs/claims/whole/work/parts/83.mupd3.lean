/-! the reference: update, whole -/
section
variable {σ : rb_St} {b : Nat} {F : fx_F} {T : List Nat} {gv : Nat → Option (List Nat)} {R : RS}
theorem m_upd (hb : rb_b σ ≤ b) (hR : rok R) (hE : eok R) {w : Nat} (hw : w < 64) (hT3 : T.length ≤ 320) (hTk : tk T) (hgo : gok gv) : ∀ (n : Nat) (u : List Nat) (t : Nat) (S : BS) (F : fx_F), 33 ≤ n + u.length → uok (pN S.1) u → t < (pN S.1).length → ¬ t ∈ u → bG S t = 0 → bok R S → m_st T gv R w F S u → ∃ F1, f_M_begin (some (fx_ad b 34)) (nI t) (fx_mk σ b F) = some (none, fx_mk σ b F1) ∧ ∃ F', rb_it (fun z : (rb_St) => f_M_update_b10 (some (fx_ad b 34)) z) (fx_mk σ b F1) = rb_it (fun z : (rb_St) => f_M_update_b10 (some (fx_ad b 34)) z) (fx_mk σ b F') ∧ m_st T gv R w F' (x_upd R gv w n u t S) u ∧ pu u F F' := by
  intro n
  induction n with
  | zero =>
    intro u t S F h33 hu ht htu _ hS
    have := (u_len hS.1.1 hu ht htu).1
    omega
  | succ n ih =>
    intro u t S F h33 hu ht htu h0 hS hM
    have ht32 : t < 32 := Nat.lt_of_lt_of_le ht hS.1.1.1
    obtain ⟨hul, hu2⟩ := u_len hS.1.1 hu ht htu
    obtain ⟨hB, hF, m1, m2, m3, m4⟩ := hM
    have hdr1 : ∀ F1 : fx_F, fr zGi zGa [77] F F1 → F1.1 3401 = nI 0 := fun F1 h => (h.1 3401 (by decide)).trans m4
    have h72 : (F.2.1 72)[t]? = some (nI 0) := by
      rw [hB.2.2 t ht32, h0]
    obtain ⟨F1, a1, a2, a3, a4, a5⟩ := m_begin (σ := σ) (b := b) hb hF hR hE hB.1 hS.1.1 ht (show u.length < 32 by omega) h72 m2
    refine ⟨F1, a1, ?_⟩
    have hB1 : m_bx T gv R w F1 S.1 S.2.1 := m_bx_fr hB.1 a3 (by decide) (by decide) (by decide)
    have hc69 : F1.1 3469 = nI (b2 S.2.2.1) := (a3.1 3469 (by decide)).trans hB.2.1
    have hpu1 : pu u F F1 := pu_pf a4 (mF_fr a3 (by decide) (by decide)) htu
    have hl73 := hF.1 73
    have hl80 := hF.1 80
    simp only [fx_cI] at hl73 hl80
    unfold x_upd
    cases hx : x_choose R (pN S.1) (pF S.1) t with
    | none =>
      rw [hx] at a5
      obtain ⟨c1, c2, c3, c4⟩ := a5
      refine ⟨F1, rfl, ⟨⟨hB1, hc69, fun j hj => ?_⟩, a2, fun j hj => ?_, c4, fun i hi => ?_, hdr1 F1 a3⟩, hpu1⟩
      · show _ = some (nI (up1 (bG S) t 3 j))
        by_cases e : j = t
        · rw [e, up1_eq]
          exact c1
        · rw [up1_ne e, a4.1 72 j e (by omega) (by omega)]
          exact hB.2.2 j hj
      · rw [c2]
        exact m1 j hj
      · rw [c3]
        exact m3 i hi
    | some ch =>
      rw [hx] at a5
      obtain ⟨c1, c2, c3, c4, c5, c6, c7⟩ := a5
      have hc := choose_ok hR hS.1.1 ht hx
      have hdl81 := deps_len (rok_prk hR) ch t
      have hM1 : m_st T gv R w F1 S (t :: u) := by
        refine ⟨⟨hB1, hc69, fun j hj => ?_⟩, a2, fun j hj => ?_, ?_, fun i hi => ?_, hdr1 F1 a3⟩
        · by_cases e : j = t
          · rw [e, h0]
            exact c1
          · rw [a4.1 72 j e (by omega) (by omega)]
            exact hB.2.2 j hj
        · rw [c2, set_get (by omega)]
          by_cases e : j = t
          · rw [if_pos e, decide_eq_true (show j ∈ t :: u by rw [e]; exact List.mem_cons_self ..), b2_t]
          · rw [if_neg e, m1 j hj]
            simp only [List.mem_cons, e, false_or]
        · rw [List.length_cons]
          exact c4
        · rw [List.length_cons] at hi ⊢
          rw [c3, set_get (by omega)]
          cases i with
          | zero =>
            rw [if_pos (by omega)]
            rfl
          | succ i =>
            rw [if_neg (by omega), show u.length + 1 - 1 - (i + 1) = u.length - 1 - i by omega]
            exact m3 i (by omega)
      -- over the dependencies
      have key : ∀ (m k : Nat) (F : fx_F) (S : BS) (fl : Bool), k + m = (x_deps R ch t).length → bok R S → uok (pN S.1) (t :: u) → chok (pN S.1) ch → bG S t = 0 → m_st T gv R w F S (t :: u) → m_ch F t ch → (F.2.1 74)[t]? = some (nI (b2 fl)) → (F.2.1 75)[t]? = some (nI k) → ∃ F', rb_it (fun z : (rb_St) => f_M_update_b10 (some (fx_ad b 34)) z) (fx_mk σ b F) = rb_it (fun z : (rb_St) => f_M_update_b10 (some (fx_ad b 34)) z) (fx_mk σ b F') ∧ m_st T gv R w F' (if (((x_deps R ch t).drop k).foldl (x_dep w (t :: u) (x_upd R gv w n (t :: u))) (fl, S)).1 = true then wG (((x_deps R ch t).drop k).foldl (x_dep w (t :: u) (x_upd R gv w n (t :: u))) (fl, S)).2 t 3 else x_fin R gv w t ch (((x_deps R ch t).drop k).foldl (x_dep w (t :: u) (x_upd R gv w n (t :: u))) (fl, S)).2) u ∧ pu u F F' := by
        intro m
        induction m with
        | zero =>
          intro k F S fl hk hS hu2 hc h0 hM hch h74 h75
          have htop := m_top (σ := σ) (b := b) hw hS hR hu2 hc hM hch h74 (by omega) h75
          rw [List.getElem?_eq_none (by omega), oi_none, ite_self] at htop
          obtain ⟨F', e1, e2, e3⟩ := m_pop (σ := σ) (b := b) hb hR hw hT3 hTk hgo hS hu2 hc (fun d hd => deps_N hR hS.2.2.2.2 hc hd) h0 hM hch fl h74
          rw [List.drop_eq_nil_of_le (by omega)]
          refine ⟨F', ?_, e2, e3⟩
          exact rb_it_l (htop.trans e1)
        | succ m ihm =>
          intro k F S fl hk hS hu2 hc h0 hM hch h74 h75
          have htop := m_top (σ := σ) (b := b) hw hS hR hu2 hc hM hch h74 (by omega) h75
          by_cases hst : fl = true ∧ op w 1 = false
          · rw [if_pos hst] at htop
            rw [foldl_stuck (a := (fl, S)) hst]
            obtain ⟨F', e1, e2, e3⟩ := m_pop (σ := σ) (b := b) hb hR hw hT3 hTk hgo hS hu2 hc (fun d hd => deps_N hR hS.2.2.2.2 hc hd) h0 hM hch fl h74
            exact ⟨F', rb_it_l (htop.trans e1), e2, e3⟩
          · rw [if_neg hst] at htop
            have hkd : k < (x_deps R ch t).length := by omega
            have hdN : (x_deps R ch t)[k] < (pN S.1).length := deps_N hR hS.2.2.2.2 hc (List.getElem_mem hkd)
            rw [List.getElem?_eq_getElem hkd, oi_some] at htop
            rw [List.drop_eq_getElem_cons hkd, List.foldl_cons]
            have hgetd : (x_deps R ch t)[k]? = some (x_deps R ch t)[k] := List.getElem?_eq_getElem hkd
            generalize hdd : (x_deps R ch t)[k] = d at hdN htop hgetd ⊢
            have hd32 : d < 32 := Nat.lt_of_lt_of_le hdN hS.1.1.1
            have hft := hM.1.2.2 d hd32
            have hun := hM.2.2.1 d hd32
            have hg3 := hS.2.2.2.1 d
            by_cases hgo2 : bG S d = 0 ∧ ¬ d ∈ t :: u
            · -- it is begun
              have hxd : x_dep w (t :: u) (x_upd R gv w n (t :: u)) (fl, S) d = (fl || decide (bG (x_upd R gv w n (t :: u) d S) d = 3), x_upd R gv w n (t :: u) d S) := by
                unfold x_dep
                rw [if_neg hst, if_pos hgo2]
              rw [hxd]
              obtain ⟨G1, b1, G2, b2', b3, b4⟩ := ih (t :: u) d S F (by rw [List.length_cons]; omega) hu2 hdN hgo2.2 hgo2.1 hS hM
              obtain ⟨u1, u2, u3, u4⟩ := upd_ok hR gv w n (t :: u) d S (by rw [List.length_cons]; omega) hu2 hdN hgo2.2 hgo2.1 hS
              generalize x_upd R gv w n (t :: u) d S = S2 at b3 u1 u2 u3 u4 ⊢
              have hstep1 : f_M_update_b10 (some (fx_ad b 34)) (fx_mk σ b F) = some (.inl (fx_mk σ b G1)) := by
                rw [htop]
                rw [hgo2.1] at hft
                rw [decide_eq_false hgo2.2, b2_f] at hun
                unfold f_M_update_j61
                simp (disch := omega) only [↓fx_bm, ↓bx_of rfl (show d < 2147483648 by omega) hft, ↓bx_of rfl (show d < 2147483648 by omega) hun, ↓cV_of b1, ↓reduceIte, n_ltT, n_ltF, n_leT, n_leF, n_eqT, n_eqF, nI_1, u_lt, u_le, u_eq, u_add, u_ix, u_ixL, u_ixR, u_cl, u_nm1, u_nm1', u_m1l, u_m1n, u_l0, Option.bind_some, Option.map_some, not_true_eq_false, not_false_eq_true, true_and, and_true, Nat.add_sub_cancel, Bool.false_eq_true, u_nar2]
              have hu3' := uok_mono hu2 u2
              have hc3 := chok_mono hc u2
              have hch2 := m_ch_pu b4 (List.mem_cons_self ..) hch
              have h742 : (G2.2.1 74)[t]? = some (nI (b2 fl)) := by
                rw [(b4.2 t (List.mem_cons_self ..)).1 74 (by omega) (by omega)]
                exact h74
              have h752 : (G2.2.1 75)[t]? = some (nI k) := by
                rw [(b4.2 t (List.mem_cons_self ..)).1 75 (by omega) (by omega)]
                exact h75
              have htop2 := m_top (σ := σ) (b := b) hw u1 hR hu3' hc3 b3 hch2 h742 (by omega) h752
              rw [if_neg hst, hgetd, oi_some] at htop2
              have hft2 := b3.1.2.2 d hd32
              have hg32 := u1.2.2.2.1 d
              obtain ⟨F3, e1, e2, e3, e4, e5, e6⟩ := m_note (σ := σ) (b := b) hb u1 hu3' b3 hch2 h742 (show k < 900 by omega) h752 hd32
              have hstep2 : f_M_update_b10 (some (fx_ad b 34)) (fx_mk σ b G2) = some (.inl (fx_mk σ b F3)) := by
                rw [htop2, ← e1]
                unfold f_M_update_j61
                simp (disch := omega) only [↓fx_bm, ↓bx_of rfl (show d < 2147483648 by omega) hft2, ↓reduceIte, n_ltT, n_ltF, n_leT, n_leF, n_eqT, n_eqF, nI_1, u_lt, u_le, u_eq, u_add, u_ix, u_ixL, u_ixR, u_cl, u_nm1, u_nm1', u_m1l, u_m1n, u_l0, Option.bind_some, Option.map_some, not_true_eq_false, not_false_eq_true, true_and, and_true, Nat.add_sub_cancel, Bool.false_eq_true, u_nar2]
              rw [decide_eq_false hgo2.2, Bool.or_false] at e4
              obtain ⟨F', f1, f2, f3⟩ := ihm (k + 1) F3 S2 (fl || decide (bG S2 d = 3)) (by omega) u1 hu3' hc3 ((u4 t (List.mem_cons_self ..)).trans h0) e2 e3 e4 e5
              refine ⟨F', ?_, f2, pu_trans (pu_sub b4) (pu_trans e6 f3)⟩
              rw [rb_it_l hstep1, b2', rb_it_l hstep2, f1]
            · have hxd : x_dep w (t :: u) (x_upd R gv w n (t :: u)) (fl, S) d = (fl || decide (d ∈ t :: u) || decide (bG S d = 3), S) := by
                unfold x_dep
                rw [if_neg hst, if_neg hgo2]
              rw [hxd]
              obtain ⟨F3, e1, e2, e3, e4, e5, e6⟩ := m_note (σ := σ) (b := b) hb hS hu2 hM hch h74 (show k < 900 by omega) h75 hd32
              have hstep2 : f_M_update_b10 (some (fx_ad b 34)) (fx_mk σ b F) = some (.inl (fx_mk σ b F3)) := by
                rw [htop, ← e1]
                unfold f_M_update_j61
                by_cases hz : bG S d = 0
                · have hin : d ∈ t :: u := Decidable.not_not.mp (fun h => hgo2 ⟨hz, h⟩)
                  rw [hz] at hft
                  rw [decide_eq_true hin, b2_t] at hun
                  simp (disch := omega) only [↓fx_bm, ↓bx_of rfl (show d < 2147483648 by omega) hft, ↓bx_of rfl (show d < 2147483648 by omega) hun, ↓reduceIte, n_ltT, n_ltF, n_leT, n_leF, n_eqT, n_eqF, nI_1, u_lt, u_le, u_eq, u_add, u_ix, u_ixL, u_ixR, u_cl, u_nm1, u_nm1', u_m1l, u_m1n, u_l0, Option.bind_some, Option.map_some, not_true_eq_false, not_false_eq_true, true_and, and_true, Nat.add_sub_cancel, Bool.false_eq_true, u_nar2]
                · simp (disch := omega) only [↓fx_bm, ↓bx_of rfl (show d < 2147483648 by omega) hft, ↓reduceIte, n_ltT, n_ltF, n_leT, n_leF, n_eqT, n_eqF, nI_1, u_lt, u_le, u_eq, u_add, u_ix, u_ixL, u_ixR, u_cl, u_nm1, u_nm1', u_m1l, u_m1n, u_l0, Option.bind_some, Option.map_some, not_true_eq_false, not_false_eq_true, true_and, and_true, Nat.add_sub_cancel, Bool.false_eq_true, u_nar2]
              obtain ⟨F', f1, f2, f3⟩ := ihm (k + 1) F3 S (fl || decide (d ∈ t :: u) || decide (bG S d = 3)) (by omega) hS hu2 hc h0 e2 e3 e4 e5
              refine ⟨F', ?_, f2, pu_trans e6 f3⟩
              rw [rb_it_l hstep2, f1]
      obtain ⟨F', f1, f2, f3⟩ := key (x_deps R ch t).length 0 F1 S false (by omega) hS hu2 hc h0 hM1 c5 c6 c7
      rw [List.drop_zero] at f2
      exact ⟨F', f1, f2, pu_trans hpu1 f3⟩
theorem m_update (hb : rb_b σ ≤ b) (hR : rok R) (hE : eok R) {w : Nat} (hw : w < 64) (hT3 : T.length ≤ 320) (hTk : tk T) (hgo : gok gv) {t : Nat} {S : BS} (ht : t < (pN S.1).length) (h0 : bG S t = 0) (hS : bok R S) (hF : fx_ln F) (hB : m_bg T gv R w F S) (h73 : ∀ j, j < 32 → (F.2.1 73)[j]? = some (nI 0)) (h01 : F.1 3401 = nI 0) : ∃ F', f_M_update (some (fx_ad b 34)) (nI t) (fx_mk σ b F) = some (none, fx_mk σ b F') ∧ m_bg T gv R w F' (x_upd R gv w 33 [] t S) ∧ fx_ln F' ∧ F'.1 3401 = nI 0 ∧ mF F F' := by
  have hfr0 : fr [3466] [] [] F (fx_I F 3466 (nI 0)) := fr_I (fr_refl _ _ _ _) (by decide)
  have hM : m_st T gv R w (fx_I F 3466 (nI 0)) S [] := ⟨⟨m_bx_fr hB.1 hfr0 (by decide) (by decide) (by decide), (hfr0.1 3469 (by decide)).trans hB.2.1, m_fates_fr hB.2.2 hfr0 (by decide)⟩, fx_lnI hF, fun j hj => h73 j hj, by rw [fx_I_1, if_pos rfl]; rfl, fun i hi => absurd hi (Nat.not_lt_zero _), (hfr0.1 3401 (by decide)).trans h01⟩
  obtain ⟨F1, a1, F', a2, a3, a4⟩ := m_upd (σ := σ) (b := b) hb hR hE hw hT3 hTk hgo 33 [] t S (fx_I F 3466 (nI 0)) (by simp) ⟨List.nodup_nil, fun j hj => (by cases hj)⟩ ht (by simp) h0 hS hM
  refine ⟨F', ?_, a3.1, a3.2.1, a3.2.2.2.2.2, mF_trans (mF_fr hfr0 (by decide) (by decide)) a4.1⟩
  have a1' : f_M_begin (some (fx_ad b 34)) (nI t) (fx_mk σ b (fx_I F 3466 (0 : Int32))) = some (none, fx_mk σ b F1) := a1
  have hd := a3.2.2.2.1
  rw [List.length_nil] at hd
  unfold f_M_update
  simp (disch := omega) only [↓fx_bm, ↓fx_vm hb, ↓cV_of a1']
  rw [a2]
  refine rb_it_r ?_
  show f_M_update_b10 _ _ = _
  unfold f_M_update_b10
  simp (disch := omega) only [↓fx_bm, hd, ↓reduceIte, n_ltT, n_ltF, n_leT, n_leF, n_eqT, n_eqF, nI_1, u_lt, u_le, u_eq, u_add, u_ix, u_ixL, u_ixR, u_cl, u_nm1, u_nm1', u_m1l, u_m1n, u_l0, Option.bind_some, Option.map_some, not_true_eq_false, not_false_eq_true, true_and, and_true, Nat.add_sub_cancel, Bool.false_eq_true, u_nar2]
end
