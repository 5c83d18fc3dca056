/-! the class: a command line -/
abbrev zQi : List Nat := [301, 501, 505, 507, 510, 511, 513, 514, 1305, 1401, 2104, 2805, 2806, 2807, 2901]
abbrev zQa : List Nat := [9, 15, 20, 22, 23, 30]
abbrev zQr : List Nat := [512, 1306]
abbrev zQq : List Nat := [4, 6, 7, 8, 10, 11, 12, 19, 24]
/-- how the reading of a piece comes out -/
def rres (σ : rb_St) (b : Nat) (F : fx_F) (N : List (List Nat)) (ad : Nat → Nat) (I : Nat → Nat → Int32) (n s : Nat) (x : Bool × RS) (σ' : rb_St) (F' : fx_F) : Prop := ∃ ad' I' src', nx σ' b F' (rN x.2) ad' I' src' ∧ nxr N ad I (rN x.2) ad' I' ∧ hx σ σ' ∧ gw n s σ σ' ∧ cf zQi zQa zQr zQq F F' ∧ fx_ln F' ∧ lg F' ∧ (x.1 = true → cr σ' b F' x.2 ad' I' ∧ rd F' x.2 I' ∧ gin x.2)
theorem crow_app {σ : rb_St} {b : Nat} {F F' : fx_F} {Cm : List (Nat × List Nat)} {g p : Nat} {t : List Nat} (h : crow σ b F Cm) (hl : Cm.length < (F.2.2.2.2 10).length) (hq : F'.2.2.2.2 10 = (F.2.2.2.2 10).set Cm.length (some p)) (hp : cmx σ b p (oi (fg (Cm ++ [(g, t)]) g)) t) : crow σ b F' (Cm ++ [(g, t)]) := by
  intro i hi
  rw [List.length_append, List.length_cons, List.length_nil] at hi
  rw [hq, set_get hl]
  by_cases e : i = Cm.length
  · rw [if_pos e, e, getD_push]
    exact ⟨p, rfl, hp⟩
  · rw [if_neg e, getD_pushl (by omega)]
    obtain ⟨p2, q1, q2⟩ := h i (by omega)
    refine ⟨p2, q1, ?_⟩
    rw [fg_app]
    cases hx : fg Cm (Cm.getD i (0, [])).1 with
    | none =>
      have := sr_none (show sr (fun k => decide ((Cm.getD k (0, [])).1 = (Cm.getD i (0, [])).1)) Cm.length 0 = none from hx) i (Nat.zero_le _) (by omega)
      rw [decide_eq_true rfl] at this
      cases this
    | some j =>
      rw [hx] at q2
      exact q2
section
variable {σ : rb_St} {b : Nat} {F : fx_F}
theorem tO29 : tO 29 := Or.inr (Or.inr (Or.inr (Or.inr (Or.inl rfl))))
theorem fc29 (G : fx_F) {β : Type} (f : List Value → Option β) : (rb_fc (fx_mk σ b G) (some (fx_ad b 29)) 2).bind f = f (fx_row b G 29) := (t_b tO29).1 f
theorem c_addCommand (hk : kx σ b) (hF : fx_ln F) {Cm : List (Nat × List Nat)} (h : cr3 σ b F Cm) (hl : Cm.length ≤ 30) {a : Nat} {t : List Nat} (hs : sx σ b a t) (htl : t.length ≤ 320) (x : Int32) : ∃ σ' F', f_Rules_addCommand (some (fx_ad b 5)) (some a) x (fx_mk σ b F) = some (some (.int (nI (b2 (decide (¬ Cm.length = 30))))), fx_mk σ' b F') ∧ hn σ σ' ∧ gw 3 400 σ σ' ∧ cf [507] [] [] [10] F F' ∧ fx_ln F' ∧ (¬ Cm.length = 30 → ∀ g, x = oi (fg (Cm ++ [(g, t)]) g) → cr3 σ' b F' (Cm ++ [(g, t)])) := by
  have hl10 := hF.2.2 10
  simp only [fx_cR] at hl10
  unfold f_Rules_addCommand
  simp only [↓fx_bc, h.1]
  by_cases e : Cm.length = 30
  · rw [if_pos (show nI Cm.length = (30 : Int32) by rw [e]; rfl)]
    refine ⟨σ, F, ?_, hn_refl _, gw_mono (gw_refl _) (by decide) (by decide), cf_refl _ _ _ _ _, hF, fun h => absurd e h⟩
    rw [decide_eq_false (by simpa using e)]
    rfl
  · obtain ⟨σ1, s, a1, a2, a3, a4, a5, a6, a7⟩ := c_newCmd (F := F) hk hs htl x
    have hb1 : rb_b σ1 ≤ b := by rw [a6.1.2.1]; exact hk.1
    have htag : ∀ a, some (rb_n σ) = some a → ((fx_mk σ1 b F).1 a).1 = rb_ce 113 := fun a ha => by
      injection ha with ha
      subst ha
      rw [fx_out a4, a2]
      rfl
    have hsr : rb_sR (fx_mk σ1 b F) (some (fx_ad b 10)) 113 (nI Cm.length) (some (rb_n σ)) = some (fx_mk σ1 b (fx_Q F 10 ((F.2.2.2.2 10).set Cm.length (some (rb_n σ))))) := by
      rw [fx_sR (o := 10) (t := 113) (by decide) rfl (by decide) hb1 htag, u_cl (by omega), if_pos ⟨by rw [u_l0, u_lt (by omega) (by omega)]; omega, by omega⟩]
    have hsr' : rb_sR (fx_mk σ1 b F) (some (fx_ad b 10)) 113 (nI Cm.length) (some (rb_n (fx_mk σ b F))) = some (fx_mk σ1 b (fx_Q F 10 ((F.2.2.2.2 10).set Cm.length (some (rb_n σ))))) := hsr
    rw [if_neg (show ¬ nI Cm.length = (30 : Int32) by rw [show (30 : Int32) = nI 30 from rfl, u_eq (by omega) (by omega)]; exact e)]
    refine ⟨σ1, fx_I (fx_Q F 10 ((F.2.2.2.2 10).set Cm.length (some (rb_n σ)))) 507 (nI (Cm.length + 1)), ?_, a6, gw_mono a7 (by omega) (by omega), cf_I (cf_Q (cf_refl _ _ _ _ _) (by decide)) (by decide), fx_lnI (fx_lnQ hF (by rw [List.length_set]; exact hF.2.2 10)), fun _ g hg => ⟨by rw [fx_I_1, if_pos rfl, List.length_append, List.length_cons, List.length_nil], ?_⟩⟩
    · rw [cV_of a1, hsr', Option.bind_some]
      simp only [↓fx_bc, ↓fx_vc hb1, fx_Q_1, h.1, u_l1, u_add]
      rw [decide_eq_true e]
      rfl
    · refine crow_app (F := F) (p := rb_n σ) (fun i hi => ?_) (by omega) (by rw [fx_I_Q, fx_Q_Q, if_pos rfl]) ?_
      · obtain ⟨p, p1, p2⟩ := h.2 i hi
        exact ⟨p, p1, cmx_hx p2 a6.1⟩
      · rw [← hg]
        exact ⟨a4, a5, s, a2, a3, htl⟩
/-- the rest of a command line -/
theorem c_cmdTail (hk : kx σ b) (hF : fx_ln F) {Cm : List (Nat × List Nat)} (h : cr3 σ b F Cm) (hl : Cm.length ≤ 30) {t : List Nat} (htk : tk t) (htl : t.length ≤ 319) (htx : tw F 29 (9 :: t)) {x : Int32} (hx7 : F.1 2807 = x) : ∃ σ' F', f_Reader_readCommandLine_j45 (some (fx_ad b 28)) (fx_mk σ b F) = some (some (.int (nI (b2 (decide (¬ Cm.length = 30))))), fx_mk σ' b F') ∧ hn σ σ' ∧ gw 6 1100 σ σ' ∧ cf [507] [] [] [10] F F' ∧ fx_ln F' ∧ (¬ Cm.length = 30 → ∀ g, x = oi (fg (Cm ++ [(g, t)]) g) → cr3 σ' b F' (Cm ++ [(g, t)])) := by
  have hc : ∀ c, c ∈ (9 :: t) → c < 128 := fun c hc => by
    rcases List.mem_cons.mp hc with e | e
    · rw [e]; decide
    · exact ((tk_ok htk) c e).2
  have hlen := c_tlen (σ := σ) (b := b) tO29 htx
  obtain ⟨σ1, a, a1, a2, a3, a4⟩ := c_cut (σ := σ) (b := b) tO29 hF hk htx hc (p := 1) (q := (9 :: t).length) (by rw [List.length_cons]; omega) (Nat.le_refl _)
  have hsl : slc (9 :: t) 1 (9 :: t).length = t := by
    unfold slc
    rw [List.drop_succ_cons, List.drop_zero, List.length_cons, Nat.add_sub_cancel, List.take_length]
  rw [hsl] at a2
  have h1 : cr3 σ1 b F Cm := ⟨h.1, fun i hi => by
    obtain ⟨p, p1, p2⟩ := h.2 i hi
    exact ⟨p, p1, cmx_hx p2 a3.1⟩⟩
  obtain ⟨σ2, F2, c1, c2, c3, c4, c5, c6⟩ := c_addCommand (kx_hx hk a3.1) hF h1 hl a2 (by omega) x
  refine ⟨σ2, F2, ?_, hn_trans a3 c2, gw_mono (gw_trans a4 c3) (by omega) (by rw [List.length_cons]; omega), c4, c5, c6⟩
  unfold f_Reader_readCommandLine_j45
  have a1' : f_Text_cut (some (fx_ad b 29)) (1 : Int32) (nI (9 :: t).length) (fx_mk σ b F) = _ := a1
  simp only [↓fx_bc, ↓fc29, ↓cI_of hlen, ↓cR_of a1', hx7, ↓cI_of c1]
  rw [if_pos (isZ_b2 _)]
end
