/-! the print holds characters -/
def pch (l : List Nat) : Prop := ∀ c, c ∈ l → c < 128
theorem pch_app {a c : List Nat} (h1 : pch a) (h2 : pch c) : pch (a ++ c) := fun x hx => (List.mem_append.mp hx).elim (h1 x) (h2 x)
theorem puts_ch {p l : List Nat} (h1 : pch p) (h2 : pch l) : pch (x_puts p l) := fun x hx => pch_app h1 h2 x (List.mem_of_mem_take hx)
theorem tk_ch {l : List Nat} (h : tk l) : pch l := fun c hc => ((tk_ok h) c hc).2
theorem wl_ch {o : List Nat} (h : pch o) (W : List (Nat × Nat)) : ∀ s, s ∈ wl o W → pch s := by
  intro s hs c hc
  unfold wl at hs
  obtain ⟨k, _, hk⟩ := List.mem_map.mp hs
  subst hk
  unfold wd slc at hc
  exact h c (List.mem_of_mem_drop (List.mem_of_mem_take hc))
theorem perf_ch {ws : List (List Nat)} (hws : ∀ s, s ∈ ws → pch s) {S : PS} (h : pch (pP S)) : pch (pP (x_perf ws S).2) := by
  unfold x_perf
  split
  · exact h
  · split
    · exact h
    · split
      · refine puts_ch h (pch_app (join_c (fun s hs => hws s (List.mem_of_mem_drop hs))) (fun c hc => ?_))
        rw [List.mem_singleton.mp hc]
        decide
      · split
        · split
          · exact h
          · split
            · exact h
            · split <;> exact h
        · split
          · split
            · exact h
            · split
              · exact h
              · split <;> exact h
          · split
            · split
              · exact h
              · split
                · exact h
                · split
                  · exact h
                  · split <;> exact h
            · exact h
section
variable {R : RS} {gv : Nat → Option (List Nat)} {w : Nat}
theorem carry_ch (hin : rin R) (hgv : ∀ m v, gv m = some v → tk v ∧ v.length ≤ 320) {S : PS} (hN : nok (pN S)) {t : Nat} (ht : t < (pN S).length) {ch : CH} (hch : chok (pN S) ch) {ds : List Nat} (hds : ∀ d, d ∈ ds → d < (pN S).length) (nw : List Bool) {c : List Nat} (hck : tk c) (n : Nat) (h : pch (pP S)) : pch (pP (x_carry R gv w t ch ds nw c S n).2.1) := by
  rw [x_carry_eq]
  split
  · exact h
  · cases hx : xr (x_auto (pN S) ch ds nw t) (vl gv (rDf R)) (c.drop (nmk c)) with
    | none => exact h
    | some o =>
      have hto := xr_tk (auto_ok hN hch hds ht) (vl_ok2 hin hgv).1 (fun d hd => hck d (List.mem_of_mem_drop hd)) hx
      have ho := tk_ch hto
      simp only
      unfold x_aft
      have h1 : pch (pP (if op w 8 = true ∨ ((x_has c 64 || x_silent R w t) && !op w 2) = true then S else (pN S, pF S, pC S, x_puts (pP S) (o ++ [10])))) := by
        split
        · exact h
        · refine puts_ch h (pch_app ho (fun c hc => ?_))
          rw [List.mem_singleton.mp hc]
          decide
      simp only
      split
      · exact h1
      · exact perf_ch (wl_ch ho _) h1
theorem carries_ch (hin : rin R) (hgv : ∀ m v, gv m = some v → tk v ∧ v.length ≤ 320) {t : Nat} {ch : CH} {ds : List Nat} (nw : List Bool) : ∀ (cs : List (List Nat)) (S : PS) (n : Nat), (∀ c, c ∈ cs → tk c) → pok S → t < (pN S).length → chok (pN S) ch → (∀ d, d ∈ ds → d < (pN S).length) → pch (pP S) → pch (pP (x_carries R gv w t ch ds nw cs S n).2.1)
  | [], S, n, _, _, _, _, _, h => h
  | c :: cs, S, n, hcs, hS, ht, hch, hds, h => by
    have h1 := carry_ch (w := w) hin hgv hS.1 ht hch hds nw (hcs c (List.mem_cons_self ..)) n h
    have hok := carry_ok R gv w t ch ds nw c n hS
    unfold x_carries
    split
    · exact carries_ch hin hgv nw cs _ _ (fun c hc => hcs c (List.mem_cons_of_mem _ hc)) hok.1 (Nat.lt_of_lt_of_le ht hok.2) ⟨fun x hx => ⟨Nat.lt_of_lt_of_le (hch.1 x hx).1 hok.2, (hch.1 x hx).2⟩, hch.2⟩ (fun d hd => Nat.lt_of_lt_of_le (hds d hd) hok.2) h1
    · exact h1
theorem cmds_tk (hR : rok R) (ch : CH) : ∀ c, c ∈ x_cmds R ch → tk c := by
  intro c hc
  unfold x_cmds at hc
  obtain ⟨x, x1, x2⟩ := List.mem_filterMap.mp hc
  split at x2
  · injection x2 with x2
    subst x2
    obtain ⟨i, hi, he⟩ := List.mem_iff_getElem.mp x1
    have := (hR.2.2.2.2.2.2.2.2.2.1 i hi).2.2
    rw [getD_get hi, he] at this
    exact this
  · cases x2
theorem fin_ch (hin : rin R) (hgv : ∀ m v, gv m = some v → tk v ∧ v.length ≤ 320) {t : Nat} {ch : CH} {S : BS} (hS : bok R S) (ht : t < (pN S.1).length) (hch : chok (pN S.1) ch) (h : pch (pP S.1)) : pch (pP (x_fin R gv w t ch S).1) := by
  unfold x_fin
  split
  · have hNt : pN (x_touched R w t ch S.1) = pN S.1 := by
      unfold x_touched
      split <;> rfl
    have hpt : pch (pP (x_touched R w t ch S.1)) := by
      unfold x_touched
      split
      · show pch (if x_silent R w t = true then pP S.1 else x_puts (pP S.1) (q_touch ++ [32] ++ (pN S.1).getD t [] ++ [10]))
        split
        · exact h
        · refine puts_ch h (pch_app (pch_app (pch_app ?_ ?_) (sp_ok (hS.1.1.2 t ht)).2.2) ?_)
          · intro c hc
            revert c
            decide
          · intro c hc
            rw [List.mem_singleton.mp hc]
            decide
          · intro c hc
            rw [List.mem_singleton.mp hc]
            decide
      · exact h
    have hpokt : pok (x_touched R w t ch S.1) := by
      refine ⟨by rw [hNt]; exact hS.1.1, ?_⟩
      unfold x_touched
      split
      · show (if x_silent R w t = true then pP S.1 else x_puts (pP S.1) (q_touch ++ [32] ++ (pN S.1).getD t [] ++ [10])).length ≤ 400
        split
        · exact hS.1.2
        · exact puts_len _ _
      · exact hS.1.2
    exact carries_ch hin hgv _ _ _ _ (cmds_tk hin.1 ch) hpokt (by rw [hNt]; exact ht) (by rw [hNt]; exact hch) (by rw [hNt]; exact fun d hd => deps_N hin.1 hS.2.2.2.2 hch hd) hpt
  · exact h
theorem dep_inv {u : List Nat} {upd : Nat → BS → BS} {P : BS → Prop} (hupd : hup R u upd) (hP : ∀ d S, uok (pN S.1) u → d < (pN S.1).length → ¬ d ∈ u → bG S d = 0 → bok R S → P S → P (upd d S)) : ∀ (ds : List Nat) (a : Bool × BS), bok R a.2 → uok (pN a.2.1) u → (∀ d, d ∈ ds → d < (pN a.2.1).length) → P a.2 → P (ds.foldl (x_dep w u upd) a).2
  | [], a, _, _, _, hp => hp
  | d :: ds, a, h1, h2, h3, hp => by
    have hd := h3 d (List.mem_cons_self ..)
    have step : bok R (x_dep w u upd a d).2 ∧ (pN a.2.1).length ≤ (pN (x_dep w u upd a d).2.1).length ∧ P (x_dep w u upd a d).2 := by
      unfold x_dep
      split
      · exact ⟨h1, Nat.le_refl _, hp⟩
      · split
        · rename_i hc
          obtain ⟨q1, q2, q3, q4⟩ := hupd d a.2 h2 hd hc.2 hc.1 h1
          exact ⟨q1, q2, hP d a.2 h2 hd hc.2 hc.1 h1 hp⟩
        · exact ⟨h1, Nat.le_refl _, hp⟩
    rw [List.foldl_cons]
    obtain ⟨s1, s2, s3⟩ := step
    exact dep_inv hupd hP ds (x_dep w u upd a d) s1 (uok_mono h2 s2) (fun e he => Nat.lt_of_lt_of_le (h3 e (List.mem_cons_of_mem _ he)) s2) s3
theorem upd_ch (hin : rin R) (hgv : ∀ m v, gv m = some v → tk v ∧ v.length ≤ 320) : ∀ (n : Nat) (u : List Nat) (t : Nat) (S : BS), 33 ≤ n + u.length → uok (pN S.1) u → t < (pN S.1).length → ¬ t ∈ u → bG S t = 0 → bok R S → pch (pP S.1) → pch (pP (x_upd R gv w n u t S).1) := by
  have hR := hin.1
  intro n
  induction n with
  | zero =>
    intro u t S h33 hu ht htu _ hS
    have := (u_len hS.1.1 hu ht htu).1
    omega
  | succ n ih =>
    intro u t S h33 hu ht htu h0 hS hp
    have ht32 : t < 32 := Nat.lt_of_lt_of_le ht hS.1.1.1
    have hu2 := (u_len hS.1.1 hu ht htu).2
    have hhup : hup R (t :: u) (x_upd R gv w n (t :: u)) := fun d' S' u1 u2 u3 u4 u5 => upd_ok hR gv w n (t :: u) d' S' (by rw [List.length_cons]; omega) u1 u2 u3 u4 u5
    unfold x_upd
    cases hx : x_choose R (pN S.1) (pF S.1) t with
    | none => exact hp
    | some ch =>
      have hc := choose_ok hR hS.1.1 ht hx
      have hdN : ∀ d, d ∈ x_deps R ch t → d < (pN S.1).length := fun d hd => deps_N hR hS.2.2.2.2 hc hd
      have hf := dep_ok (w := w) hhup (x_deps R ch t) (false, S) hS hu2 hdN
      have hcl := dep_inv (w := w) (P := fun S => pch (pP S.1)) hhup (fun d S' a1 a2 a3 a4 a5 a6 => ih (t :: u) d S' (by rw [List.length_cons]; omega) a1 a2 a3 a4 a5 a6) (x_deps R ch t) (false, S) hS hu2 hdN hp
      simp only
      generalize (x_deps R ch t).foldl (x_dep w (t :: u) (x_upd R gv w n (t :: u))) (false, S) = X at hf hcl ⊢
      obtain ⟨f1, f2, f3⟩ := hf
      split
      · exact hcl
      · exact fin_ch hin hgv f1 (Nat.lt_of_lt_of_le ht f2) ⟨fun x hx => ⟨Nat.lt_of_lt_of_le (hc.1 x hx).1 f2, (hc.1 x hx).2⟩, hc.2⟩ hcl
end
theorem ch_build {X : XS} (h : xok X) (hck : xC X + 57632 ≤ 2000000000) (w : Int32) (hp : pch (xP X)) : pch (xP (c_build w X).2) := by
  have h0 := h
  obtain ⟨x1, x2, x3, x4, x5, x6, x7⟩ := h0
  have hN := x5.1.1
  have hgv : ∀ m v, xV X m = some v → tk v ∧ v.length ≤ 320 := fun m v hv => ⟨(x4 m v hv).2, Nat.le_trans (x4 m v hv).1 (by decide)⟩
  unfold c_build
  split
  · exact hp
  · split
    · exact hp
    · have hN' := nmeet_ok hN (xD X)
      have hNl := nmeet_len (rN (xR X)) (xD X)
      have hltm := @nmeet_lt (rN (xR X)) (xD X)
      have hgoal : nok (x_goal X).2 ∧ (rN (xR X)).length ≤ (x_goal X).2.length ∧ ∀ t, (x_goal X).1 = some t → t < (x_goal X).2.length := by
        unfold x_goal
        split
        · exact ⟨hN, Nat.le_refl _, fun t ht => x5.1.2.2.2.2.2.2.1 t ht⟩
        · exact ⟨hN', hNl, fun t ht => hltm ht⟩
      rcases hx : x_goal X with ⟨r, N⟩
      rw [hx] at hgoal
      cases r with
      | none => exact hp
      | some t =>
        obtain ⟨hS, _⟩ := x_run_ok (w := w.toNatClampNeg) h hck hgoal.1 hgoal.2.1 (hgoal.2.2 t rfl)
        exact upd_ch x5 hgv 33 [] t ((N, xF X, xC X, []), 0, false, fun _ => 0) (by simp) ⟨List.nodup_nil, fun j hj => (by cases hj)⟩ (hgoal.2.2 t rfl) (by simp) rfl hS (fun c hc => by cases hc)
theorem r_printedAt {σ : rb_St} {b : Nat} {F : fx_F} {X : XS} (h : CR σ b F X) (hok : xok X) (hp : pch (xP X)) (i : Int32) : f_RB_printedAt (some (fx_ad b 0)) i (fx_mk σ b F) = some (some (.int (x_at (xP X).length (-1) (fun k => nI ((xP X).getD k 0)) i)), fx_mk σ b F) := by
  obtain ⟨ad, I, src, h0⟩ := h
  have hp26 : tw F 26 (xP X) := h0.2.2.2.2.1.2.2.2.2.1
  have hlen := c_tlen (σ := σ) (b := b) tO26 hp26
  have h400 := hok.2.2.2.2.2.2
  unfold f_RB_printedAt x_at
  by_cases h1 : i < 0
  · rw [if_pos h1, if_pos h1]
  · rw [if_neg h1, if_neg h1]
    obtain ⟨i, hi, rfl⟩ := nI_of h1
    rw [u_cl hi]
    simp only [↓fx_bc, ↓fc26, ↓cI_of hlen]
    by_cases h2 : i < (xP X).length
    · have hat := c_at (σ := σ) (b := b) tO26 h0.2.1 hp26 (fun c hc => Nat.lt_trans (hp c hc) (by decide)) (i := i) hi
      rw [if_pos (show nI i < nI (xP X).length by rw [u_lt (by omega) (by omega)]; exact h2), if_neg (show ¬ nI (xP X).length ≤ nI i by rw [u_le (by omega) (by omega)]; omega)]
      simp only [↓fx_bc, ↓fc26, ↓cI_of hat]
    · rw [if_neg (show ¬ nI i < nI (xP X).length by rw [u_lt (by omega) (by omega)]; exact h2), if_pos (nI_le (by omega) (by omega))]
