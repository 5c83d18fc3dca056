/-! the class: a name is updated -/
abbrev zVi : List Nat := [301, 302, 1305, 1401, 1601, 2104, 2601, 3106, 3107, 3201]
abbrev zVa : List Nat := [15, 17, 20, 22, 23, 27, 33]
def bst (σ : rb_St) (b : Nat) (F : fx_F) (R : RS) (gv : Nat → Option (List Nat)) (w : Nat) (u : List Nat) (S : BS) (ad : Nat → Nat) (I : Nat → Nat → Int32) (src : Nat → Option Nat) : Prop := cst σ b F R gv w S.1 S.2.1 ad I src ∧ F.1 3106 = nI (b2 S.2.2.1) ∧ (∀ k, k < (pN S.1).length → I k 10 = nI (bG S k) ∧ I k 11 = nI (b2 (decide (k ∈ u)))) ∧ ∀ k, (pN S.1).length ≤ k → bG S k = 0
def ugo (u : List Nat) (N : List (List Nat)) (ad : Nat → Nat) (I : Nat → Nat → Int32) (src : Nat → Option Nat) (N' : List (List Nat)) (ad' : Nat → Nat) (I' : Nat → Nat → Int32) (src' : Nat → Option Nat) : Prop := N.length ≤ N'.length ∧ (∀ k, k < N.length → N'.getD k [] = N.getD k [] ∧ ad' k = ad k) ∧ ∀ k, k ∈ u → k < N.length → I' k 12 = I k 12 ∧ I' k 13 = I k 13 ∧ I' k 15 = I k 15 ∧ src' k = src k
theorem ugo_refl (u : List Nat) (N : List (List Nat)) (ad : Nat → Nat) (I : Nat → Nat → Int32) (src : Nat → Option Nat) : ugo u N ad I src N ad I src := ⟨Nat.le_refl _, fun _ _ => ⟨rfl, rfl⟩, fun _ _ _ => ⟨rfl, rfl, rfl, rfl⟩⟩
theorem ugo_trans {u : List Nat} {N ad I src N1 ad1 I1 src1 N2 ad2 I2 src2} (h1 : ugo u N ad I src N1 ad1 I1 src1) (h2 : ugo u N1 ad1 I1 src1 N2 ad2 I2 src2) : ugo u N ad I src N2 ad2 I2 src2 := by
  refine ⟨Nat.le_trans h1.1 h2.1, fun k hk => ?_, fun k hk hk2 => ?_⟩
  · obtain ⟨a1, a2⟩ := h1.2.1 k hk
    obtain ⟨c1, c2⟩ := h2.2.1 k (Nat.lt_of_lt_of_le hk h1.1)
    exact ⟨c1.trans a1, c2.trans a2⟩
  · obtain ⟨a1, a2, a3, a4⟩ := h1.2.2 k hk hk2
    obtain ⟨c1, c2, c3, c4⟩ := h2.2.2 k hk (Nat.lt_of_lt_of_le hk2 h1.1)
    exact ⟨c1.trans a1, c2.trans a2, c3.trans a3, c4.trans a4⟩
theorem ugo_nxo {u : List Nat} {N ad I src N' ad' I' src'} (h : nxo N ad I src N' ad' I' src') : ugo u N ad I src N' ad' I' src' := ⟨h.1, fun k hk => ⟨(h.2.1 k hk).1, (h.2.1 k hk).2.1⟩, fun k _ hk => ⟨(h.2.1 k hk).2.2.1 12 (by decide) (by decide), (h.2.1 k hk).2.2.1 13 (by decide) (by decide), (h.2.1 k hk).2.2.1 15 (by decide) (by decide), (h.2.1 k hk).2.2.2⟩⟩
theorem ugo_sub {u : List Nat} {t : Nat} {N ad I src N' ad' I' src'} (h : ugo (t :: u) N ad I src N' ad' I' src') : ugo u N ad I src N' ad' I' src' := ⟨h.1, h.2.1, fun k hk => h.2.2 k (List.mem_cons_of_mem _ hk)⟩
def bres (σ : rb_St) (b : Nat) (F : fx_F) (R : RS) (gv : Nat → Option (List Nat)) (w : Nat) (u : List Nat) (S : BS) (ad : Nat → Nat) (I : Nat → Nat → Int32) (src : Nat → Option Nat) (σ' : rb_St) (F' : fx_F) (S' : BS) : Prop := ∃ ad' I' src', bst σ' b F' R gv w u S' ad' I' src' ∧ ugo u (pN S.1) ad I src (pN S'.1) ad' I' src' ∧ hx σ σ' ∧ gn (pN S.1) (pN S'.1) σ σ' ∧ cf zVi zVa [1306] [4, 24] F F'
/-- a name asked for, in a build -/
def x_call (upd : Nat → BS → BS) (u : List Nat) (d : Nat) (S : BS) : Bool × BS := if bG S d = 0 ∧ ¬ d ∈ u then (decide (¬ bG (upd d S) d = 3), upd d S) else (!(decide (d ∈ u) || decide (bG S d = 3)), S)
theorem dep_call (w : Nat) (u : List Nat) (upd : Nat → BS → BS) (a : Bool × BS) (d : Nat) : x_dep w u upd a d = if a.1 = true ∧ op w 1 = false then a else (a.1 || !(x_call upd u d a.2).1, (x_call upd u d a.2).2) := by
  unfold x_dep x_call
  by_cases e : a.1 = true ∧ op w 1 = false
  · rw [if_pos e, if_pos e]
  · rw [if_neg e, if_neg e]
    by_cases e2 : bG a.2 d = 0 ∧ ¬ d ∈ u
    · rw [if_pos e2, if_pos e2]
      simp
    · rw [if_neg e2, if_neg e2]
      simp [Bool.or_assoc]
def hup (R : RS) (u : List Nat) (upd : Nat → BS → BS) : Prop := ∀ d S, uok (pN S.1) u → d < (pN S.1).length → ¬ d ∈ u → bG S d = 0 → bok R S → updS R u d S (upd d S)
theorem call_ok {R : RS} {u : List Nat} {upd : Nat → BS → BS} (h : hup R u upd) {d : Nat} {S : BS} (hu : uok (pN S.1) u) (hd : d < (pN S.1).length) (hS : bok R S) : bok R (x_call upd u d S).2 ∧ (pN S.1).length ≤ (pN (x_call upd u d S).2.1).length := by
  unfold x_call
  by_cases e : bG S d = 0 ∧ ¬ d ∈ u
  · rw [if_pos e]
    have := h d S hu hd e.2 e.1 hS
    exact ⟨this.1, this.2.1⟩
  · rw [if_neg e]
    exact ⟨hS, Nat.le_refl _⟩
/-- what the update of another name does -/
def rTk (b : Nat) (R : RS) (gv : Nat → Option (List Nat)) (w : Nat) (u : List Nat) (upd : Nat → BS → BS) (rT : Option Nat → Option Nat → Int32 → rb_St → Option rb_Rs) (dp : Nat) : Prop := ∀ (d : Nat) (σ : rb_St) (F : fx_F) (S : BS) (ad : Nat → Nat) (I : Nat → Nat → Int32) (src : Nat → Option Nat), d < (pN S.1).length → uok (pN S.1) u → bok R S → bst σ b F R gv w u S ad I src → ∃ σ' F', rT (some (fx_ad b 31)) (some (ad d)) (nI dp) (fx_mk σ b F) = some (some (.int (nI (b2 (x_call upd u d S).1))), fx_mk σ' b F') ∧ bres σ b F R gv w u S ad I src σ' F' (x_call upd u d S).2
section
variable {b : Nat} {R : RS} {gv : Nat → Option (List Nat)} {w : Nat} {u : List Nat} {upd : Nat → BS → BS} {rT : Option Nat → Option Nat → Int32 → rb_St → Option rb_Rs} {dp : Nat}
theorem bres_refl {σ : rb_St} {F : fx_F} {S : BS} {ad : Nat → Nat} {I : Nat → Nat → Int32} {src : Nat → Option Nat} (h : bst σ b F R gv w u S ad I src) : bres σ b F R gv w u S ad I src σ F S := ⟨ad, I, src, h, ugo_refl _ _ _ _ _, hx_refl _, gn_same (gw_refl _), cf_refl _ _ _ _ _⟩
theorem c_needLoop (hR : rok R) (hw : w < 64) (hup1 : hup R u upd) (hT : rTk b R gv w u upd rT (dp + 1)) {t : Nat} (ht : t ∈ u) : ∀ (m j : Nat) (σ : rb_St) (F : fx_F) (S : BS) (ad : Nat → Nat) (I : Nat → Nat → Int32) (src : Nat → Option Nat) (acc : Bool), j + m = (rPr R).length → bok R S → uok (pN S.1) u → bst σ b F R gv w u S ad I src → ∃ σ' F', rb_it (fun z : (Int32 × Int32 × rb_St) => f_Bld_updateNeeded_b30 rT (some (fx_ad b 31)) (some (ad t)) (nI dp) (z.1) (z.2.1) z.2.2) (nI (b2 (!acc)), nI j, fx_mk σ b F) = some (some (.int (nI (b2 (!((prt2 ((rPr R).drop j) t).foldl (x_dep w u upd) (acc, S)).1)))), fx_mk σ' b F') ∧ bres σ b F R gv w u S ad I src σ' F' ((prt2 ((rPr R).drop j) t).foldl (x_dep w u upd) (acc, S)).2 := by
  have h80 := hR.2.2.2.2.1.1
  have hPr := hR.2.2.2.2.1.2
  intro m
  induction m with
  | zero =>
    intro j σ F S ad I src acc hj hS hu h
    rw [List.drop_eq_nil_of_le (by omega)]
    have h510 : F.1 510 = nI (rPr R).length := h.1.2.2.2.2.2.1.2.2.2.1.1
    refine ⟨σ, F, rb_it_m ?_, bres_refl h⟩
    show f_Bld_updateNeeded_b30 _ _ _ _ _ _ _ = _
    unfold f_Bld_updateNeeded_b30
    simp only [↓fx_bc, h510]
    rw [if_pos (nI_le (by omega) (by omega)), if_pos (isZ_b2 _)]
    rfl
  | succ m ih =>
    intro j σ F S ad I src acc hj hS hu h
    have hjl : j < (rPr R).length := by omega
    have hle : ¬ (rPr R).length ≤ j := by omega
    have h4 : cr4 F (rPr R) ad := h.1.2.2.2.2.2.1.2.2.2.1
    have h510 := h4.1
    obtain ⟨r1, r2⟩ := h4.2 j hjl
    obtain ⟨n1, n2⟩ := hPr j hjl
    have hl := hS.2.2.2.2
    have hnx := h.1.2.2.2.1.1
    have htN := hu.2 t ht
    rw [List.drop_eq_getElem_cons hjl, prt2_c, ← getD_get (d := (0, 0)) hjl]
    have hskip : (∀ σ' F', f_Bld_updateNeeded_b30 rT (some (fx_ad b 31)) (some (ad t)) (nI dp) (nI (b2 (!acc))) (nI j) (fx_mk σ b F) = some (.inl (nI (b2 (!acc)), nI (j + 1), fx_mk σ b F)) → σ' = σ → F' = F → ∃ σ' F', rb_it (fun z : (Int32 × Int32 × rb_St) => f_Bld_updateNeeded_b30 rT (some (fx_ad b 31)) (some (ad t)) (nI dp) (z.1) (z.2.1) z.2.2) (nI (b2 (!acc)), nI j, fx_mk σ b F) = some (some (.int (nI (b2 (!((prt2 ((rPr R).drop (j + 1)) t).foldl (x_dep w u upd) (acc, S)).1)))), fx_mk σ' b F') ∧ bres σ b F R gv w u S ad I src σ' F' ((prt2 ((rPr R).drop (j + 1)) t).foldl (x_dep w u upd) (acc, S)).2) := by
      intro _ _ hbody _ _
      obtain ⟨σ2, F2, c1, c2⟩ := ih (j + 1) σ F S ad I src acc (by omega) hS hu h
      exact ⟨σ2, F2, (rb_it_l hbody).trans c1, c2⟩
    by_cases e : ((rPr R).getD j (0, 0)).1 = t
    · rw [if_pos e, List.foldl_cons, dep_call]
      have h1 : f_Bld_has (some (fx_ad b 31)) (1 : Int32) (fx_mk σ b F) = _ := c_has (σ := σ) (b := b) h.1.2.2.2.2.2.2.2.1 hw (i := 1) (by decide)
      by_cases es : acc = true ∧ op w 1 = false
      · rw [if_pos es]
        refine hskip σ F ?_ rfl rfl
        unfold f_Bld_updateNeeded_b30
        simp (disch := omega) only [↓fx_bc, h510, u_le, n_leF, if_false, ↓bR_of rfl (show j < 2147483648 by omega) r1, ↓cI_of h1]
        rw [if_pos (by rw [e]), es.1, es.2, if_pos (show nI (b2 (!true)) = 0 from rfl), if_pos (show nI (b2 false) = 0 from rfl), show nI j + 1 = nI (j + 1) by rw [u_l1, u_add]]
      · rw [if_neg es]
        have hd2 : ((rPr R).getD j (0, 0)).2 < (pN S.1).length := Nat.lt_of_lt_of_le n2 hl
        obtain ⟨σ1, F1, a1, ad1, I1, src1, a2, a3, a4, a5, a6⟩ := hT ((rPr R).getD j (0, 0)).2 σ F S ad I src hd2 hu hS h
        have hok := call_ok hup1 hu hd2 hS
        generalize hxc : x_call upd u ((rPr R).getD j (0, 0)).2 S = xc at a1 a2 a3 a5 hok ⊢
        obtain ⟨σ2, F2, c1, ad2, I2, src2, c2, c3, c4, c5, c6⟩ := ih (j + 1) σ1 F1 xc.2 ad1 I1 src1 (acc || !xc.1) (by omega) hok.1 (uok_mono hu hok.2) a2
        rw [(a3.2.1 t htN).2] at c1
        refine ⟨σ2, F2, (rb_it_l ?_).trans c1, ad2, I2, src2, c2, ugo_trans a3 c3, hx_trans a4 c4, gn_trans a5 c5 a3.1 c3.1, cf_trans a6 c6⟩
        have hj68 : f_Bld_updateNeeded_j68 rT (some (fx_ad b 31)) (some (ad t)) (nI dp) (nI (b2 (!acc))) (nI j) (fx_mk σ b F) = some (.inl (nI (b2 (!(acc || !xc.1))), nI (j + 1), fx_mk σ1 b F1)) := by
          unfold f_Bld_updateNeeded_j68
          simp only [↓fx_bc, ↓bR_of rfl (show j < 2147483648 by omega) r2, show nI dp + (1 : Int32) = nI (dp + 1) by rw [u_l1, u_add], ↓cI_of a1, show nI j + 1 = nI (j + 1) by rw [u_l1, u_add]]
          cases xc.1 <;> cases acc <;> rfl
        show f_Bld_updateNeeded_b30 _ _ _ _ _ _ _ = _
        unfold f_Bld_updateNeeded_b30
        simp (disch := omega) only [↓fx_bc, h510, u_le, n_leF, if_false, ↓bR_of rfl (show j < 2147483648 by omega) r1, ↓cI_of h1]
        rw [if_pos (by rw [e]), hj68]
        cases ea : acc with
        | false => rw [if_neg (show ¬ nI (b2 (!false)) = 0 by decide)]
        | true =>
          rw [if_pos (show nI (b2 (!true)) = 0 from rfl)]
          cases e1 : op w 1 with
          | false => exact absurd ⟨ea, e1⟩ es
          | true => rw [if_neg (show ¬ nI (b2 true) = 0 by decide)]
    · rw [if_neg e]
      refine hskip σ F ?_ rfl rfl
      unfold f_Bld_updateNeeded_b30
      simp (disch := omega) only [↓fx_bc, h510, u_le, n_leF, if_false, ↓bR_of rfl (show j < 2147483648 by omega) r1]
      rw [if_neg (show ¬ (some (ad ((rPr R).getD j (0, 0)).1) = some (ad t)) from fun hc => e (hnx.2.2 _ _ (Nat.lt_of_lt_of_le n1 hl) htN (by injection hc)))]
      rw [show nI j + 1 = nI (j + 1) by rw [u_l1, u_add]]
theorem c_need (hR : rok R) (hw : w < 64) (hup1 : hup R u upd) (hT : rTk b R gv w u upd rT (dp + 1)) {t : Nat} (ht : t ∈ u) {σ : rb_St} {F : fx_F} {S : BS} {ad : Nat → Nat} {I : Nat → Nat → Int32} {src : Nat → Option Nat} (hS : bok R S) (hu : uok (pN S.1) u) (h : bst σ b F R gv w u S ad I src) {ch : CH} (hch : chok (pN S.1) ch) (hsrc : src t = ch.2.1.map (fun x => ad x.1)) : ∃ σ' F', f_Bld_updateNeeded rT (some (fx_ad b 31)) (some (ad t)) (nI dp) (fx_mk σ b F) = some (some (.int (nI (b2 (!((x_deps R ch t).foldl (x_dep w u upd) (false, S)).1)))), fx_mk σ' b F') ∧ bres σ b F R gv w u S ad I src σ' F' ((x_deps R ch t).foldl (x_dep w u upd) (false, S)).2 := by
  have hnx := h.1.2.2.2.1.1
  have htN := hu.2 t ht
  have gs := n_src hnx htN
  rw [hsrc] at gs
  cases hc : ch.2.1 with
  | none =>
    rw [hc] at gs
    have hdeps : x_deps R ch t = prt2 ((rPr R).drop 0) t := by
      unfold x_deps
      rw [hc]
      rfl
    rw [hdeps]
    obtain ⟨σ1, F1, a1, a2⟩ := c_needLoop hR hw hup1 hT ht (rPr R).length 0 σ F S ad I src false (by omega) hS hu h
    refine ⟨σ1, F1, ?_, a2⟩
    unfold f_Bld_updateNeeded
    rw [gs, Option.bind_some, if_pos (show Option.map (fun x : Nat × List Nat => ad x.1) none = none from rfl)]
    exact a1
  | some x =>
    rw [hc] at gs
    have hdeps : x_deps R ch t = x.1 :: prt2 ((rPr R).drop 0) t := by
      unfold x_deps
      rw [hc]
      rfl
    rw [hdeps, List.foldl_cons, dep_call, if_neg (show ¬ ((false : Bool) = true ∧ op w 1 = false) from fun h => by cases h.1)]
    have hxN := (hch.1 x hc).1
    obtain ⟨σ1, F1, a1, ad1, I1, src1, a2, a3, a4, a5, a6⟩ := hT x.1 σ F S ad I src hxN hu hS h
    have hok := call_ok hup1 hu hxN hS
    generalize hxc : x_call upd u x.1 S = xc at a1 a2 a3 a5 hok ⊢
    obtain ⟨σ2, F2, c1, ad2, I2, src2, c2, c3, c4, c5, c6⟩ := c_needLoop hR hw hup1 hT ht (rPr R).length 0 σ1 F1 xc.2 ad1 I1 src1 (false || !xc.1) (by omega) hok.1 (uok_mono hu hok.2) a2
    rw [(a3.2.1 t htN).2] at c1
    refine ⟨σ2, F2, ?_, ad2, I2, src2, c2, ugo_trans a3 c3, hx_trans a4 c4, gn_trans a5 c5 a3.1 c3.1, cf_trans a6 c6⟩
    unfold f_Bld_updateNeeded
    rw [gs, Option.bind_some, if_neg (show ¬ ((some x).map (fun x : Nat × List Nat => ad x.1) = none) from fun h => by cases h), Option.bind_some]
    simp only [Option.map_some, ↓fx_bc, show nI dp + (1 : Int32) = nI (dp + 1) by rw [u_l1, u_add], ↓cI_of a1]
    cases e1 : xc.1 with
    | false =>
      rw [e1] at c1
      rw [if_pos (show nI (b2 false) = 0 from rfl)]
      exact c1
    | true =>
      rw [e1] at c1
      rw [if_neg (show ¬ nI (b2 true) = 0 by decide)]
      exact c1
end
