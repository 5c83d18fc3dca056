/-! the class: the store -/
section
variable {σ : rb_St} {b : Nat} {F : fx_F} {N : List (List Nat)} {ad : Nat → Nat} {I : Nat → Nat → Int32} {src : Nat → Option Nat}
theorem c_isFile (h : nx σ b F N ad I src) {k : Nat} (hk : k < N.length) {x : Nat} (hx : I k 2 = nI x) (hx2 : x < 2147483648) : f_Name_isFile (some (ad k)) (fx_mk σ b F) = some (some (.int (nI (b2 (decide (¬ x = 0))))), fx_mk σ b F) := by
  unfold f_Name_isFile
  rw [n_gI h hk ⟨by decide, by decide, by decide⟩, Option.bind_some, hx]
  by_cases e : x = 0
  · rw [e, if_pos (show nI 0 ≤ 0 by decide), decide_eq_false (by simp)]
    rfl
  · rw [if_neg (show ¬ nI x ≤ 0 by rw [u_l0, u_le hx2 (by decide)]; omega), decide_eq_true e]
    rfl
theorem c_remove (h : nx σ b F N ad I src) {k : Nat} (hk : k < N.length) : ∃ σ', f_Name_remove (some (ad k)) (fx_mk σ b F) = some (none, fx_mk σ' b F) ∧ nx σ' b F N ad (up2 (up2 I k 2 0) k 3 0) src ∧ hx σ σ' ∧ gw 0 0 σ σ' := by
  obtain ⟨σ1, a1, a2, a3, a4⟩ := n_pI h hk (f := 2) ⟨by decide, by decide, by decide⟩ (by decide) 0
  obtain ⟨σ2, b1, b2, b3, b4⟩ := n_pI a2 hk (f := 3) ⟨by decide, by decide, by decide⟩ (by decide) 0
  refine ⟨σ2, ?_, b2, hx_trans a3 b3, gw_trans a4 b4⟩
  unfold f_Name_remove
  rw [a1, Option.bind_some, b1]
  rfl
theorem c_write (hb : rb_b σ ≤ b) (h : nx σ b F N ad I src) {k : Nat} (hk : k < N.length) {c : Nat} (hc : F.1 302 = nI c) (x : Int32) : ∃ σ', f_Store_write (some (fx_ad b 3)) (some (ad k)) x (fx_mk σ b F) = some (none, fx_mk σ' b (fx_I F 302 (nI (c + 1)))) ∧ nx σ' b (fx_I F 302 (nI (c + 1))) N ad (up2 (up2 I k 2 (nI (c + 1))) k 3 x) src ∧ hx σ σ' ∧ gw 0 0 σ σ' := by
  have h1 : nx σ b (fx_I F 302 (nI (c + 1))) N ad I src := nx_fr h ⟨rfl, rfl⟩
  obtain ⟨σ1, a1, a2, a3, a4⟩ := n_pI h1 hk (f := 2) ⟨by decide, by decide, by decide⟩ (by decide) (nI (c + 1))
  obtain ⟨σ2, b1, b2, b3, b4⟩ := n_pI a2 hk (f := 3) ⟨by decide, by decide, by decide⟩ (by decide) x
  refine ⟨σ2, ?_, b2, hx_trans a3 b3, gw_trans a4 b4⟩
  unfold f_Store_write
  simp only [↓fx_bc, ↓fx_vc hb, hc, u_l1, u_add, fx_I_1, if_true]
  rw [a1, Option.bind_some, b1]
  rfl
/-- a loop over all names, that changes each -/
theorem it_names {α : Type} {body : Int32 × rb_St → Option ((Int32 × rb_St) ⊕ α)} {g : (Nat → Int32) → Nat → Int32} {res : rb_St → α} (hstep : ∀ (σ : rb_St) (I : Nat → Nat → Int32) (k : Nat), nx σ b F N ad I src → k < N.length → ∃ σ', body (nI k, fx_mk σ b F) = some (.inl (nI (k + 1), fx_mk σ' b F)) ∧ nx σ' b F N ad (up1 I k (g (I k))) src ∧ hx σ σ' ∧ gw 0 0 σ σ') (hend : ∀ (σ : rb_St) (I : Nat → Nat → Int32), nx σ b F N ad I src → body (nI N.length, fx_mk σ b F) = some (.inr (res (fx_mk σ b F)))) : ∀ (m k : Nat) (σ : rb_St) (I : Nat → Nat → Int32), k + m = N.length → nx σ b F N ad I src → ∃ σ' I', rb_it body (nI k, fx_mk σ b F) = some (res (fx_mk σ' b F)) ∧ nx σ' b F N ad I' src ∧ hx σ σ' ∧ gw 0 0 σ σ' ∧ ∀ j, I' j = if k ≤ j ∧ j < N.length then g (I j) else I j := by
  intro m
  induction m with
  | zero =>
    intro k σ I hk h
    have : k = N.length := by omega
    subst this
    exact ⟨σ, I, rb_it_r (hend σ I h), h, hx_refl _, gw_refl _, fun j => by rw [if_neg (by omega)]⟩
  | succ m ih =>
    intro k σ I hk h
    obtain ⟨σ1, a1, a2, a3, a4⟩ := hstep σ I k h (by omega)
    obtain ⟨σ2, I2, c1, c2, c3, c4, c5⟩ := ih (k + 1) σ1 _ (by omega) a2
    refine ⟨σ2, I2, (rb_it_l a1).trans c1, c2, hx_trans a3 c3, gw_trans a4 c4, fun j => ?_⟩
    rw [c5]
    by_cases e : j = k
    · subst e
      rw [if_neg (by omega), if_pos (by omega), up1_eq]
    · rw [up1_ne e]
      by_cases e2 : k + 1 ≤ j ∧ j < N.length
      · rw [if_pos e2, if_pos (by omega)]
      · rw [if_neg e2, if_neg (by omega)]
theorem n_row (h : nx σ b F N ad I src) {k : Nat} (hk : k < N.length) (hk2 : k < 2147483648) : ∀ {β : Type} (f : Option Nat → Option β), (fx_ixR (F.2.2.2.2 4) (nI k)).bind f = f (some (ad k)) := fun f => bR_of rfl hk2 (h.2.1 k hk).1 f
theorem c_forgetFates (hN : nok N) (h : nx σ b F N ad I src) : ∃ σ' I', f_Store_forgetFates (some (fx_ad b 3)) (fx_mk σ b F) = some (none, fx_mk σ' b F) ∧ nx σ' b F N ad I' src ∧ hx σ σ' ∧ gw 0 0 σ σ' ∧ ∀ j, j < N.length → I' j = up1 (I j) 10 0 := by
  have h32 := hN.1
  obtain ⟨σ', I', a1, a2, a3, a4, a5⟩ := it_names (b := b) (F := F) (N := N) (ad := ad) (src := src) (body := fun z : Int32 × rb_St => f_Store_forgetFates_b2 (some (fx_ad b 3)) z.1 z.2) (g := fun J => up1 J 10 0) (res := fun τ => (none, τ)) (fun σ I k h hk => by
    obtain ⟨σ1, a1, a2⟩ := n_pI h hk (f := 10) ⟨by decide, by decide, by decide⟩ (by decide) 0
    refine ⟨σ1, ?_, a2⟩
    show f_Store_forgetFates_b2 _ _ _ = _
    unfold f_Store_forgetFates_b2
    simp (disch := omega) only [↓fx_bc, h.1, u_le, n_leF, if_false, ↓n_row h hk]
    rw [a1, Option.bind_some, show nI k + 1 = nI (k + 1) by rw [u_l1, u_add]]) (fun σ I h => by
    show f_Store_forgetFates_b2 _ _ _ = _
    unfold f_Store_forgetFates_b2
    simp only [↓fx_bc, h.1]
    rw [if_pos (nI_le (Nat.le_refl _) (by omega))]
    rfl) N.length 0 σ I (by omega) h
  exact ⟨σ', I', a1, a2, a3, a4, fun j hj => by rw [a5, if_pos (by omega)]⟩
theorem c_forgetLatest (hN : nok N) (h : nx σ b F N ad I src) : ∃ σ' I', f_Store_forgetLatestTargets (some (fx_ad b 3)) (fx_mk σ b F) = some (none, fx_mk σ' b F) ∧ nx σ' b F N ad I' src ∧ hx σ σ' ∧ gw 0 0 σ σ' ∧ ∀ j, j < N.length → I' j = up1 (I j) 8 0 := by
  have h32 := hN.1
  obtain ⟨σ', I', a1, a2, a3, a4, a5⟩ := it_names (b := b) (F := F) (N := N) (ad := ad) (src := src) (body := fun z : Int32 × rb_St => f_Store_forgetLatestTargets_b2 (some (fx_ad b 3)) z.1 z.2) (g := fun J => up1 J 8 0) (res := fun τ => (none, τ)) (fun σ I k h hk => by
    obtain ⟨σ1, a1, a2⟩ := n_pZ h hk (f := 8) ⟨by decide, by decide, by decide⟩ (by decide) false
    refine ⟨σ1, ?_, a2⟩
    have a1' : rb_pZ (fx_mk σ b F) (some (ad k)) 12 8 (0 : Int32) = some (fx_mk σ1 b F) := a1
    show f_Store_forgetLatestTargets_b2 _ _ _ = _
    unfold f_Store_forgetLatestTargets_b2
    simp (disch := omega) only [↓fx_bc, h.1, u_le, n_leF, if_false, ↓n_row h hk]
    rw [a1', Option.bind_some, show nI k + 1 = nI (k + 1) by rw [u_l1, u_add]]) (fun σ I h => by
    show f_Store_forgetLatestTargets_b2 _ _ _ = _
    unfold f_Store_forgetLatestTargets_b2
    simp only [↓fx_bc, h.1]
    rw [if_pos (nI_le (Nat.le_refl _) (by omega))]
    rfl) N.length 0 σ I (by omega) h
  exact ⟨σ', I', a1, a2, a3, a4, fun j hj => by rw [a5, if_pos (by omega)]⟩
def nfg (J : Nat → Int32) : Nat → Int32 := up1 (up1 (up1 (up1 (up1 (up1 J 4 0) 5 0) 6 0) 7 0) 9 (-1)) 10 0
theorem c_nforget (h : nx σ b F N ad I src) {k : Nat} (hk : k < N.length) : ∃ σ', f_Name_forgetRules (some (ad k)) (fx_mk σ b F) = some (none, fx_mk σ' b F) ∧ nx σ' b F N ad (up1 I k (nfg (I k))) src ∧ hx σ σ' ∧ gw 0 0 σ σ' := by
  obtain ⟨σ1, a1, a2, a3, a4⟩ := n_pZ h hk (f := 4) ⟨by decide, by decide, by decide⟩ (by decide) false
  obtain ⟨σ2, q1, q2, q3, q4⟩ := n_pZ a2 hk (f := 5) ⟨by decide, by decide, by decide⟩ (by decide) false
  obtain ⟨σ3, c1, c2, c3, c4⟩ := n_pZ q2 hk (f := 6) ⟨by decide, by decide, by decide⟩ (by decide) false
  obtain ⟨σ4, d1, d2, d3, d4⟩ := n_pZ c2 hk (f := 7) ⟨by decide, by decide, by decide⟩ (by decide) false
  obtain ⟨σ5, e1, e2, e3, e4⟩ := n_pI d2 hk (f := 9) ⟨by decide, by decide, by decide⟩ (by decide) (-1)
  obtain ⟨σ6, f1, f2, f3, f4⟩ := n_pI e2 hk (f := 10) ⟨by decide, by decide, by decide⟩ (by decide) 0
  refine ⟨σ6, ?_, ?_, hx_trans a3 (hx_trans q3 (hx_trans c3 (hx_trans d3 (hx_trans e3 f3)))), gw_trans a4 (gw_trans q4 (gw_trans c4 (gw_trans d4 (gw_trans e4 f4))))⟩
  · have a1' : rb_pZ (fx_mk σ b F) (some (ad k)) 12 4 (0 : Int32) = some (fx_mk σ1 b F) := a1
    have b1' : rb_pZ (fx_mk σ1 b F) (some (ad k)) 12 5 (0 : Int32) = some (fx_mk σ2 b F) := q1
    have c1' : rb_pZ (fx_mk σ2 b F) (some (ad k)) 12 6 (0 : Int32) = some (fx_mk σ3 b F) := c1
    have d1' : rb_pZ (fx_mk σ3 b F) (some (ad k)) 12 7 (0 : Int32) = some (fx_mk σ4 b F) := d1
    unfold f_Name_forgetRules
    rw [a1', Option.bind_some, b1', Option.bind_some, c1', Option.bind_some, d1', Option.bind_some, e1, Option.bind_some, f1]
    rfl
  · have : ∀ (I : Nat → Nat → Int32) (k f : Nat) (x : Int32) (G : Nat → Int32), up2 (up1 I k G) k f x = up1 I k (up1 G f x) := by
      intro I k f x G
      unfold up2
      rw [up1_eq]
      funext j
      unfold up1
      split <;> rfl
    have hz : nI (b2 false) = 0 := rfl
    rw [show up2 I k 4 (nI (b2 false)) = up1 I k (up1 (I k) 4 0) from rfl, this, this, this, this, this] at f2
    exact f2
theorem c_forgetNames (hN : nok N) (h : nx σ b F N ad I src) : ∃ σ' I', f_Store_forgetRules (some (fx_ad b 3)) (fx_mk σ b F) = some (none, fx_mk σ' b F) ∧ nx σ' b F N ad I' src ∧ hx σ σ' ∧ gw 0 0 σ σ' ∧ ∀ j, j < N.length → I' j = nfg (I j) := by
  have h32 := hN.1
  obtain ⟨σ', I', a1, a2, a3, a4, a5⟩ := it_names (b := b) (F := F) (N := N) (ad := ad) (src := src) (body := fun z : Int32 × rb_St => f_Store_forgetRules_b2 (some (fx_ad b 3)) z.1 z.2) (g := nfg) (res := fun τ => (none, τ)) (fun σ I k h hk => by
    obtain ⟨σ1, a1, a2⟩ := c_nforget h hk
    obtain ⟨l, hfc⟩ := n_fc h hk
    refine ⟨σ1, ?_, a2⟩
    show f_Store_forgetRules_b2 _ _ _ = _
    unfold f_Store_forgetRules_b2
    simp (disch := omega) only [↓fx_bc, h.1, u_le, n_leF, if_false, ↓n_row h hk]
    rw [hfc, Option.bind_some, cV_of a1, show nI k + 1 = nI (k + 1) by rw [u_l1, u_add]]) (fun σ I h => by
    show f_Store_forgetRules_b2 _ _ _ = _
    unfold f_Store_forgetRules_b2
    simp only [↓fx_bc, h.1]
    rw [if_pos (nI_le (Nat.le_refl _) (by omega))]
    rfl) N.length 0 σ I (by omega) h
  exact ⟨σ', I', a1, a2, a3, a4, fun j hj => by rw [a5, if_pos (by omega)]⟩
/-- commands are given to the latest targets: g, where L k says that k is one and O k that it has none -/
theorem c_give (hN : nok N) (x : Int32) (L O : Nat → Bool) : ∀ (m k : Nat) (σ : rb_St) (I : Nat → Nat → Int32), k + m = N.length → nx σ b F N ad I src → (∀ j, k ≤ j → j < N.length → I j 8 = nI (b2 (L j)) ∧ (I j 9 = -1 ↔ O j = true)) → ∃ σ' I', rb_it (fun z : Int32 × rb_St => f_Store_giveToLatestTargets_b2 (some (fx_ad b 3)) x z.1 z.2) (nI k, fx_mk σ b F) = some (some (.int (nI (b2 (sr (fun j => L j && !O j) m k).isNone))), fx_mk σ' b F) ∧ nx σ' b F N ad I' src ∧ hx σ σ' ∧ gw 0 0 σ σ' ∧ (∀ j f, f ≠ 9 → I' j f = I j f) ∧ ((sr (fun j => L j && !O j) m k) = none → ∀ j, I' j 9 = if k ≤ j ∧ j < N.length ∧ L j = true then x else I j 9) := by
  have h32 := hN.1
  intro m
  induction m with
  | zero =>
    intro k σ I hk h hL
    refine ⟨σ, I, rb_it_r ?_, h, hx_refl _, gw_refl _, fun _ _ _ => rfl, fun _ j => by rw [if_neg (by omega)]⟩
    show f_Store_giveToLatestTargets_b2 _ _ _ _ = _
    unfold f_Store_giveToLatestTargets_b2
    simp only [↓fx_bc, h.1]
    rw [if_pos (nI_le (by omega) (by omega))]
    rfl
  | succ m ih =>
    intro k σ I hk h hL
    have hkl : k < N.length := by omega
    obtain ⟨hL1, hL2⟩ := hL k (Nat.le_refl _) hkl
    have hg8 := n_gI h hkl (f := 8) ⟨by decide, by decide, by decide⟩
    have hg9 := n_gI h hkl (f := 9) ⟨by decide, by decide, by decide⟩
    have hsr : sr (fun j => L j && !O j) (m + 1) k = if (L k && !O k) = true then some k else sr (fun j => L j && !O j) m (k + 1) := rfl
    rw [hsr]
    cases hLk : L k with
    | false =>
      rw [hLk, b2_f] at hL1
      obtain ⟨σ', I', c1, c2, c3, c4, c5, c6⟩ := ih (k + 1) σ I (by omega) h (fun j j1 j2 => hL j (by omega) j2)
      rw [if_neg (by simp)]
      refine ⟨σ', I', (rb_it_l ?_).trans c1, c2, c3, c4, c5, fun hs j => ?_⟩
      · show f_Store_giveToLatestTargets_b2 _ _ _ _ = _
        unfold f_Store_giveToLatestTargets_b2 f_Store_giveToLatestTargets_j34
        simp (disch := omega) only [↓fx_bc, h.1, u_le, n_leF, if_false, ↓n_row h hkl]
        rw [hg8, Option.bind_some, hL1, if_pos (show nI 0 = 0 from rfl), Option.bind_some, if_pos (show nI 0 = 0 from rfl), show nI k + 1 = nI (k + 1) by rw [u_l1, u_add]]
      · rw [c6 hs j]
        by_cases e : j = k
        · subst e
          rw [if_neg (by omega), if_neg (by rw [hLk]; simp)]
        · by_cases e2 : k + 1 ≤ j ∧ j < N.length ∧ L j = true
          · rw [if_pos e2, if_pos ⟨by omega, e2.2⟩]
          · rw [if_neg e2, if_neg (fun e3 => e2 ⟨by omega, e3.2⟩)]
    | true =>
      rw [hLk, b2_t] at hL1
      cases hOk : O k with
      | false =>
        rw [if_pos (by simp)]
        have hne : ¬ I k 9 = -1 := fun e => by
          rw [hL2.mp e] at hOk
          cases hOk
        refine ⟨σ, I, rb_it_r ?_, h, hx_refl _, gw_refl _, fun _ _ _ => rfl, fun hs => by cases hs⟩
        show f_Store_giveToLatestTargets_b2 _ _ _ _ = _
        unfold f_Store_giveToLatestTargets_b2
        simp (disch := omega) only [↓fx_bc, h.1, u_le, n_leF, if_false, ↓n_row h hkl]
        rw [hg8, Option.bind_some, hL1, if_neg (show ¬ nI 1 = 0 by decide), hg9, Option.bind_some, if_neg hne]
        rfl
      | true =>
        rw [if_neg (by simp)]
        have heq : I k 9 = -1 := hL2.mpr hOk
        obtain ⟨σ1, a1, a2, a3, a4⟩ := n_pI h hkl (f := 9) ⟨by decide, by decide, by decide⟩ (by decide) x
        obtain ⟨σ', I', c1, c2, c3, c4, c5, c6⟩ := ih (k + 1) σ1 _ (by omega) a2 (fun j j1 j2 => by
          rw [up2_ne (by omega), up2_ne (by omega)]
          exact hL j (by omega) j2)
        refine ⟨σ', I', (rb_it_l ?_).trans c1, c2, hx_trans a3 c3, gw_trans a4 c4, fun j f hf => ?_, fun hs j => ?_⟩
        · show f_Store_giveToLatestTargets_b2 _ _ _ _ = _
          unfold f_Store_giveToLatestTargets_b2 f_Store_giveToLatestTargets_j34
          simp (disch := omega) only [↓fx_bc, h.1, u_le, n_leF, if_false, ↓n_row h hkl]
          rw [hg8, Option.bind_some, hL1, if_neg (show ¬ nI 1 = 0 by decide), hg9, Option.bind_some, if_pos heq, Option.bind_some, if_neg (show ¬ nI 1 = 0 by decide), a1, Option.bind_some, show nI k + 1 = nI (k + 1) by rw [u_l1, u_add]]
        · rw [c5 j f hf, up2_ne (fun e => hf e.2)]
        · rw [c6 hs j]
          by_cases e : j = k
          · subst e
            rw [if_neg (by omega), if_pos ⟨by omega, hkl, hLk⟩, up2_eq]
          · rw [up2_ne (fun e2 => e e2.1)]
            by_cases e2 : k + 1 ≤ j ∧ j < N.length ∧ L j = true
            · rw [if_pos e2, if_pos ⟨by omega, e2.2⟩]
            · rw [if_neg e2, if_neg (fun e3 => e2 ⟨by omega, e3.2⟩)]
end
