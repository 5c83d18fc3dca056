/-! the class: what commands do -/
/-- names, files, clock and print as they stand -/
def cps (σ : rb_St) (b : Nat) (F : fx_F) (S : PS) (ad : Nat → Nat) (I : Nat → Nat → Int32) (src : Nat → Option Nat) : Prop := nx σ b F (pN S) ad I src ∧ F.1 302 = nI (pC S) ∧ (∀ k, k < (pN S).length → I k 2 = nI (pF S k).1 ∧ I k 3 = (pF S k).2) ∧ (∀ k, (pN S).length ≤ k → pF S k = (0, 0)) ∧ tw F 26 (pP S) ∧ fok (pF S) (pC S)
theorem cps_fr {zi za zr zq : List Nat} {σ : rb_St} {b : Nat} {F F' : fx_F} {S : PS} {ad : Nat → Nat} {I : Nat → Nat → Int32} {src : Nat → Option Nat} (h : cps σ b F S ad I src) (hf : cf zi za zr zq F F') (h1 : 301 ∉ zi) (h2 : 302 ∉ zi) (h3 : 2601 ∉ zi) (h4 : 27 ∉ za) (h5 : 4 ∉ zq) : cps σ b F' S ad I src := ⟨nx_fr h.1 ⟨hf.1 _ h1, hf.2.2.2.2 _ h5⟩, by rw [hf.1 _ h2]; exact h.2.1, h.2.2.1, h.2.2.2.1, tw_cf h.2.2.2.2.1 hf h3 h4, h.2.2.2.2.2⟩
section
variable {σ : rb_St} {b : Nat} {F : fx_F} {S : PS} {ad : Nat → Nat} {I : Nat → Nat → Int32} {src : Nat → Option Nat}
theorem cps_write (hb : rb_b σ ≤ b) (h : cps σ b F S ad I src) {k : Nat} (hk : k < (pN S).length) (x : Int32) : ∃ σ', f_Store_write (some (fx_ad b 3)) (some (ad k)) x (fx_mk σ b F) = some (none, fx_mk σ' b (fx_I F 302 (nI (pC S + 1)))) ∧ cps σ' b (fx_I F 302 (nI (pC S + 1))) (pN S, up1 (pF S) k (pC S + 1, x), pC S + 1, pP S) ad (up2 (up2 I k 2 (nI (pC S + 1))) k 3 x) src ∧ hx σ σ' ∧ gw 0 0 σ σ' := by
  obtain ⟨σ', a1, a2, a3, a4⟩ := c_write hb h.1 hk h.2.1 x
  refine ⟨σ', a1, ⟨a2, by rw [fx_I_1, if_pos rfl], fun j hj => ?_, fun j hj => ?_, h.2.2.2.2.1, fun j => ?_⟩, a3, a4⟩
  · show up2 (up2 I k 2 (nI (pC S + 1))) k 3 x j 2 = nI (up1 (pF S) k (pC S + 1, x) j).1 ∧ up2 (up2 I k 2 (nI (pC S + 1))) k 3 x j 3 = (up1 (pF S) k (pC S + 1, x) j).2
    by_cases e : j = k
    · subst e
      rw [up1_eq, up2_ne (by omega), up2_eq, up2_eq]
      exact ⟨rfl, rfl⟩
    · rw [up1_ne e, up2_ne (fun h => e h.1), up2_ne (fun h => e h.1), up2_ne (fun h => e h.1), up2_ne (fun h => e h.1)]
      exact h.2.2.1 j hj
  · show up1 (pF S) k (pC S + 1, x) j = (0, 0)
    have hj2 : (pN S).length ≤ j := hj
    rw [up1_ne (by omega)]
    exact h.2.2.2.1 j hj
  · show (up1 (pF S) k (pC S + 1, x) j).1 ≤ pC S + 1
    by_cases e : j = k
    · rw [e, up1_eq]
      exact Nat.le_refl _
    · rw [up1_ne e]
      exact Nat.le_succ_of_le (h.2.2.2.2.2 j)
theorem cps_remove (h : cps σ b F S ad I src) {k : Nat} (hk : k < (pN S).length) : ∃ σ', f_Name_remove (some (ad k)) (fx_mk σ b F) = some (none, fx_mk σ' b F) ∧ cps σ' b F (pN S, up1 (pF S) k (0, 0), pC S, pP S) ad (up2 (up2 I k 2 0) k 3 0) src ∧ hx σ σ' ∧ gw 0 0 σ σ' := by
  obtain ⟨σ', a1, a2, a3, a4⟩ := c_remove h.1 hk
  refine ⟨σ', a1, ⟨a2, h.2.1, fun j hj => ?_, fun j hj => ?_, h.2.2.2.2.1, fun j => ?_⟩, a3, a4⟩
  · show up2 (up2 I k 2 0) k 3 0 j 2 = nI (up1 (pF S) k (0, 0) j).1 ∧ up2 (up2 I k 2 0) k 3 0 j 3 = (up1 (pF S) k (0, 0) j).2
    by_cases e : j = k
    · subst e
      rw [up1_eq, up2_ne (by omega), up2_eq, up2_eq]
      exact ⟨rfl, rfl⟩
    · rw [up1_ne e, up2_ne (fun h => e h.1), up2_ne (fun h => e h.1), up2_ne (fun h => e h.1), up2_ne (fun h => e h.1)]
      exact h.2.2.1 j hj
  · show up1 (pF S) k (0, 0) j = (0, 0)
    by_cases e : j = k
    · rw [e, up1_eq]
    · rw [up1_ne e]
      exact h.2.2.2.1 j hj
  · show (up1 (pF S) k (0, 0) j).1 ≤ pC S
    by_cases e : j = k
    · rw [e, up1_eq]
      exact Nat.zero_le _
    · rw [up1_ne e]
      exact h.2.2.2.2.2 j
theorem cps_isFile (h : cps σ b F S ad I src) (hC : pC S < 2147483648) {k : Nat} (hk : k < (pN S).length) : f_Name_isFile (some (ad k)) (fx_mk σ b F) = some (some (.int (nI (b2 (decide (¬ (pF S k).1 = 0))))), fx_mk σ b F) := c_isFile h.1 hk (h.2.2.1 k hk).1 (Nat.lt_of_le_of_lt (h.2.2.2.2.2 k) hC)
theorem fc12 (h : nx σ b F (pN S) ad I src) {k : Nat} (hk : k < (pN S).length) {β : Type} : ∃ l, ∀ (f : List Value → Option β), (rb_fc (fx_mk σ b F) (some (ad k)) 12).bind f = f l := by
  obtain ⟨l, hl⟩ := n_fc h hk
  exact ⟨l, fun f => by rw [hl]; rfl⟩
end
section
variable {b : Nat} {o : List Nat} {W : List (Nat × Nat)} {ad : Nat → Nat} {src : Nat → Option Nat}
theorem c_touchLoop (h60 : W.length ≤ 60) : ∀ (ks : List Nat) (i : Nat) (σ : rb_St) (F : fx_F) (S : PS) (I : Nat → Nat → Int32), i + ks.length = W.length → rb_b σ ≤ b → fx_ln F → cps σ b F S ad I src → wc F W → mt F ad i ks → (∀ j, j < ks.length → ks.getD j 0 < (pN S).length) → ∃ σ' F' I', rb_it (fun z : (Int32 × rb_St) => f_Shell_touch_b2 (some (fx_ad b 25)) (z.1) z.2) (nI i, fx_mk σ b F) = some (some (.int (nI 1)), fx_mk σ' b F') ∧ cps σ' b F' (pN S, (x_touch ks (pF S) (pC S)).1, (x_touch ks (pF S) (pC S)).2, pP S) ad I' src ∧ hx σ σ' ∧ gw 0 0 σ σ' ∧ cf [302] [] [] [] F F' ∧ fx_ln F' ∧ ∀ k f, f ≠ 2 → f ≠ 3 → I' k f = I k f := by
  intro ks
  induction ks with
  | nil =>
    intro i σ F S I hi hb hF h hw hm hks
    have hcnt := c_wcount (σ := σ) (b := b) hw
    rw [List.length_nil] at hi
    refine ⟨σ, F, I, rb_it_m (x := some (some (Value.int (nI 1)), fx_mk σ b F)) ?_, h, hx_refl _, gw_refl _, cf_refl _ _ _ _ _, hF, fun _ _ _ _ => rfl⟩
    show f_Shell_touch_b2 _ _ _ = _
    unfold f_Shell_touch_b2
    simp only [↓fx_bc, ↓cI_of hcnt]
    rw [if_pos (nI_le (by omega) (by omega))]
    rfl
  | cons k ks ih =>
    intro i σ F S I hi hb hF h hw hm hks
    rw [List.length_cons] at hi
    have hcnt := c_wcount (σ := σ) (b := b) hw
    have hk : k < (pN S).length := hks 0 (by simp)
    have hr : (F.2.2.2.2 24)[i]? = some (some (ad k)) := hm 0 (by simp)
    have hnm := c_wname (σ := σ) (b := b) hw h60 (i := i) (by omega) hr
    have hg3 := n_gI h.1 hk (f := 3) ⟨by decide, by decide, by decide⟩
    obtain ⟨σ1, a1, a2, a3, a4⟩ := cps_write hb h hk (I k 3)
    have hcf1 : cf [302] [] [] [] F (fx_I F 302 (nI (pC S + 1))) := cf_I (cf_refl _ _ _ _ _) (by decide)
    rw [(h.2.2.1 k hk).2] at a1 a2
    obtain ⟨σ', F', I', e1, e2, e3, e4, e5, e6, e7⟩ := ih (i + 1) σ1 _ _ _ (by omega) (by rw [a3.2.1]; exact hb) (fx_lnI hF) a2 (wc_cf hw hcf1 (by decide) (by decide) (by decide)) (fun j hj => by
      have := hm (j + 1) (by rw [List.length_cons]; omega)
      rw [show i + (j + 1) = i + 1 + j by omega] at this
      exact this) (fun j hj => hks (j + 1) (by rw [List.length_cons]; omega))
    refine ⟨σ', F', I', (rb_it_l ?_).trans e1, e2, hx_trans a3 e3, gw_trans a4 e4, cf_trans hcf1 e5, e6, fun k f h2 h3 => ?_⟩
    · show f_Shell_touch_b2 _ _ _ = _
      unfold f_Shell_touch_b2
      simp only [↓fx_bc, ↓cI_of hcnt]
      rw [if_neg (show ¬ nI W.length ≤ nI i by rw [u_le (by omega) (by omega)]; omega)]
      simp only [↓fx_bc, ↓cR_of hnm, reduceCtorEq, if_false, hg3, Option.bind_some, (h.2.2.1 k hk).2, ↓cV_of a1]
      rw [show nI i + 1 = nI (i + 1) by rw [u_l1, u_add]]
    · rw [e7 k f h2 h3, up2_ne (fun e => h3 e.2), up2_ne (fun e => h2 e.2)]
theorem c_rmLoop (h60 : W.length ≤ 60) : ∀ (ks : List Nat) (i : Nat) (σ : rb_St) (F : fx_F) (S : PS) (I : Nat → Nat → Int32), i + ks.length = W.length → rb_b σ ≤ b → fx_ln F → cps σ b F S ad I src → wc F W → mt F ad i ks → (∀ j, j < ks.length → ks.getD j 0 < (pN S).length) → ∃ σ' I', rb_it (fun z : (Int32 × rb_St) => f_Shell_remove_b2 (some (fx_ad b 25)) (z.1) z.2) (nI i, fx_mk σ b F) = some (some (.int (nI 1)), fx_mk σ' b F) ∧ cps σ' b F (pN S, x_rm ks (pF S), pC S, pP S) ad I' src ∧ hx σ σ' ∧ gw 0 0 σ σ' ∧ ∀ k f, f ≠ 2 → f ≠ 3 → I' k f = I k f := by
  intro ks
  induction ks with
  | nil =>
    intro i σ F S I hi hb hF h hw hm hks
    have hcnt := c_wcount (σ := σ) (b := b) hw
    rw [List.length_nil] at hi
    refine ⟨σ, I, rb_it_m (x := some (some (Value.int (nI 1)), fx_mk σ b F)) ?_, h, hx_refl _, gw_refl _, fun _ _ _ _ => rfl⟩
    show f_Shell_remove_b2 _ _ _ = _
    unfold f_Shell_remove_b2
    simp only [↓fx_bc, ↓cI_of hcnt]
    rw [if_pos (nI_le (by omega) (by omega))]
    rfl
  | cons k ks ih =>
    intro i σ F S I hi hb hF h hw hm hks
    rw [List.length_cons] at hi
    have hcnt := c_wcount (σ := σ) (b := b) hw
    have hk : k < (pN S).length := hks 0 (by simp)
    have hr : (F.2.2.2.2 24)[i]? = some (some (ad k)) := hm 0 (by simp)
    have hnm := c_wname (σ := σ) (b := b) hw h60 (i := i) (by omega) hr
    obtain ⟨l, hfc⟩ := n_fc h.1 hk
    obtain ⟨σ1, a1, a2, a3, a4⟩ := cps_remove h hk
    obtain ⟨σ', I', e1, e2, e3, e4, e7⟩ := ih (i + 1) σ1 F _ _ (by omega) (by rw [a3.2.1]; exact hb) hF a2 hw (fun j hj => by
      have := hm (j + 1) (by rw [List.length_cons]; omega)
      rw [show i + (j + 1) = i + 1 + j by omega] at this
      exact this) (fun j hj => hks (j + 1) (by rw [List.length_cons]; omega))
    refine ⟨σ', I', (rb_it_l ?_).trans e1, e2, hx_trans a3 e3, gw_trans a4 e4, fun k f h2 h3 => ?_⟩
    · show f_Shell_remove_b2 _ _ _ = _
      unfold f_Shell_remove_b2
      simp only [↓fx_bc, ↓cI_of hcnt]
      rw [if_neg (show ¬ nI W.length ≤ nI i by rw [u_le (by omega) (by omega)]; omega)]
      simp only [↓fx_bc, ↓cR_of hnm, reduceCtorEq, if_false, hfc, Option.bind_some, ↓cV_of a1]
      rw [show nI i + 1 = nI (i + 1) by rw [u_l1, u_add]]
    · rw [e7 k f h2 h3, up2_ne (fun e => h3 e.2), up2_ne (fun e => h2 e.2)]
theorem c_catLoop (h60 : W.length ≤ 60) (h4 : 4 ≤ W.length) {σ : rb_St} {F : fx_F} {S : PS} {I : Nat → Nat → Int32} (hb : rb_b σ ≤ b) (hF : fx_ln F) (h : cps σ b F S ad I src) (hC : pC S < 2147483648) (hw : wc F W) {kt : Nat} (hkt : kt < (pN S).length) (hkr : (F.2.2.2.2 24)[W.length - 1]? = some (some (ad kt))) : ∀ (ks : List Nat) (i : Nat) (c : Int32), i + ks.length = W.length - 2 → mt F ad i ks → (∀ j, j < ks.length → ks.getD j 0 < (pN S).length) → ∃ σ' F' I', rb_it (fun z : (Int32 × Int32 × rb_St) => f_Shell_concatenate_b4 (some (fx_ad b 25)) (z.1) (z.2.1) z.2.2) (c, nI i, fx_mk σ b F) = some (some (.int (nI (b2 (x_sum (pF S) ks c).isSome))), fx_mk σ' b F') ∧ cps σ' b F' (match x_sum (pF S) ks c with | none => S | some c => (pN S, up1 (pF S) kt (pC S + 1, c), pC S + 1, pP S)) ad I' src ∧ hx σ σ' ∧ gw 0 0 σ σ' ∧ cf [302] [] [] [] F F' ∧ fx_ln F' ∧ ∀ k f, f ≠ 2 → f ≠ 3 → I' k f = I k f := by
  have hcnt := c_wcount (σ := σ) (b := b) hw
  intro ks
  induction ks with
  | nil =>
    intro i c hi hm hks
    rw [List.length_nil] at hi
    have hnm := c_wname (σ := σ) (b := b) hw h60 (i := W.length - 1) (by omega) hkr
    obtain ⟨σ1, a1, a2, a3, a4⟩ := cps_write hb h hkt c
    refine ⟨σ1, _, _, rb_it_m (x := some (some (Value.int (nI 1)), fx_mk σ1 b _)) ?_, a2, a3, a4, cf_I (cf_refl _ _ _ _ _) (by decide), fx_lnI hF, fun k f h2 h3 => ?_⟩
    · show f_Shell_concatenate_b4 _ _ _ _ = _
      unfold f_Shell_concatenate_b4
      simp only [↓fx_bc, ↓cI_of hcnt]
      rw [if_pos (show nI W.length - (2 : Int32) ≤ nI i by rw [u_l2, u_sub (by omega), u_le (by omega) (by omega)]; omega), show nI W.length - (1 : Int32) = nI (W.length - 1) by rw [u_l1, u_sub (by omega)]]
      simp only [↓fx_bc, ↓cR_of hnm, reduceCtorEq, if_false, ↓cV_of a1]
      rfl
    · rw [up2_ne (fun e => h3 e.2), up2_ne (fun e => h2 e.2)]
  | cons k ks ih =>
    intro i c hi hm hks
    rw [List.length_cons] at hi
    have hk : k < (pN S).length := hks 0 (by simp)
    have hr : (F.2.2.2.2 24)[i]? = some (some (ad k)) := hm 0 (by simp)
    have hnm := c_wname (σ := σ) (b := b) hw h60 (i := i) (by omega) hr
    obtain ⟨l, hfc⟩ := n_fc h.1 hk
    have hif := cps_isFile h hC hk
    have hg3 := n_gI h.1 hk (f := 3) ⟨by decide, by decide, by decide⟩
    have hsub : ¬ nI W.length - (2 : Int32) ≤ nI i := by
      rw [u_l2, u_sub (by omega), u_le (by omega) (by omega)]
      omega
    rw [x_sum]
    by_cases ez : (pF S k).1 = 0
    · rw [if_pos ez]
      refine ⟨σ, F, I, rb_it_m (x := some (some (Value.int (nI 0)), fx_mk σ b F)) ?_, h, hx_refl _, gw_refl _, cf_refl _ _ _ _ _, hF, fun _ _ _ _ => rfl⟩
      show f_Shell_concatenate_b4 _ _ _ _ = _
      unfold f_Shell_concatenate_b4
      simp only [↓fx_bc, ↓cI_of hcnt]
      rw [if_neg hsub]
      simp only [↓fx_bc, ↓cR_of hnm, reduceCtorEq, if_false, hfc, Option.bind_some, ↓cI_of hif]
      rw [decide_eq_false (show ¬ ¬ (pF S k).1 = 0 by simpa using ez), b2_f, if_pos (show nI 0 = 0 from rfl)]
      rfl
    · rw [if_neg ez]
      obtain ⟨σ', F', I', e1, e2⟩ := ih (i + 1) ((31 : Int32) * c + (pF S k).2 + 1) (by omega) (fun j hj => by
        have := hm (j + 1) (by rw [List.length_cons]; omega)
        rw [show i + (j + 1) = i + 1 + j by omega] at this
        exact this) (fun j hj => hks (j + 1) (by rw [List.length_cons]; omega))
      refine ⟨σ', F', I', (rb_it_l ?_).trans e1, e2⟩
      show f_Shell_concatenate_b4 _ _ _ _ = _
      unfold f_Shell_concatenate_b4
      simp only [↓fx_bc, ↓cI_of hcnt]
      rw [if_neg hsub]
      simp only [↓fx_bc, ↓cR_of hnm, reduceCtorEq, if_false, hfc, Option.bind_some, ↓cI_of hif]
      rw [decide_eq_true ez, b2_t, if_neg (show ¬ nI 1 = 0 by decide), hg3, Option.bind_some, (h.2.2.1 k hk).2, show nI i + 1 = nI (i + 1) by rw [u_l1, u_add]]
theorem c_copy (h3 : W.length = 3) {σ : rb_St} {F : fx_F} {S : PS} {I : Nat → Nat → Int32} (hb : rb_b σ ≤ b) (hF : fx_ln F) (h : cps σ b F S ad I src) (hC : pC S < 2147483648) (hw : wc F W) {ks : List Nat} (hks2 : ks.length = 2) (hm : mt F ad 1 ks) (hks : ∀ j, j < ks.length → ks.getD j 0 < (pN S).length) : ∃ σ' F' I', f_Shell_copy (some (fx_ad b 25)) (fx_mk σ b F) = some (some (.int (nI (b2 (decide (¬ (pF S (ks.getD 0 0)).1 = 0))))), fx_mk σ' b F') ∧ cps σ' b F' (if (pF S (ks.getD 0 0)).1 = 0 then S else (pN S, up1 (pF S) (ks.getD 1 0) (pC S + 1, (pF S (ks.getD 0 0)).2), pC S + 1, pP S)) ad I' src ∧ hx σ σ' ∧ gw 0 0 σ σ' ∧ cf [302] [] [] [] F F' ∧ fx_ln F' ∧ ∀ k f, f ≠ 2 → f ≠ 3 → I' k f = I k f := by
  have hk0 := hks 0 (by omega)
  have hk1 := hks 1 (by omega)
  have hn1 := c_wname (σ := σ) (b := b) hw (by omega) (i := 1) (by omega) (hm 0 (by omega))
  have hn2 := c_wname (σ := σ) (b := b) hw (by omega) (i := 2) (by omega) (hm 1 (by omega))
  have hn1' : f_Words_name (some (fx_ad b 21)) (1 : Int32) (fx_mk σ b F) = _ := hn1
  have hn2' : f_Words_name (some (fx_ad b 21)) (2 : Int32) (fx_mk σ b F) = _ := hn2
  obtain ⟨l, hfc⟩ := n_fc h.1 hk0
  have hif := cps_isFile h hC hk0
  have hg3 := n_gI h.1 hk0 (f := 3) ⟨by decide, by decide, by decide⟩
  unfold f_Shell_copy
  simp only [↓fx_bc, ↓cR_of hn1', ↓cR_of hn2', reduceCtorEq, if_false, hfc, Option.bind_some, ↓cI_of hif]
  by_cases ez : (pF S (ks.getD 0 0)).1 = 0
  · refine ⟨σ, F, I, ?_, by rw [if_pos ez]; exact h, hx_refl _, gw_refl _, cf_refl _ _ _ _ _, hF, fun _ _ _ _ => rfl⟩
    rw [decide_eq_false (show ¬ ¬ (pF S (ks.getD 0 0)).1 = 0 by simpa using ez), b2_f, if_pos (show nI 0 = 0 from rfl)]
    rfl
  · obtain ⟨σ1, a1, a2, a3, a4⟩ := cps_write hb h hk1 (pF S (ks.getD 0 0)).2
    refine ⟨σ1, _, _, ?_, by rw [if_neg ez]; exact a2, a3, a4, cf_I (cf_refl _ _ _ _ _) (by decide), fx_lnI hF, fun k f h2 h3 => ?_⟩
    · rw [decide_eq_true ez, b2_t, if_neg (show ¬ nI 1 = 0 by decide), hg3, Option.bind_some, (h.2.2.1 _ hk0).2]
      simp only [↓fx_bc, ↓cV_of a1]
      rfl
    · rw [up2_ne (fun e => h3 e.2), up2_ne (fun e => h2 e.2)]
end
