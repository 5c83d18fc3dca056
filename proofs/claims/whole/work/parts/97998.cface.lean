/-! the class: its face -/
def CRx (σ : rb_St) (b : Nat) (F : fx_F) (X : XS) (ad : Nat → Nat) (I : Nat → Nat → Int32) (src : Nat → Option Nat) : Prop := kx σ b ∧ fx_ln F ∧ lg F ∧ tw F 1 (xD X) ∧ cps σ b F (rN (xR X), xF X, xC X, xP X) ad I src ∧ cr σ b F (xR X) ad I ∧ gin (xR X) ∧ vx σ b F 18 (xV X) ∧ F.1 3107 = nI (xN X) ∧ (∀ k, k < (rN (xR X)).length → I k 10 = nI (xG X k) ∧ I k 11 = 0) ∧ ∀ k, (rN (xR X)).length ≤ k → xG X k = 0
def CR (σ : rb_St) (b : Nat) (F : fx_F) (X : XS) : Prop := ∃ ad I src, CRx σ b F X ad I src
/-- the reference is as it was -/
def cF (F F' : fx_F) : Prop := (∀ z, 3400 ≤ z → F'.1 z = F.1 z) ∧ (∀ o, 35 ≤ o → F'.2.1 o = F.2.1 o) ∧ F'.2.2.1 = F.2.2.1
theorem cF_refl (F : fx_F) : cF F F := ⟨fun _ _ => rfl, fun _ _ => rfl, rfl⟩
theorem cF_trans {F G H : fx_F} (h1 : cF F G) (h2 : cF G H) : cF F H := ⟨fun z hz => (h2.1 z hz).trans (h1.1 z hz), fun o ho => (h2.2.1 o ho).trans (h1.2.1 o ho), h2.2.2.trans h1.2.2⟩
theorem cF_cf {zi za zr zq : List Nat} {F F' : fx_F} (h : cf zi za zr zq F F') (h1 : ∀ z, z ∈ zi → z < 3400) (h2 : ∀ o, o ∈ za → o < 35) : cF F F' := ⟨fun z hz => h.1 z (fun hm => absurd (h1 z hm) (by omega)), fun o ho => h.2.1 o (fun hm => absurd (h2 o hm) (by omega)), h.2.2.1⟩
def fres (σ : rb_St) (b : Nat) (F : fx_F) (n s : Nat) (X' : XS) (σ' : rb_St) (F' : fx_F) : Prop := CR σ' b F' X' ∧ hx σ σ' ∧ gw n s σ σ' ∧ cF F F'
section
variable {σ : rb_St} {b : Nat} {F : fx_F} {X : XS}
theorem CRx_cf {zi za zr zq : List Nat} {D : List Nat} {F' : fx_F} {ad : Nat → Nat} {I : Nat → Nat → Int32} {src : Nat → Option Nat} (h : CRx σ b F X ad I src) (hf : cf zi za zr zq F F') (hF : fx_ln F') (hd : tw F' 1 D) (h1 : ∀ z, z ∈ [301, 302, 1305, 2601, 3107] ++ zCi → z ∉ zi) (h2 : ∀ z, z ∈ [9, 27] → z ∉ za) (h3 : 512 ∉ zr) (h4 : ∀ z, z ∈ [4, 18] ++ zCq → z ∉ zq) : CRx σ b F' (D, X.2) ad I src := by
  obtain ⟨c1, c2, c3, c4, c5, c6, c7, c8, c9, c10, c11⟩ := h
  exact ⟨c1, hF, lg_cf c3 hf (h1 1305 (by decide)), hd, cps_fr c5 hf (h1 301 (by decide)) (h1 302 (by decide)) (h1 2601 (by decide)) (h2 27 (by decide)) (h4 4 (by decide)), cr_hx c6 (hx_refl _) hf (fun z hz => h1 z (List.mem_append.mpr (Or.inr hz))) (h2 9 (by decide)) h3 (fun z hz => h4 z (List.mem_append.mpr (Or.inr hz))), c7, vx_hx c8 (hx_refl _) (hf.2.2.2.2 18 (h4 18 (by decide))), by rw [hf.1 3107 (h1 3107 (by decide))]; exact c9, c10, c11⟩
theorem c_clear1 {ad : Nat → Nat} {I : Nat → Nat → Int32} {src : Nat → Option Nat} (h : CRx σ b F X ad I src) : ∃ F', f_Text_clear (some (fx_ad b 1)) (fx_mk σ b F) = some (none, fx_mk σ b F') ∧ CRx σ b F' ([], X.2) ad I src ∧ cF F F' := by
  obtain ⟨F1, a1, a2, a3, a4⟩ := c_clear (σ := σ) (b := b) (F := F) tO1 h.1.1 h.2.1
  exact ⟨F1, a1, CRx_cf h (cf_fr a4) a3 a2 (by decide) (by decide) (by decide) (by decide), cF_cf (cf_fr a4) (by decide) (by decide)⟩
theorem r_type (h : CR σ b F X) (hx : xok X) {c : Nat} (hc : c < 65536) : ∃ F', f_RB_type (some (fx_ad b 0)) (nI c) (fx_mk σ b F) = some (some (.int (c_type c X).1), fx_mk σ b F') ∧ fres σ b F 0 0 (c_type c X).2 σ F' := by
  obtain ⟨ad, I, src, h0⟩ := h
  have h1 := h0
  obtain ⟨c1, c2, c3, c4, _⟩ := h1
  have hb := c1.1
  obtain ⟨F1, a1, a2, a3, a4⟩ := c_add (σ := σ) (b := b) tO1 hb c2 c4 hc
  rw [show tcap 1 = 320 from rfl] at a1 a2
  have hcr := fun (D : List Nat) (hD : tw F1 1 D) => CRx_cf (D := D) h0 (cf_fr a4) a3 hD (by decide) (by decide) (by decide) (by decide)
  have hcF := cF_cf (cf_fr a4) (F := F) (F' := F1) (by decide) (by decide)
  have h24 : f_RB_type_j24 (some (fx_ad b 0)) (nI c) (fx_mk σ b F) = some (some (.int (nI (b2 (decide ((xD X).length < 320))))), fx_mk σ b F1) := by
    unfold f_RB_type_j24 f_RB_type_j29
    rw [if_neg (show ¬ (1 : Int32) = 0 by decide)]
    simp only [↓fx_bc, ↓fc1, ↓cI_of a1]
    cases decide ((xD X).length < 320) <;> rfl
  have h29 : f_RB_type_j29 (some (fx_ad b 0)) (nI c) (0 : Int32) (fx_mk σ b F) = some (some (.int 0), fx_mk σ b F) := by
    unfold f_RB_type_j29
    rw [if_pos rfl]
  have hpre : f_RB_type (some (fx_ad b 0)) (nI c) (fx_mk σ b F) = if ty c = true then f_RB_type_j24 (some (fx_ad b 0)) (nI c) (fx_mk σ b F) else some (some (.int 0), fx_mk σ b F) := by
    unfold f_RB_type f_RB_type_j12 ty
    rw [h29]
    simp (disch := omega) only [u_l32, u_l126, u_l9, u_l10, u_lt, u_le, u_eq]
    by_cases e1 : c < 32
    · rw [if_pos e1]
      by_cases e2 : c = 9
      · rw [if_pos e2, if_pos (decide_eq_true (Or.inr (Or.inl e2)))]
      · rw [if_neg e2]
        by_cases e3 : c = 10
        · rw [if_pos e3, if_pos (decide_eq_true (Or.inr (Or.inr e3)))]
        · rw [if_neg e3, if_neg (fun h => by have := of_decide_eq_true h; omega)]
    · rw [if_neg e1]
      by_cases e2 : c ≤ 126
      · rw [if_pos e2, if_pos (decide_eq_true (Or.inl ⟨by omega, e2⟩))]
      · rw [if_neg e2, if_neg (show ¬ c = 9 by omega), if_neg (show ¬ c = 10 by omega), if_neg (fun h => by have := of_decide_eq_true h; omega)]
  rw [hpre]
  unfold c_type
  by_cases et : ty c = true
  · rw [if_pos et, h24]
    by_cases el : (xD X).length < 320
    · rw [if_pos ⟨et, el⟩, decide_eq_true el]
      rw [if_pos el] at a2
      exact ⟨F1, rfl, ⟨ad, I, src, hcr _ a2⟩, hx_refl _, gw_refl _, hcF⟩
    · rw [if_neg (fun hh => el hh.2), decide_eq_false el]
      rw [if_neg el] at a2
      exact ⟨F1, rfl, ⟨ad, I, src, hcr _ a2⟩, hx_refl _, gw_refl _, hcF⟩
  · rw [if_neg et, if_neg (fun hh => et hh.1)]
    exact ⟨F, rfl, ⟨ad, I, src, h0⟩, hx_refl _, gw_refl _, cF_refl _⟩
theorem r_scrap (h : CR σ b F X) : ∃ F', f_RB_scrap (some (fx_ad b 0)) (fx_mk σ b F) = some (none, fx_mk σ b F') ∧ fres σ b F 0 0 (c_scrap X) σ F' := by
  obtain ⟨ad, I, src, h0⟩ := h
  obtain ⟨F1, a1, a2, a3⟩ := c_clear1 h0
  refine ⟨F1, ?_, ⟨ad, I, src, a2⟩, hx_refl _, gw_refl _, a3⟩
  unfold f_RB_scrap
  simp only [↓fx_bc, ↓fc1, ↓cV_of a1]
theorem set_eq {d : List Nat} : x_set d = (decide (cap (d.getD 0 0) = true ∧ 0 + 1 < d.length ∧ d.getD (0 + 1) 0 = 61) && decide (¬ 18 < d.length) && decide (d.length ≤ fi (fun k => decide (d.getD k 0 = 10)) d.length 0)) := by
  unfold x_set
  by_cases e1 : cap (d.getD 0 0) = true ∧ 0 + 1 < d.length ∧ d.getD (0 + 1) 0 = 61
  · rw [decide_eq_true e1, Bool.true_and]
    by_cases e2 : 18 < d.length
    · rw [decide_eq_false (show ¬ ¬ 18 < d.length from fun h => h e2), Bool.false_and, decide_eq_false (show ¬ (2 ≤ d.length ∧ d.length ≤ 18 ∧ cap (d.getD 0 0) = true ∧ d.getD 1 0 = 61) from fun h => by omega), Bool.false_and]
    · rw [decide_eq_true e2, Bool.true_and, decide_eq_true (show 2 ≤ d.length ∧ d.length ≤ 18 ∧ cap (d.getD 0 0) = true ∧ d.getD 1 0 = 61 from ⟨by omega, by omega, e1.1, e1.2.2⟩), Bool.true_and]
      have h0 : ¬ d.getD 0 0 = 10 := fun e => by
        have := e1.1
        rw [e] at this
        exact absurd this (by decide)
      have h1 : ¬ d.getD 1 0 = 10 := fun e => by
        have := e1.2.2
        rw [show d.getD (0 + 1) 0 = 10 from e] at this
        omega
      have hfi := fi_le (P := fun k => decide (d.getD k 0 = 10)) (n := d.length) (k := 0) (Nat.zero_le _)
      cases hs : sr (fun k => decide (d.getD k 0 = 10)) (d.length - 2) 2 with
      | none =>
        have hno := sr_none hs
        refine (decide_eq_true ?_).symm
        refine Nat.le_of_not_lt (fun hlt => ?_)
        have hp := of_decide_eq_true (fi_P hlt)
        generalize fi (fun k => decide (d.getD k 0 = 10)) d.length 0 = j at hlt hp
        by_cases j0 : j = 0
        · rw [j0] at hp
          exact h0 hp
        · by_cases j1 : j = 1
          · rw [j1] at hp
            exact h1 hp
          · have := hno j (by omega) (by omega)
            rw [decide_eq_true hp] at this
            cases this
      | some j =>
        have hj := sr_some hs
        have hp := of_decide_eq_true hj.2.2
        refine (decide_eq_false (fun hle => ?_)).symm
        have := fi_no (P := fun k => decide (d.getD k 0 = 10)) (n := d.length) (k := 0) (j := j) (Nat.zero_le _) (by omega) (by omega)
        rw [decide_eq_true hp] at this
        cases this
  · rw [decide_eq_false e1, Bool.false_and, Bool.false_and, decide_eq_false (fun h => e1 ⟨h.2.2.1, by omega, h.2.2.2⟩), Bool.false_and]
theorem r_set (h : CR σ b F X) (hx : xok X) : ∃ σ' F', f_RB_set (some (fx_ad b 0)) (fx_mk σ b F) = some (some (.int (c_set X).1), fx_mk σ' b F') ∧ fres σ b F 4 100 (c_set X).2 σ' F' := by
  obtain ⟨ad, I, src, h0⟩ := h
  have h1 := h0
  obtain ⟨c1, c2, c3, c4, c5, c6, c7, c8, c9, c10, c11⟩ := h1
  have hb := c1.1
  have hdl := hx.1
  have htk := hx.2.1
  have hc : ∀ c, c ∈ xD X → c < 128 := fun c hc => ((tk_ok htk) c hc).2
  have hc6 : ∀ c, c ∈ xD X → c < 65536 := fun c h => Nat.lt_trans (hc c h) (by decide)
  have hlen := c_tlen (σ := σ) (b := b) tO1 c4
  have hdef : f_Exp_isDefinition (some (fx_ad b 1)) (0 : Int32) (nI (xD X).length) (fx_mk σ b F) = _ := c_isDef (σ := σ) (b := b) tO1 c2 c4 hc6 (by omega) (p := 0) (e := (xD X).length) (Nat.zero_le _) (Nat.le_refl _)
  have hidx : f_Text_indexOf (some (fx_ad b 1)) (10 : Int32) (fx_mk σ b F) = _ := c_indexOf (σ := σ) (b := b) tO1 c2 c4 hc6 (c := 10) (by decide)
  have hat0 : f_Text_at (some (fx_ad b 1)) (0 : Int32) (fx_mk σ b F) = some (some (.int (nI ((xD X).getD 0 0))), fx_mk σ b F) := c_at (σ := σ) (b := b) tO1 c2 c4 hc6 (i := 0) (by omega)
  have hfl := fi_le (P := fun k => decide ((xD X).getD k 0 = 10)) (n := (xD X).length) (k := 0) (Nat.zero_le _)
  unfold c_set
  rw [set_eq]
  have hstay : fres σ b F 4 100 X σ F := ⟨⟨ad, I, src, h0⟩, hx_refl _, gw_mono (gw_refl _) (by decide) (by decide), cF_refl _⟩
  unfold f_RB_set
  simp only [↓fx_bc, ↓fc1, ↓cI_of hlen, ↓cI_of hdef]
  by_cases e1 : cap ((xD X).getD 0 0) = true ∧ 0 + 1 < (xD X).length ∧ (xD X).getD (0 + 1) 0 = 61
  · rw [decide_eq_true e1, if_neg (show ¬ nI (b2 true) = 0 by decide), Bool.true_and]
    by_cases e2 : 18 < (xD X).length
    · rw [if_pos (show (18 : Int32) < nI (xD X).length by rw [u_l18, u_lt (by omega) (by omega)]; exact e2), decide_eq_false (fun h => h e2), Bool.false_and, if_neg (by decide)]
      exact ⟨σ, F, rfl, hstay⟩
    · rw [if_neg (show ¬ (18 : Int32) < nI (xD X).length by rw [u_l18, u_lt (by omega) (by omega)]; exact e2), decide_eq_true e2, Bool.true_and]
      simp only [↓fx_bc, ↓fc1, ↓cI_of hidx, ↓cI_of hlen]
      generalize fi (fun k => decide ((xD X).getD k 0 = 10)) (xD X).length 0 = j at hfl ⊢
      by_cases e3 : (xD X).length ≤ j
      · rw [if_pos (nI_le e3 (by omega)), decide_eq_true e3, if_pos rfl]
        obtain ⟨σ1, a, a1, a2, a3, a4⟩ := c_cut (σ := σ) (b := b) tO1 c2 c1 c4 hc (p := 2) (q := (xD X).length) (by omega) (Nat.le_refl _)
        have a1' : f_Text_cut (some (fx_ad b 1)) (2 : Int32) (nI (xD X).length) (fx_mk σ b F) = _ := a1
        have hsl : slc (xD X) 2 (xD X).length = (xD X).drop 2 := by
          unfold slc
          rw [List.take_of_length_le (by rw [List.length_drop]; exact Nat.le_refl _)]
        rw [hsl] at a2
        have hk1 := kx_hx c1 a3.1
        obtain ⟨σ2, F2, d1, d2, d3, d4, d5, d6⟩ := c_give1 (F := F) hk1 c2 (vx_hx c8 a3.1 rfl) e1.1 a2
        have hh := hn_trans a3 d3
        have hcr2 : CRx σ2 b F2 (xD X, X.2.1, up1 (xV X) ((xD X).getD 0 0 - 65) (some ((xD X).drop 2)), X.2.2.2) ad I src := ⟨kx_hx c1 hh.1, d6, lg_cf c3 d5 (by decide), tw_cf c4 d5 (by decide) (by decide), ⟨nx_cf (nx_hn c5.1 hh) d5 (by decide) (by decide), by rw [d5.1 302 (by decide)]; exact c5.2.1, c5.2.2.1, c5.2.2.2.1, tw_cf c5.2.2.2.2.1 d5 (by decide) (by decide), c5.2.2.2.2.2⟩, cr_hx c6 hh.1 d5 (by decide) (by decide) (by decide) (by decide), c7, d2, by rw [d5.1 3107 (by decide)]; exact c9, c10, c11⟩
        obtain ⟨F3, g1, g2, g3⟩ := c_clear1 hcr2
        refine ⟨σ2, F3, ?_, ⟨ad, I, src, g2⟩, hh.1, gw_mono (gw_trans a4 d4) (by omega) (by omega), cF_trans (cF_cf d5 (by decide) (by decide)) g3⟩
        simp only [↓fx_bc, ↓fc1, ↓cI_of hat0, ↓cI_of hlen, ↓cR_of a1', ↓cV_of d1, ↓cV_of g1]
        rfl
      · rw [if_neg (show ¬ nI (xD X).length ≤ nI j by rw [u_le (by omega) (by omega)]; exact e3), decide_eq_false e3, if_neg (by decide)]
        exact ⟨σ, F, rfl, hstay⟩
  · rw [decide_eq_false e1, if_pos (show nI (b2 false) = 0 from rfl), Bool.false_and, Bool.false_and, if_neg (by decide)]
    exact ⟨σ, F, rfl, hstay⟩
theorem r_load (h : CR σ b F X) (hx : xok X) : ∃ σ' F', f_RB_load (some (fx_ad b 0)) (fx_mk σ b F) = some (some (.int (c_load X).1), fx_mk σ' b F') ∧ fres σ b F (150 * ((xD X).length + 1)) (10500 * ((xD X).length + 1)) (c_load X).2 σ' F' := by
  obtain ⟨ad, I, src, h0⟩ := h
  have h1 := h0
  obtain ⟨c1, c2, c3, c4, c5, c6, c7, c8, c9, c10, c11⟩ := h1
  have hgv : ∀ m v, xV X m = some v → tk v ∧ v.length ≤ 320 := fun m v hv => ⟨(hx.2.2.2.1 m v hv).2, Nat.le_trans (hx.2.2.2.1 m v hv).1 (by decide)⟩
  obtain ⟨σ1, F1, a1, ad1, I1, src1, a2, a3, a4, a5, a6, a7, a8, a9, a10, a11, a12⟩ := c_read (b := b) (gv := xV X) (d := xD X) c1 c2 c3 hx.2.2.2.2.1.1.1 c5.1 c8 hgv hx.1 hx.2.1 c4
  unfold c_load
  generalize hxl : x_load (xV X) (rN (xR X)) (xD X) = xl at a1 a2 a3 a9 a10 a11 a12 ⊢
  have hcr : CRx σ1 b F1 (xD X, X.2.1, xV X, xl.2, fun _ => 0, xP X, xN X) ad1 I1 src1 := by
    refine ⟨kx_hx c1 a4, a7, a8, tw_cf c4 a6 (by decide) (by decide), ⟨a2, by rw [a6.1 302 (by decide)]; exact c5.2.1, fun k hk => ?_, fun k hk => c5.2.2.2.1 k (Nat.le_trans a3.1 hk), tw_cf c5.2.2.2.2.1 a6 (by decide) (by decide), c5.2.2.2.2.2⟩, a9, a11, vx_hx c8 a4 (a6.2.2.2.2 18 (by decide)), by rw [a6.1 3107 (by decide)]; exact c9, fun k hk => ⟨a12 k hk, ?_⟩, fun _ _ => rfl⟩
    · by_cases e : k < (rN (xR X)).length
      · have hh := (a3.2.1 k e).2.2
        rw [hh 2 (by decide), hh 3 (by decide)]
        exact c5.2.2.1 k e
      · rw [a3.2.2 k (by omega) hk 2 (by decide), a3.2.2 k (by omega) hk 3 (by decide)]
        have : xF X k = (0, 0) := c5.2.2.2.1 k (by show (rN (xR X)).length ≤ k; omega)
        show (0 : Int32) = nI (xF X k).1 ∧ (0 : Int32) = (xF X k).2
        rw [this]
        exact ⟨rfl, rfl⟩
    · by_cases e : k < (rN (xR X)).length
      · rw [(a3.2.1 k e).2.2 11 (by decide)]
        exact (c10 k e).2
      · exact a3.2.2 k (by omega) hk 11 (by decide)
  obtain ⟨F2, g1, g2, g3⟩ := c_clear1 hcr
  refine ⟨σ1, F2, ?_, ⟨ad1, I1, src1, g2⟩, a4, a5, cF_trans (cF_cf a6 (by decide) (by decide)) g3⟩
  unfold f_RB_load
  simp only [↓fx_bc, ↓fc1, ↓cI_of a1, ↓cV_of g1]
end
