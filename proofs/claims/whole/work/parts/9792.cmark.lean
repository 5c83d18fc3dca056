/-! the class: the words of .SUFFIXES, and marks -/
theorem b2_ne {x : Bool} : (nI (b2 x) = 0) ↔ x = false := by
  cases x
  · exact ⟨fun _ => rfl, fun _ => rfl⟩
  · exact ⟨fun h => absurd h (by decide), fun h => by cases h⟩
theorem cr1_hx {zi za zr zq : List Nat} {σ σ' : rb_St} {b : Nat} {F F' : fx_F} {Sf : List (List Nat)} (h : cr1 σ b F Sf) (hh : hx σ σ') (hf : cf zi za zr zq F F') (h1 : 501 ∉ zi) (h2 : 6 ∉ zq) : cr1 σ' b F' Sf := ⟨by rw [hf.1 501 h1]; exact h.1, prow_hx h.2 hh (hf.2.2.2.2 6 h2)⟩
section
variable {b : Nat} {o : List Nat} {W : List (Nat × Nat)}
theorem c_sufLoop (hc : ∀ c, c ∈ o → c < 128) (hwo : wok o W) : ∀ (m i : Nat) (σ : rb_St) (F : fx_F) (Sf : List (List Nat)), i + m = W.length → kx σ b → fx_ln F → cr1 σ b F Sf → Sf.length ≤ 6 → tw F 14 o → wc F W → ∃ σ' F', rb_it (fun z : (Int32 × rb_St) => f_Reader_readSuffixes_b21 (some (fx_ad b 28)) (z.1) z.2) (nI i, fx_mk σ b F) = some (some (.int (nI (b2 (x_suf ((wl o W).drop i) Sf).isSome))), fx_mk σ' b F') ∧ hn σ σ' ∧ gw (4 * m) (251 * m) σ σ' ∧ cf [501] [] [] [6] F F' ∧ fx_ln F' ∧ ∀ sf, x_suf ((wl o W).drop i) Sf = some sf → cr1 σ' b F' sf := by
  have h60 := hwo.1
  intro m
  induction m with
  | zero =>
    intro i σ F Sf hi hk hF h1 hl ht hw
    have hcnt := c_wcount (σ := σ) (b := b) hw
    rw [wl_drop0 (by omega)]
    refine ⟨σ, F, rb_it_r ?_, hn_refl _, gw_refl _, cf_refl _ _ _ _ _, hF, fun sf hsf => ?_⟩
    · show f_Reader_readSuffixes_b21 _ _ _ = _
      unfold f_Reader_readSuffixes_b21
      simp only [↓fx_bc, ↓cI_of hcnt]
      rw [if_pos (nI_le (by omega) (by omega))]
      rfl
    · have : some Sf = some sf := hsf
      injection this with this
      subst this
      exact h1
  | succ m ih =>
    intro i σ F Sf hi hk hF h1 hl ht hw
    have hiW : i < W.length := by omega
    have hcnt := c_wcount (σ := σ) (b := b) hw
    obtain ⟨σ1, a, a1, a2, a3, a4⟩ := c_wcut (σ := σ) (b := b) hF hk ht hc hwo hw hiW
    have hisn := c_wisName (σ := σ1) (b := b) hF ht hc hwo hw hiW
    obtain ⟨v, hv⟩ := sx_fc a2
    have hlen := c_len (F := F) a2
    have hk1 := kx_hx hk a3.1
    obtain ⟨σ2, F2, c1, c2, c3, c4, c5, c6, c7⟩ := c_addSuffix (F := F) hk1 hF (by exact h1.1) hl (prow_hx h1.2 a3.1 rfl) a2
    rw [wl_drop hiW]
    have hle : ¬ W.length ≤ i := by omega
    by_cases hg : sp_name (wd o W i) = true ∧ 2 ≤ (wd o W i).length ∧ (wd o W i).getD 0 0 = 46
    · have hfit : f_Reader_readSuffixes_b21 (some (fx_ad b 28)) (nI i) (fx_mk σ b F) = f_Reader_readSuffixes_j75 (some (fx_ad b 28)) (nI i) (some a) 1 (fx_mk σ1 b F) := by
        have hch := c_charAt (F := F) a2 (i := 0) (by omega)
        have hch' : f_Str_charAt (some a) (0 : Int32) (fx_mk σ1 b F) = _ := hch
        have h46 : (wd o W i).getD 0 0 = 46 := hg.2.2
        rw [h46] at hch'
        have hll : ¬ (wd o W i).length < 2 := by omega
        have hwl : (wd o W i).length < 2147483648 := by
          have := hwo.2 i hiW
          have hol := tw_len hF ht
          rw [show tcap 14 = 120 from rfl] at hol
          unfold wd slc
          rw [List.length_take]
          omega
        unfold f_Reader_readSuffixes_b21
        simp (disch := omega) only [↓fx_bc, ↓cI_of hcnt, u_le, n_leF, if_false, ↓cR_of a1, ↓cI_of hisn, hg.1, b2_t, hv, Option.bind_some, ↓cI_of hlen, ↓cI_of hch', show ¬ (nI 1 = 0) by decide, u_l2, u_lt, n_ltF]
        rw [if_pos (show nI 46 = (46 : Int32) from rfl)]
      have hj : ∀ (x : Bool), x = ((nf Sf (wd o W i)).isSome || decide (¬ Sf.length = 6)) → f_Reader_readSuffixes_j75 (some (fx_ad b 28)) (nI i) (some a) 1 (fx_mk σ1 b F) = if x = true then some (.inl (nI (i + 1), fx_mk σ2 b F2)) else some (.inr (some (.int 0), fx_mk σ2 b F2)) := by
        intro x hx
        rw [← hx] at c1
        unfold f_Reader_readSuffixes_j75 f_Reader_readSuffixes_j91
        rw [if_neg (show ¬ (1 : Int32) = 0 by decide)]
        simp only [↓fx_bc, ↓cI_of c1]
        cases x
        · rw [if_pos (show nI (b2 false) = 0 from rfl), if_neg (by decide)]
          rfl
        · rw [if_neg (show ¬ nI (b2 true) = 0 by decide), if_pos rfl, show nI i + 1 = nI (i + 1) by rw [u_l1, u_add]]
      unfold x_suf
      rw [if_pos hg]
      have hgw : gw 4 251 σ σ2 := gw_mono (gw_trans a4 c3) (by omega) (by omega)
      by_cases e1 : (nf Sf (wd o W i)).isSome = true
      · rw [if_pos e1]
        rw [if_pos (Or.inl e1)] at c6 c7
        obtain ⟨σ3, F3, d1, d2, d3, d4, d5, d6⟩ := ih (i + 1) σ2 F2 Sf (by omega) (kx_hx hk1 c2.1) c5 ⟨c6, c7⟩ hl (tw_cf ht c4 (by decide) (by decide)) (wc_cf hw c4 (by decide) (by decide) (by decide))
        refine ⟨σ3, F3, (rb_it_l ?_).trans d1, hn_trans a3 (hn_trans c2 d2), gw_mono (gw_trans hgw d3) (by omega) (by omega), cf_trans c4 d4, d5, d6⟩
        refine hfit.trans ((hj true (by rw [e1, Bool.true_or])).trans ?_)
        rw [if_pos rfl]
      · rw [if_neg e1]
        by_cases e2 : Sf.length = 6
        · rw [if_pos e2]
          refine ⟨σ2, F2, rb_it_r ?_, hn_trans a3 c2, gw_mono hgw (by omega) (by omega), c4, c5, fun sf h => by cases h⟩
          refine hfit.trans ((hj false (by rw [Bool.eq_false_iff.mpr e1, decide_eq_false (fun h => h e2)]; rfl)).trans ?_)
          rw [if_neg (by decide)]
          rfl
        · rw [if_neg e2]
          rw [if_neg (show ¬ ((nf Sf (wd o W i)).isSome = true ∨ Sf.length = 6) from fun h => h.elim e1 e2)] at c6 c7
          obtain ⟨σ3, F3, d1, d2, d3, d4, d5, d6⟩ := ih (i + 1) σ2 F2 (Sf ++ [wd o W i]) (by omega) (kx_hx hk1 c2.1) c5 ⟨c6, c7⟩ (by rw [List.length_append, List.length_cons, List.length_nil]; omega) (tw_cf ht c4 (by decide) (by decide)) (wc_cf hw c4 (by decide) (by decide) (by decide))
          refine ⟨σ3, F3, (rb_it_l ?_).trans d1, hn_trans a3 (hn_trans c2 d2), gw_mono (gw_trans hgw d3) (by omega) (by omega), cf_trans c4 d4, d5, d6⟩
          refine hfit.trans ((hj true (by rw [decide_eq_true e2, Bool.or_true])).trans ?_)
          rw [if_pos rfl]
    · unfold x_suf
      rw [if_neg hg]
      refine ⟨σ1, F, rb_it_r ?_, a3, gw_mono a4 (by omega) (by omega), cf_refl _ _ _ _ _, hF, fun sf h => by cases h⟩
      show f_Reader_readSuffixes_b21 _ _ _ = _
      have hno : f_Reader_readSuffixes_j74 (some (fx_ad b 28)) (nI i) (some a) (fx_mk σ1 b F) = some (.inr (some (.int 0), fx_mk σ1 b F)) := by
        unfold f_Reader_readSuffixes_j74 f_Reader_readSuffixes_j75 f_Reader_readSuffixes_j91
        rw [if_pos rfl]
        rfl
      unfold f_Reader_readSuffixes_b21
      simp (disch := omega) only [↓fx_bc, ↓cI_of hcnt, u_le, n_leF, if_false, ↓cR_of a1, ↓cI_of hisn]
      by_cases g1 : sp_name (wd o W i) = true
      · rw [g1, b2_t, if_neg (show ¬ nI 1 = 0 by decide)]
        simp only [hv, Option.bind_some, ↓cI_of hlen]
        have hwl : (wd o W i).length < 2147483648 := by
          have := hwo.2 i hiW
          have hol := tw_len hF ht
          rw [show tcap 14 = 120 from rfl] at hol
          unfold wd slc
          rw [List.length_take]
          omega
        by_cases g2 : (wd o W i).length < 2
        · rw [if_pos (show nI (wd o W i).length < (2 : Int32) by rw [u_l2, u_lt (by omega) (by omega)]; exact g2), hno]
          rfl
        · rw [if_neg (show ¬ nI (wd o W i).length < (2 : Int32) by rw [u_l2, u_lt (by omega) (by omega)]; exact g2)]
          have hch := c_charAt (F := F) a2 (i := 0) (by omega)
          have hch' : f_Str_charAt (some a) (0 : Int32) (fx_mk σ1 b F) = _ := hch
          simp only [↓cI_of hch']
          have h46 : ¬ (wd o W i).getD 0 0 = 46 := fun e => hg ⟨g1, by omega, e⟩
          have hlt : (wd o W i).getD 0 0 < 128 := by
            have hm : (wd o W i).getD 0 0 ∈ wd o W i := getD_mem (by omega)
            refine hc _ ?_
            unfold wd slc at hm ⊢
            exact List.mem_of_mem_drop (List.mem_of_mem_take hm)
          rw [if_neg (show ¬ nI ((wd o W i).getD 0 0) = (46 : Int32) by rw [u_l46, u_eq (by omega) (by omega)]; exact h46), hno]
          rfl
      · rw [Bool.eq_false_iff.mpr g1, b2_f, if_pos (show nI 0 = 0 from rfl), hno]
        rfl
end
section
variable {σ : rb_St} {b : Nat} {F : fx_F} {o : List Nat} {W : List (Nat × Nat)}
theorem c_readSuffixes (hk : kx σ b) (hF : fx_ln F) {R : RS} (h : cr1 σ b F (rSf R)) (hl : (rSf R).length ≤ 6) (ht : tw F 14 o) (hto : tk o) (hwo : wok o W) (hw : wc F W) (h1 : 1 ≤ W.length) : ∃ σ' F', f_Reader_readSuffixes (some (fx_ad b 28)) (fx_mk σ b F) = some (some (.int (nI (b2 (x_sufL R (wl o W)).1))), fx_mk σ' b F') ∧ hn σ σ' ∧ gw 240 15060 σ σ' ∧ cf [501] [] [] [6] F F' ∧ fx_ln F' ∧ ((x_sufL R (wl o W)).1 = true → cr1 σ' b F' (rSf (x_sufL R (wl o W)).2)) := by
  have hc : ∀ c, c ∈ o → c < 128 := fun c hc => ((tk_ok hto) c hc).2
  have hcnt := c_wcount (σ := σ) (b := b) hw
  have h60 := hwo.1
  have hb := hk.1
  have hwl := wl_len o W
  by_cases e : W.length = 1
  · have hd : (wl o W).drop 1 = [] := wl_drop0 (by omega)
    have hf1 : cf [501] [] [] [6] F (fx_I F 501 0) := cf_I (cf_refl _ _ _ _ _) (by decide)
    have hnil : cr1 σ b (fx_I F 501 0) [] := ⟨by rw [fx_I_1, if_pos rfl]; rfl, fun i hi => absurd hi (Nat.not_lt_zero _)⟩
    obtain ⟨σ2, F2, d1, d2, d3, d4, d5, d6⟩ := c_sufLoop (b := b) hc hwo 0 1 σ (fx_I F 501 0) [] (by omega) hk (fx_lnI hF) hnil (Nat.zero_le _) (tw_cf ht hf1 (by decide) (by decide)) (wc_cf hw hf1 (by decide) (by decide) (by decide))
    have d1' : rb_it (fun z : (Int32 × rb_St) => f_Reader_readSuffixes_b21 (some (fx_ad b 28)) (z.1) z.2) ((1 : Int32), fx_mk σ b (fx_I F 501 0)) = _ := d1
    unfold x_sufL
    rw [if_pos (show (wl o W).length = 1 by omega)]
    refine ⟨σ2, F2, ?_, d2, gw_mono d3 (by omega) (by omega), cf_trans hf1 d4, d5, ?_⟩
    · unfold f_Reader_readSuffixes
      simp only [↓fx_bc, ↓fx_vc hb, ↓cI_of hcnt]
      rw [if_pos (show nI W.length = (1 : Int32) by rw [e]; rfl), d1', hd]
      rfl
    · rw [hd]
      intro _
      exact d6 [] (by rw [hd]; rfl)
  · obtain ⟨σ2, F2, d1, d2, d3, d4, d5, d6⟩ := c_sufLoop (b := b) hc hwo (W.length - 1) 1 σ F (rSf R) (by omega) hk hF h hl ht hw
    have d1' : rb_it (fun z : (Int32 × rb_St) => f_Reader_readSuffixes_b21 (some (fx_ad b 28)) (z.1) z.2) ((1 : Int32), fx_mk σ b F) = _ := d1
    unfold x_sufL
    rw [if_neg (show ¬ (wl o W).length = 1 by omega)]
    refine ⟨σ2, F2, ?_, d2, gw_mono d3 (by omega) (by omega), d4, d5, ?_⟩
    · unfold f_Reader_readSuffixes
      simp only [↓fx_bc, ↓cI_of hcnt]
      rw [if_neg (show ¬ nI W.length = (1 : Int32) by rw [u_l1, u_eq (by omega) (by omega)]; exact e), d1']
      cases x_suf ((wl o W).drop 1) (rSf R) <;> rfl
    · cases hx : x_suf ((wl o W).drop 1) (rSf R) with
      | none => exact fun h => by cases h
      | some sf => exact fun _ => d6 sf hx
end
/-- marks, once the names are met -/
theorem mark_meets (h : List Nat) : ∀ (ws : List (List Nat)) (R : RS), ((x_meets ws (rN R)).1 = none → (x_mark h ws R).1 = false ∧ rN (x_mark h ws R).2 = (x_meets ws (rN R)).2) ∧ ∀ ks, (x_meets ws (rN R)).1 = some ks → x_mark h ws R = (true, wFl (wN R (x_meets ws (rN R)).2) (fun i j => rFl R i j || (decide (j ∈ ks) && ((decide (i = 1) && decide (h = q_PHO)) || (decide (i = 2) && decide (h = q_IGN)) || (decide (i = 3) && decide (h = q_SIL))))))
  | [], R => by
    refine ⟨fun e => (by cases e), fun ks e => ?_⟩
    have : some ([] : List Nat) = some ks := e
    injection this with this
    subst this
    show (true, R) = _
    congr 1
    have hfun : (fun i j => rFl R i j || (decide (j ∈ ([] : List Nat)) && ((decide (i = 1) && decide (h = q_PHO)) || (decide (i = 2) && decide (h = q_IGN)) || (decide (i = 3) && decide (h = q_SIL))))) = rFl R := by
      funext i j
      rw [decide_eq_false (fun hm => by cases hm), Bool.false_and, Bool.or_false]
    rw [hfun]
    rfl
  | w :: ws, R => by
    unfold x_mark x_meets
    rcases hx : nmeet (rN R) w with ⟨r, N⟩
    cases r with
    | none => exact ⟨fun _ => ⟨rfl, rfl⟩, fun ks e => by cases e⟩
    | some k =>
      simp only
      have ih := mark_meets h ws (wFl (wN R N) (fun i j => rFl R i j || (decide (j = k) && ((decide (i = 1) && decide (h = q_PHO)) || (decide (i = 2) && decide (h = q_IGN)) || (decide (i = 3) && decide (h = q_SIL))))))
      have hN : rN (wFl (wN R N) (fun i j => rFl R i j || (decide (j = k) && ((decide (i = 1) && decide (h = q_PHO)) || (decide (i = 2) && decide (h = q_IGN)) || (decide (i = 3) && decide (h = q_SIL)))))) = N := rfl
      rw [hN] at ih
      rcases hy : x_meets ws N with ⟨r2, N2⟩
      rw [hy] at ih
      cases r2 with
      | none => exact ⟨fun _ => ih.1 rfl, fun ks e => by cases e⟩
      | some ks2 =>
        refine ⟨fun e => (by cases e), fun ks e => ?_⟩
        have : some (k :: ks2) = some ks := e
        injection this with this
        subst this
        rw [ih.2 ks2 rfl]
        congr 1
        have hfun : (fun i j => (rFl R i j || (decide (j = k) && ((decide (i = 1) && decide (h = q_PHO)) || (decide (i = 2) && decide (h = q_IGN)) || (decide (i = 3) && decide (h = q_SIL))))) || (decide (j ∈ ks2) && ((decide (i = 1) && decide (h = q_PHO)) || (decide (i = 2) && decide (h = q_IGN)) || (decide (i = 3) && decide (h = q_SIL))))) = (fun i j => rFl R i j || (decide (j ∈ k :: ks2) && ((decide (i = 1) && decide (h = q_PHO)) || (decide (i = 2) && decide (h = q_IGN)) || (decide (i = 3) && decide (h = q_SIL))))) := by
          funext i j
          have : decide (j ∈ k :: ks2) = (decide (j = k) || decide (j ∈ ks2)) := by
            rw [← Bool.decide_or]
            exact decide_eq_decide.mpr List.mem_cons
          rw [this, Bool.or_assoc, Bool.and_or_distrib_right]
        show wFl _ (fun i j => (rFl R i j || (decide (j = k) && ((decide (i = 1) && decide (h = q_PHO)) || (decide (i = 2) && decide (h = q_IGN)) || (decide (i = 3) && decide (h = q_SIL))))) || (decide (j ∈ ks2) && ((decide (i = 1) && decide (h = q_PHO)) || (decide (i = 2) && decide (h = q_IGN)) || (decide (i = 3) && decide (h = q_SIL))))) = _
        rw [hfun]
/-- the marks of names, as fields 5, 6, 7 -/
def mkf (N : List (List Nat)) (I : Nat → Nat → Int32) (fl : Nat → Nat → Bool) : Prop := ∀ k, k < N.length → I k 5 = nI (b2 (fl 1 k)) ∧ I k 6 = nI (b2 (fl 2 k)) ∧ I k 7 = nI (b2 (fl 3 k))
section
variable {b : Nat} {F : fx_F} {N : List (List Nat)} {ad : Nat → Nat} {src : Nat → Option Nat}
theorem c_mark157 {σ : rb_St} {I : Nat → Nat → Int32} (h : nx σ b F N ad I src) {k : Nat} (hk : k < N.length) {p : Bool} (hp : I k 5 = nI (b2 p)) (x2 x3 : Int32) (mP y : Bool) (i : Nat) : ∃ σ', f_Reader_mark_j157 (some (fx_ad b 28)) x2 x3 (nI (b2 mP)) (nI i) (some (ad k)) (nI (b2 y)) (some (ad k)) (fx_mk σ b F) = some (.inl (nI (i + 1), fx_mk σ' b F)) ∧ nx σ' b F N ad (up2 (up2 I k 7 (nI (b2 y))) k 5 (nI (b2 (p || mP)))) src ∧ hx σ σ' ∧ gw 0 0 σ σ' := by
  obtain ⟨σ1, a1, a2, a3, a4⟩ := n_pZ h hk (f := 7) ⟨by decide, by decide, by decide⟩ (by decide) y
  obtain ⟨σ2, c1, c2, c3, c4⟩ := n_pZ a2 hk (f := 5) ⟨by decide, by decide, by decide⟩ (by decide) (p || mP)
  have hg := n_gI a2 hk (f := 5) ⟨by decide, by decide, by decide⟩
  have hg5 : up2 I k 7 (nI (b2 y)) k 5 = nI (b2 p) := by
    unfold up2 up1
    rw [if_pos rfl, if_neg (by decide)]
    exact hp
  rw [hg5] at hg
  refine ⟨σ2, ?_, c2, hx_trans a3 c3, gw_trans a4 c4⟩
  unfold f_Reader_mark_j157
  rw [a1, Option.bind_some, hg, Option.bind_some, show nI i + 1 = nI (i + 1) by rw [u_l1, u_add]]
  cases p
  · rw [if_pos (show nI (b2 false) = 0 from rfl)]
    cases mP
    · rw [if_pos (show nI (b2 false) = 0 from rfl)]
      have c1' : rb_pZ (fx_mk σ1 b F) (some (ad k)) 12 5 (0 : Int32) = _ := c1
      rw [c1', Option.bind_some]
    · rw [if_neg (show ¬ nI (b2 true) = 0 by decide)]
      have c1' : rb_pZ (fx_mk σ1 b F) (some (ad k)) 12 5 (1 : Int32) = _ := c1
      rw [c1', Option.bind_some]
  · rw [if_neg (show ¬ nI (b2 true) = 0 by decide)]
    have c1' : rb_pZ (fx_mk σ1 b F) (some (ad k)) 12 5 (1 : Int32) = _ := c1
    rw [c1', Option.bind_some]
theorem c_mark135 {σ : rb_St} {I : Nat → Nat → Int32} (h : nx σ b F N ad I src) {k : Nat} (hk : k < N.length) {p s : Bool} (hp : I k 5 = nI (b2 p)) (hs : I k 7 = nI (b2 s)) (x2 : Int32) (mS mP y : Bool) (i : Nat) : ∃ σ', f_Reader_mark_j135 (some (fx_ad b 28)) x2 (nI (b2 mS)) (nI (b2 mP)) (nI i) (some (ad k)) (nI (b2 y)) (some (ad k)) (fx_mk σ b F) = some (.inl (nI (i + 1), fx_mk σ' b F)) ∧ nx σ' b F N ad (up2 (up2 (up2 I k 6 (nI (b2 y))) k 7 (nI (b2 (s || mS)))) k 5 (nI (b2 (p || mP)))) src ∧ hx σ σ' ∧ gw 0 0 σ σ' := by
  obtain ⟨σ1, a1, a2, a3, a4⟩ := n_pZ h hk (f := 6) ⟨by decide, by decide, by decide⟩ (by decide) y
  have hg5 : up2 I k 6 (nI (b2 y)) k 5 = nI (b2 p) := by
    unfold up2 up1
    rw [if_pos rfl, if_neg (by decide)]
    exact hp
  have hg7 : up2 I k 6 (nI (b2 y)) k 7 = nI (b2 s) := by
    unfold up2 up1
    rw [if_pos rfl, if_neg (by decide)]
    exact hs
  obtain ⟨σ2, c1, c2, c3, c4⟩ := c_mark157 a2 hk hg5 x2 (nI (b2 mS)) mP (s || mS) i
  have hg := n_gI a2 hk (f := 7) ⟨by decide, by decide, by decide⟩
  rw [hg7] at hg
  refine ⟨σ2, ?_, c2, hx_trans a3 c3, gw_trans a4 c4⟩
  unfold f_Reader_mark_j135 f_Reader_mark_j152
  rw [a1, Option.bind_some, hg, Option.bind_some]
  cases s
  · rw [if_pos (show nI (b2 false) = 0 from rfl)]
    cases mS
    · rw [if_pos (show nI (b2 false) = 0 from rfl)]
      exact c1
    · rw [if_neg (show ¬ nI (b2 true) = 0 by decide)]
      exact c1
  · rw [if_neg (show ¬ nI (b2 true) = 0 by decide)]
    exact c1
theorem c_markLoop {W : List (Nat × Nat)} (hw : wc F W) (h60 : W.length ≤ 60) (mI mS mP : Bool) : ∀ (ks : List Nat) (i : Nat) (σ : rb_St) (I : Nat → Nat → Int32) (fl : Nat → Nat → Bool), i + ks.length = W.length → (∀ j, j < ks.length → (F.2.2.2.2 24)[i + j]? = some (some (ad (ks.getD j 0)))) → (∀ j, j < ks.length → ks.getD j 0 < N.length) → nx σ b F N ad I src → mkf N I fl → ∃ σ' I', rb_it (fun z : (Int32 × rb_St) => f_Reader_mark_b88 (some (fx_ad b 28)) (nI (b2 mI)) (nI (b2 mS)) (nI (b2 mP)) (z.1) z.2) (nI i, fx_mk σ b F) = some (some (.int 1), fx_mk σ' b F) ∧ nx σ' b F N ad I' src ∧ hx σ σ' ∧ gw 0 0 σ σ' ∧ (∀ k f, f ∉ [5, 6, 7] → I' k f = I k f) ∧ mkf N I' (fun x j => fl x j || (decide (j ∈ ks) && ((decide (x = 1) && mP) || (decide (x = 2) && mI) || (decide (x = 3) && mS))))
  | [], i, σ, I, fl, hi, hq, hks, h, hm => by
    have hcnt := c_wcount (σ := σ) (b := b) hw
    rw [List.length_nil] at hi
    refine ⟨σ, I, rb_it_r ?_, h, hx_refl _, gw_refl _, fun _ _ _ => rfl, fun k hk => ?_⟩
    · show f_Reader_mark_b88 _ _ _ _ _ _ = _
      unfold f_Reader_mark_b88
      simp only [↓fx_bc, ↓cI_of hcnt]
      rw [if_pos (nI_le (by omega) (by omega))]
      rfl
    · simp only [List.not_mem_nil, decide_false, Bool.false_and, Bool.or_false]
      exact hm k hk
  | kk :: ks, i, σ, I, fl, hi, hq, hks, h, hm => by
    have hcnt := c_wcount (σ := σ) (b := b) hw
    rw [List.length_cons] at hi
    have hk : kk < N.length := hks 0 (by rw [List.length_cons]; omega)
    have hq0 : (F.2.2.2.2 24)[i]? = some (some (ad kk)) := hq 0 (by rw [List.length_cons]; omega)
    have hnm := c_wname (σ := σ) (b := b) hw h60 (i := i) (by omega) hq0
    obtain ⟨m5, m6, m7⟩ := hm kk hk
    obtain ⟨σ1, a1, a2, a3, a4⟩ := c_mark135 h hk m5 m7 (nI (b2 mI)) mS mP (fl 2 kk || mI) i
    have hg6 := n_gI h hk (f := 6) ⟨by decide, by decide, by decide⟩
    rw [m6] at hg6
    have hup : ∀ f, up2 (up2 (up2 I kk 6 (nI (b2 (fl 2 kk || mI)))) kk 7 (nI (b2 (fl 3 kk || mS)))) kk 5 (nI (b2 (fl 1 kk || mP))) kk f = if f = 5 then nI (b2 (fl 1 kk || mP)) else if f = 7 then nI (b2 (fl 3 kk || mS)) else if f = 6 then nI (b2 (fl 2 kk || mI)) else I kk f := by
      intro f
      unfold up2 up1
      simp only [if_true]
    have hupn : ∀ k, ¬ k = kk → up2 (up2 (up2 I kk 6 (nI (b2 (fl 2 kk || mI)))) kk 7 (nI (b2 (fl 3 kk || mS)))) kk 5 (nI (b2 (fl 1 kk || mP))) k = I k := by
      intro k hne
      unfold up2 up1
      simp only [if_neg hne]
    have hm1 : mkf N (up2 (up2 (up2 I kk 6 (nI (b2 (fl 2 kk || mI)))) kk 7 (nI (b2 (fl 3 kk || mS)))) kk 5 (nI (b2 (fl 1 kk || mP)))) (fun x j => fl x j || (decide (j = kk) && ((decide (x = 1) && mP) || (decide (x = 2) && mI) || (decide (x = 3) && mS)))) := by
      intro k hkk
      by_cases e : k = kk
      · subst e
        rw [hup 5, hup 6, hup 7]
        simp
      · rw [hupn k e]
        simp only [decide_eq_false e, Bool.false_and, Bool.or_false]
        exact hm k hkk
    generalize hI1 : up2 (up2 (up2 I kk 6 (nI (b2 (fl 2 kk || mI)))) kk 7 (nI (b2 (fl 3 kk || mS)))) kk 5 (nI (b2 (fl 1 kk || mP))) = I1 at a2 hm1 hup hupn
    obtain ⟨σ2, I2, c1, c2, c3, c4, c5, c6⟩ := c_markLoop hw h60 mI mS mP ks (i + 1) σ1 I1 _ (by omega) (fun j hj => by
      have := hq (j + 1) (by rw [List.length_cons]; omega)
      rw [show i + (j + 1) = i + 1 + j by omega] at this
      exact this) (fun j hj => hks (j + 1) (by rw [List.length_cons]; omega)) a2 hm1
    refine ⟨σ2, I2, (rb_it_l ?_).trans c1, c2, hx_trans a3 c3, gw_trans a4 c4, fun k f hf => ?_, ?_⟩
    · show f_Reader_mark_b88 _ _ _ _ _ _ = _
      unfold f_Reader_mark_b88 f_Reader_mark_j130
      simp (disch := omega) only [↓fx_bc, ↓cI_of hcnt, u_le, n_leF, if_false, ↓cR_of hnm]
      rw [if_neg (show ¬ (some (ad kk) = none) from fun h => by cases h), hg6, Option.bind_some]
      cases hf : fl 2 kk
      · rw [hf] at a1
        rw [if_pos (show nI (b2 false) = 0 from rfl)]
        cases mI
        · rw [if_pos (show nI (b2 false) = 0 from rfl)]
          exact a1
        · rw [if_neg (show ¬ nI (b2 true) = 0 by decide)]
          exact a1
      · rw [hf] at a1
        rw [if_neg (show ¬ nI (b2 true) = 0 by decide)]
        exact a1
    · rw [c5 k f hf]
      by_cases e : k = kk
      · rw [e, hup f]
        have h5 : ¬ f = 5 := fun e => hf (by rw [e]; decide)
        have h6 : ¬ f = 6 := fun e => hf (by rw [e]; decide)
        have h7 : ¬ f = 7 := fun e => hf (by rw [e]; decide)
        rw [if_neg h5, if_neg h7, if_neg h6]
      · rw [hupn k e]
    · intro k hkk
      have := c6 k hkk
      have hmm : decide (k ∈ kk :: ks) = (decide (k = kk) || decide (k ∈ ks)) := by
        rw [← Bool.decide_or]
        exact decide_eq_decide.mpr List.mem_cons
      simp only [hmm, Bool.and_or_distrib_right, ← Bool.or_assoc] at this ⊢
      exact this
end
