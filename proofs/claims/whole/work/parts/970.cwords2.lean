/-! the class: words, one by one -/
section
variable {σ : rb_St} {b : Nat} {F : fx_F} {o : List Nat} {W : List (Nat × Nat)}
theorem c_wclear (hb : rb_b σ ≤ b) : f_Words_clear (some (fx_ad b 21)) (fx_mk σ b F) = some (none, fx_mk σ b (fx_I F 2104 0)) := by
  unfold f_Words_clear
  simp only [↓fx_vc hb]
theorem wc_nil (F : fx_F) : wc (fx_I F 2104 0) [] := ⟨by rw [fx_I_1, if_pos rfl]; rfl, fun i hi => absurd hi (Nat.not_lt_zero _)⟩
theorem c_wcount (hw : wc F W) : f_Words_count (some (fx_ad b 21)) (fx_mk σ b F) = some (some (.int (nI W.length)), fx_mk σ b F) := by
  unfold f_Words_count
  simp only [↓fx_bc, hw.1]
theorem w_row (hw : wc F W) {i : Nat} (hi : i < W.length) (hi2 : i < 2147483648) : (∀ {β : Type} (f : Int32 → Option β), (fx_ix (F.2.1 22) (nI i)).bind f = f (nI (W.getD i (0, 0)).1)) ∧ (∀ {β : Type} (f : Int32 → Option β), (fx_ix (F.2.1 23) (nI i)).bind f = f (nI (W.getD i (0, 0)).2)) := ⟨fun f => bx_of rfl hi2 (hw.2 i hi).1 f, fun f => bx_of rfl hi2 (hw.2 i hi).2 f⟩
theorem c_wcut (hF : fx_ln F) (hk : kx σ b) (ht : tw F 14 o) (hc : ∀ c, c ∈ o → c < 128) (hwo : wok o W) (hw : wc F W) {i : Nat} (hi : i < W.length) : ∃ σ' a, f_Words_cut (some (fx_ad b 21)) (nI i) (fx_mk σ b F) = some (some (va_rf (some a)), fx_mk σ' b F) ∧ sx σ' b a (wd o W i) ∧ hn σ σ' ∧ gw 3 250 σ σ' := by
  have ho : tO 14 := Or.inr (Or.inl rfl)
  have hol := tw_len hF ht
  rw [show tcap 14 = 120 from rfl] at hol
  have h60 := hwo.1
  obtain ⟨w1, w2⟩ := hwo.2 i hi
  obtain ⟨σ', a, a1, a2, a3, a4⟩ := c_cut (σ := σ) (b := b) ho hF hk ht hc (p := (W.getD i (0, 0)).1) (q := (W.getD i (0, 0)).2) (by omega) w2
  refine ⟨σ', a, ?_, a2, a3, gw_mono a4 (by omega) (by omega)⟩
  unfold f_Words_cut
  have hfc14 : ∀ {β : Type} (f : List Value → Option β), (rb_fc (fx_mk σ b F) (some (fx_ad b 14)) 2).bind f = f (fx_row b F 14) := (t_b ho).1
  rw [if_neg (show ¬ nI i < 0 by rw [u_l0, u_lt (by omega) (by omega)]; omega)]
  simp (disch := omega) only [↓fx_bc, hw.1, u_le, n_leF, if_false, ↓w_row hw hi, ↓hfc14, ↓cR_of a1]
theorem c_wisName (hF : fx_ln F) (ht : tw F 14 o) (hc : ∀ c, c ∈ o → c < 128) (hwo : wok o W) (hw : wc F W) {i : Nat} (hi : i < W.length) : f_Words_isName (some (fx_ad b 21)) (nI i) (fx_mk σ b F) = some (some (.int (nI (b2 (sp_name (wd o W i))))), fx_mk σ b F) := by
  have ho : tO 14 := Or.inr (Or.inl rfl)
  have h60 := hwo.1
  obtain ⟨w1, w2⟩ := hwo.2 i hi
  have hn := c_isName (σ := σ) (b := b) ho hF ht (fun c h => Nat.lt_trans (hc c h) (by decide)) (p := (W.getD i (0, 0)).1) (q := (W.getD i (0, 0)).2) (by omega) w2
  unfold f_Words_isName
  have hfc14 : ∀ {β : Type} (f : List Value → Option β), (rb_fc (fx_mk σ b F) (some (fx_ad b 14)) 2).bind f = f (fx_row b F 14) := (t_b ho).1
  rw [if_neg (show ¬ nI i < 0 by rw [u_l0, u_lt (by omega) (by omega)]; omega)]
  simp (disch := omega) only [↓fx_bc, hw.1, u_le, n_leF, if_false, ↓w_row hw hi, ↓hfc14, ↓cI_of hn]
  show _ = some (some (Value.int (nI (b2 (sp_name (slc o (W.getD i (0, 0)).1 (W.getD i (0, 0)).2))))), _)
  cases sp_name (slc o (W.getD i (0, 0)).1 (W.getD i (0, 0)).2) with
  | true => rfl
  | false => rfl
theorem c_wis (hF : fx_ln F) (ht : tw F 14 o) (hc : ∀ c, c ∈ o → c < 128) (hwo : wok o W) (hw : wc F W) {i : Nat} (hi : i < W.length) {a : Nat} {s : List Nat} (hs : sx σ b a s) : f_Words_is (some (fx_ad b 21)) (nI i) (some a) (fx_mk σ b F) = some (some (.int (nI (b2 (decide (wd o W i = s))))), fx_mk σ b F) := by
  have ho : tO 14 := Or.inr (Or.inl rfl)
  have h60 := hwo.1
  obtain ⟨w1, w2⟩ := hwo.2 i hi
  have hlen := c_len (F := F) hs
  obtain ⟨v, rest, k1, k2, k3, k4, k5, k6⟩ := hs.2.2
  have hfc := fo_fk (F := F) hs.1 k3
  have hh := c_holds (σ := σ) (b := b) ho hF ht (fun c h => Nat.lt_trans (hc c h) (by decide)) hs (p := (W.getD i (0, 0)).1) (q := (W.getD i (0, 0)).2) (by omega) w2
  unfold f_Words_is
  have hfc14 : ∀ {β : Type} (f : List Value → Option β), (rb_fc (fx_mk σ b F) (some (fx_ad b 14)) 2).bind f = f (fx_row b F 14) := (t_b ho).1
  rw [if_neg (show ¬ nI i < 0 by rw [u_l0, u_lt (by omega) (by omega)]; omega)]
  simp (disch := omega) only [↓fx_bc, hw.1, u_le, n_leF, if_false, ↓w_row hw hi, hfc, Option.bind_some, ↓cI_of hlen, ↓hfc14, ↓cI_of hh]
  show _ = some (some (Value.int (nI (b2 (decide (slc o (W.getD i (0, 0)).1 (W.getD i (0, 0)).2 = s))))), _)
  cases decide (slc o (W.getD i (0, 0)).1 (W.getD i (0, 0)).2 = s) with
  | true => rfl
  | false => rfl
theorem c_waddTo (hb : rb_b σ ≤ b) (hF : fx_ln F) (ht : tw F 14 o) (hc : ∀ c, c ∈ o → c < 128) (hwo : wok o W) (hw : wc F W) {i : Nat} (hi : i < W.length) {l : List Nat} (hp : tw F 26 l) : ∃ F', f_Words_addTo (some (fx_ad b 21)) (some (fx_ad b 26)) (nI i) (fx_mk σ b F) = some (none, fx_mk σ b F') ∧ tw F' 26 ((l ++ wd o W i).take 400) ∧ fx_ln F' ∧ fr [2601] [27] [] F F' := by
  have ho : tO 14 := Or.inr (Or.inl rfl)
  have ho2 : tO 26 := Or.inr (Or.inr (Or.inr (Or.inl rfl)))
  have h60 := hwo.1
  obtain ⟨w1, w2⟩ := hwo.2 i hi
  obtain ⟨F', a1, a2, a3, a4⟩ := c_addTextF (σ := σ) (b := b) ho2 hb ho (by decide) (p := (W.getD i (0, 0)).1) (q := (W.getD i (0, 0)).2) (by omega) w2 (fun c h => Nat.lt_trans (hc c h) (by decide)) hF hp ht
  refine ⟨F', ?_, a2, a3, a4⟩
  unfold f_Words_addTo
  have hfc26 : ∀ {β : Type} (f : List Value → Option β), (rb_fc (fx_mk σ b F) (some (fx_ad b 26)) 2).bind f = f (fx_row b F 26) := (t_b ho2).1
  rw [if_neg (show ¬ nI i < 0 by rw [u_l0, u_lt (by omega) (by omega)]; omega)]
  simp (disch := omega) only [↓fx_bc, hw.1, u_le, n_leF, if_false, ↓w_row hw hi, ↓hfc26, ↓cI_of a1]
/-- the names that words were met as -/
def mt (F : fx_F) (ad : Nat → Nat) (i : Nat) (ks : List Nat) : Prop := ∀ j, j < ks.length → (F.2.2.2.2 24)[i + j]? = some (some (ad (ks.getD j 0)))
theorem c_wname (hw : wc F W) (h60 : W.length ≤ 60) {i : Nat} (hi : i < W.length) {r : Option Nat} (hr : (F.2.2.2.2 24)[i]? = some r) : f_Words_name (some (fx_ad b 21)) (nI i) (fx_mk σ b F) = some (some (va_rf r), fx_mk σ b F) := by
  unfold f_Words_name
  rw [if_neg (show ¬ nI i < 0 by rw [u_l0, u_lt (by omega) (by omega)]; omega)]
  simp (disch := omega) only [↓fx_bc, hw.1, u_le, n_leF, if_false, ↓bR_of rfl (show i < 2147483648 by omega) hr]
end
theorem n_sR {σ : rb_St} {b : Nat} {F : fx_F} {N : List (List Nat)} {ad : Nat → Nat} {I : Nat → Nat → Int32} {src : Nat → Option Nat} (hb : rb_b σ ≤ b) (h : nx σ b F N ad I src) {o : Nat} (ho : o < 83) (hot : fx_t o = 112) {i : Nat} (hi : i < (F.2.2.2.2 o).length) (hi2 : i < 2147483648) {r : Option Nat} (hr : ∀ a, r = some a → ∃ k, k < N.length ∧ a = ad k) : rb_sR (fx_mk σ b F) (some (fx_ad b o)) 112 (nI i) r = some (fx_mk σ b (fx_Q F o ((F.2.2.2.2 o).set i r))) := by
  have htag : ∀ a, r = some a → ((fx_mk σ b F).1 a).1 = rb_ce 112 := fun a ha => by
    obtain ⟨k, hk1, hk2⟩ := hr a ha
    obtain ⟨h1, h2, h3, h4, h5, s, h6, h7⟩ := h.2.1 k hk1
    rw [hk2, fx_out h2, h6]
    rfl
  rw [fx_sR ho hot (by decide) hb htag, u_cl hi2, if_pos ⟨by rw [u_l0, u_lt (by omega) (by omega)]; omega, by omega⟩]
section
variable {b : Nat} {o : List Nat} {W : List (Nat × Nat)}
theorem c_wmeet (hc : ∀ c, c ∈ o → c < 128) (hwo : wok o W) {t : Nat} (ht60 : t ≤ W.length) : ∀ (m i : Nat) (σ : rb_St) (F : fx_F) (N : List (List Nat)) (ad : Nat → Nat) (I : Nat → Nat → Int32) (src : Nat → Option Nat), i + m = t → nok N → fx_ln F → kx σ b → nx σ b F N ad I src → tw F 14 o → wc F W → ∃ σ' F' ad' I' src', rb_it (fun z : (Int32 × rb_St) => f_Words_meet_b7 (some (fx_ad b 21)) (some (fx_ad b 3)) (nI t) (z.1) z.2) (nI i, fx_mk σ b F) = some (some (.int (nI (b2 (x_meets (((wl o W).take t).drop i) N).1.isSome))), fx_mk σ' b F') ∧ nx σ' b F' (x_meets (((wl o W).take t).drop i) N).2 ad' I' src' ∧ nxt N ad I src (x_meets (((wl o W).take t).drop i) N).2 ad' I' src' ∧ hn σ σ' ∧ gn N (x_meets (((wl o W).take t).drop i) N).2 σ σ' ∧ cf [301] [] [] [4, 24] F F' ∧ fx_ln F' ∧ nok (x_meets (((wl o W).take t).drop i) N).2 ∧ (∀ ks, (x_meets (((wl o W).take t).drop i) N).1 = some ks → ks.length = t - i ∧ mt F' ad' i ks ∧ ∀ j, j < ks.length → ks.getD j 0 < (x_meets (((wl o W).take t).drop i) N).2.length) ∧ ∀ j, j < i → (F'.2.2.2.2 24)[j]? = (F.2.2.2.2 24)[j]? := by
  have ho : tO 14 := Or.inr (Or.inl rfl)
  have h60 := hwo.1
  intro m
  induction m with
  | zero =>
    intro i σ F N ad I src hi hN hF hk h ht hw
    have hnil : ((wl o W).take t).drop i = [] := List.drop_eq_nil_of_le (by rw [List.length_take]; omega)
    rw [hnil]
    refine ⟨σ, F, ad, I, src, rb_it_r ?_, h, nxt_refl _ _ _ _, hn_refl _, gw_mono (gw_refl _) (Nat.zero_le _) (Nat.zero_le _), cf_refl _ _ _ _ _, hF, hN, fun ks hks => ?_, fun j _ => rfl⟩
    · show f_Words_meet_b7 _ _ _ _ _ = _
      unfold f_Words_meet_b7 f_Words_meet_j69
      rw [if_pos (nI_le (by omega) (by omega))]
      rfl
    · have : some ([] : List Nat) = some ks := hks
      injection this with this
      subst this
      exact ⟨by rw [List.length_nil]; omega, fun j hj => absurd hj (Nat.not_lt_zero _), fun j hj => absurd hj (Nat.not_lt_zero _)⟩
  | succ m ih =>
    intro i σ F N ad I src hi hN hF hk h ht hw
    have hiW : i < W.length := by omega
    have hcons : ((wl o W).take t).drop i = wd o W i :: ((wl o W).take t).drop (i + 1) := by
      have hl : i < ((wl o W).take t).length := by rw [List.length_take, wl_len]; omega
      rw [List.drop_eq_getElem_cons hl]
      congr 1
      have := wl_get (o := o) hiW
      rw [List.getElem_take, ← this]
      simp [List.getD, List.getElem?_eq_getElem (show i < (wl o W).length by rw [wl_len]; exact hiW)]
    obtain ⟨w1, w2⟩ := hwo.2 i hiW
    obtain ⟨σ1, F1, ad1, I1, src1, a1, a2, a3, a4, a5, a6, a7⟩ := c_meet hN hF hk h ho ht hc (p := (W.getD i (0, 0)).1) (q := (W.getD i (0, 0)).2) (by omega) w2
    have hwd : slc o (W.getD i (0, 0)).1 (W.getD i (0, 0)).2 = wd o W i := rfl
    rw [hwd] at a1 a2 a3 a5
    have hN1 : nok (nmeet N (wd o W i)).2 := nmeet_ok hN _
    have hl24 := hF.2.2 24
    have hl24' := a7.2.2 24
    simp only [fx_cR] at hl24 hl24'
    -- what is kept
    generalize hF2 : fx_Q F1 24 ((F1.2.2.2.2 24).set i ((nmeet N (wd o W i)).1.map ad1)) = F2
    have hQ2 : F2.2.2.2.2 24 = (F1.2.2.2.2 24).set i ((nmeet N (wd o W i)).1.map ad1) := by
      subst hF2
      rw [fx_Q_Q, if_pos rfl]
    have hget : (F2.2.2.2.2 24)[i]? = some ((nmeet N (wd o W i)).1.map ad1) := by
      rw [hQ2, List.getElem?_set_self (by omega)]
    have hcf2 : cf [301] [] [] [4, 24] F F2 := by
      subst hF2
      exact cf_Q (cf_mono (cf_nch a6) (by decide) (by decide) (by decide) (by decide)) (by decide)
    have hln2 : fx_ln F2 := by
      subst hF2
      exact fx_lnQ a7 (by rw [List.length_set]; exact a7.2.2 _)
    have hnx2 : nx σ1 b F2 (nmeet N (wd o W i)).2 ad1 I1 src1 := by
      subst hF2
      exact nx_fr a2 ⟨rfl, by rw [fx_Q_Q, if_neg (by decide)]⟩
    have hsm : rb_sR (fx_mk σ1 b F1) (some (fx_ad b 24)) 112 (nI i) ((nmeet N (wd o W i)).1.map ad1) = some (fx_mk σ1 b (fx_Q F1 24 ((F1.2.2.2.2 24).set i ((nmeet N (wd o W i)).1.map ad1)))) := n_sR (by rw [a4.1.2.1]; exact hk.1) a2 (by decide) rfl (by omega) (by omega) (fun a ha => by
      cases hm : (nmeet N (wd o W i)).1 with
      | none => rw [hm] at ha; cases ha
      | some k =>
        rw [hm] at ha
        injection ha with ha
        exact ⟨k, nmeet_lt hm, ha.symm⟩)
    have hbody : f_Words_meet_b7 (some (fx_ad b 21)) (some (fx_ad b 3)) (nI t) (nI i) (fx_mk σ b F) = if (nmeet N (wd o W i)).1.map ad1 = none then (some (some (.int (0 : Int32)), fx_mk σ1 b F2)).map Sum.inr else some (.inl (nI (i + 1), fx_mk σ1 b F2)) := by
      unfold f_Words_meet_b7
      rw [if_neg (show ¬ nI t ≤ nI i by rw [u_le (by omega) (by omega)]; omega)]
      simp (disch := omega) only [↓fx_bc, hw.1, u_le, n_leF, if_false, ↓w_row hw hiW, ↓cR_of a1]
      rw [hsm, Option.bind_some, hF2]
      simp only [↓fx_bc, ↓bR_of rfl (show i < 2147483648 by omega) hget]
      rw [show nI i + 1 = nI (i + 1) by rw [u_l1, u_add]]
    rw [hcons]
    have hlen1 := a3.1
    cases hm : (nmeet N (wd o W i)).1 with
    | none =>
      rw [hm, Option.map_none, if_pos rfl] at hbody
      have hx : x_meets (wd o W i :: ((wl o W).take t).drop (i + 1)) N = (none, (nmeet N (wd o W i)).2) := by
        rw [x_meets]
        generalize nmeet N (wd o W i) = z at hm
        obtain ⟨z1, z2⟩ := z
        subst hm
        rfl
      rw [hx]
      exact ⟨σ1, F2, ad1, I1, src1, rb_it_m hbody, hnx2, a3, a4, a5, hcf2, hln2, hN1, fun ks hks => (by cases hks), fun j hj => by
        rw [hQ2, List.getElem?_set_ne (by omega), a6.2.2.2.2 24 (by decide)]⟩
    | some k =>
      rw [hm, Option.map_some, if_neg (by simp)] at hbody
      have hk1 : kx σ1 b := kx_hx hk a4.1
      obtain ⟨σ', F', ad', I', src', g1, g2, g3, g4, g5, g6, g7, g8, g9, g10⟩ := ih (i + 1) σ1 F2 (nmeet N (wd o W i)).2 ad1 I1 src1 (by omega) hN1 hln2 hk1 hnx2 (tw_cf ht hcf2 (by decide) (by decide)) (wc_cf hw hcf2 (by decide) (by decide) (by decide))
      have hkl : k < (nmeet N (wd o W i)).2.length := nmeet_lt hm
      have hx : x_meets (wd o W i :: ((wl o W).take t).drop (i + 1)) N = ((x_meets (((wl o W).take t).drop (i + 1)) (nmeet N (wd o W i)).2).1.map (fun ks => k :: ks), (x_meets (((wl o W).take t).drop (i + 1)) (nmeet N (wd o W i)).2).2) := by
        rw [x_meets]
        generalize nmeet N (wd o W i) = z at hm
        obtain ⟨z1, z2⟩ := z
        subst hm
        simp only
        generalize x_meets (((wl o W).take t).drop (i + 1)) z2 = y
        obtain ⟨y1, y2⟩ := y
        cases y1 <;> rfl
      rw [hx]
      refine ⟨σ', F', ad', I', src', (rb_it_l hbody).trans ?_, g2, nxt_trans a3 g3, hn_trans a4 g4, gn_trans a5 g5 hlen1 g3.1, cf_trans hcf2 g6, g7, g8, fun ks hks => ?_, fun j hj => ?_⟩
      · rw [g1]
        cases (x_meets (((wl o W).take t).drop (i + 1)) (nmeet N (wd o W i)).2).1 <;> rfl
      · cases hy : (x_meets (((wl o W).take t).drop (i + 1)) (nmeet N (wd o W i)).2).1 with
        | none => rw [hy] at hks; cases hks
        | some ks2 =>
          rw [hy] at hks
          injection hks with hks
          subst hks
          obtain ⟨q1, q2, q3⟩ := g9 ks2 hy
          refine ⟨by rw [List.length_cons]; omega, fun j hj => ?_, fun j hj => ?_⟩
          · cases j with
            | zero =>
              show (F'.2.2.2.2 24)[i + 0]? = some (some (ad' k))
              rw [Nat.add_zero, g10 i (by omega), hget, hm, (g3.2.1 k hkl).2.1]
              rfl
            | succ j =>
              have := q2 j (by simpa using hj)
              rw [show i + 1 + j = i + (j + 1) by omega] at this
              exact this
          · cases j with
            | zero => exact Nat.lt_of_lt_of_le hkl g3.1
            | succ j => exact q3 j (by simpa using hj)
      · rw [g10 j (by omega), hQ2, List.getElem?_set_ne (by omega), a6.2.2.2.2 24 (by decide)]
end
