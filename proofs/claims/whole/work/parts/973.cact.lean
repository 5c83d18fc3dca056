/-! the class: a command -/
def nxo (N : List (List Nat)) (ad : Nat → Nat) (I : Nat → Nat → Int32) (src : Nat → Option Nat) (N' : List (List Nat)) (ad' : Nat → Nat) (I' : Nat → Nat → Int32) (src' : Nat → Option Nat) : Prop := N.length ≤ N'.length ∧ (∀ k, k < N.length → N'.getD k [] = N.getD k [] ∧ ad' k = ad k ∧ (∀ f, f ≠ 2 → f ≠ 3 → I' k f = I k f) ∧ src' k = src k) ∧ (∀ k, N.length ≤ k → k < N'.length → (∀ f, f ≠ 2 → f ≠ 3 → I' k f = nI0 k f) ∧ src' k = none)
theorem nxo_refl (N : List (List Nat)) (ad : Nat → Nat) (I : Nat → Nat → Int32) (src : Nat → Option Nat) : nxo N ad I src N ad I src := ⟨Nat.le_refl _, fun _ _ => ⟨rfl, rfl, fun _ _ _ => rfl, rfl⟩, fun k h1 h2 => absurd h2 (by omega)⟩
theorem nxo_trans {N ad I src N1 ad1 I1 src1 N2 ad2 I2 src2} (h1 : nxo N ad I src N1 ad1 I1 src1) (h2 : nxo N1 ad1 I1 src1 N2 ad2 I2 src2) : nxo N ad I src N2 ad2 I2 src2 := by
  refine ⟨Nat.le_trans h1.1 h2.1, fun k hk => ?_, fun k hk hk2 => ?_⟩
  · obtain ⟨a1, a2, a3, a4⟩ := h1.2.1 k hk
    obtain ⟨b1, b2, b3, b4⟩ := h2.2.1 k (Nat.lt_of_lt_of_le hk h1.1)
    exact ⟨b1.trans a1, b2.trans a2, fun f f2 f3 => (b3 f f2 f3).trans (a3 f f2 f3), b4.trans a4⟩
  · by_cases e : k < N1.length
    · obtain ⟨a1, a2⟩ := h1.2.2 k hk e
      obtain ⟨b1, b2, b3, b4⟩ := h2.2.1 k e
      exact ⟨fun f f2 f3 => (b3 f f2 f3).trans (a1 f f2 f3), b4.trans a2⟩
    · exact h2.2.2 k (by omega) hk2
theorem nxo_of {N ad I src N' ad' I1 src'} {I' : Nat → Nat → Int32} (h : nxt N ad I src N' ad' I1 src') (hI : ∀ k f, f ≠ 2 → f ≠ 3 → I' k f = I1 k f) : nxo N ad I src N' ad' I' src' := by
  refine ⟨h.1, fun k hk => ?_, fun k hk hk2 => ?_⟩
  · obtain ⟨a1, a2, a3, a4⟩ := h.2.1 k hk
    exact ⟨a1, a2, fun f f2 f3 => by rw [hI k f f2 f3, a3], a4⟩
  · obtain ⟨a1, a2⟩ := h.2.2 k hk hk2
    exact ⟨fun f f2 f3 => by rw [hI k f f2 f3, a1], a2⟩
theorem cps_nxt {zi za zr zq : List Nat} {σ σ' : rb_St} {b : Nat} {F F' : fx_F} {S : PS} {ad : Nat → Nat} {I : Nat → Nat → Int32} {src : Nat → Option Nat} {N' : List (List Nat)} {ad' : Nat → Nat} {I' : Nat → Nat → Int32} {src' : Nat → Option Nat} (h : cps σ b F S ad I src) (hn : nx σ' b F' N' ad' I' src') (ht : nxt (pN S) ad I src N' ad' I' src') (hf : cf zi za zr zq F F') (h2 : 302 ∉ zi) (h3 : 2601 ∉ zi) (h4 : 27 ∉ za) : cps σ' b F' (N', pF S, pC S, pP S) ad' I' src' := by
  refine ⟨hn, by rw [hf.1 _ h2]; exact h.2.1, fun k hk => ?_, fun k hk => h.2.2.2.1 k (Nat.le_trans ht.1 hk), tw_cf h.2.2.2.2.1 hf h3 h4, h.2.2.2.2.2⟩
  by_cases e : k < (pN S).length
  · rw [(ht.2.1 k e).2.2.1]
    exact h.2.2.1 k e
  · have hz := h.2.2.2.1 k (by omega)
    rw [(ht.2.2 k (by omega) hk).1]
    show nI0 k 2 = nI (pF S k).1 ∧ nI0 k 3 = (pF S k).2
    rw [hz]
    exact ⟨rfl, rfl⟩
theorem wok_wds {o : List Nat} (ho : o.length ≤ 120) : wok o (wds o o.length 0 o.length) := by
  have h60 := wds60 ho
  rw [wl_len] at h60
  refine ⟨h60, fun k hk => ?_⟩
  have := wds_in o _ _ _ _ (getD_mem (d := (0, 0)) hk)
  exact ⟨this.2.1, this.2.2⟩
section
variable {σ : rb_St} {b : Nat} {F : fx_F} {o : List Nat} {W : List (Nat × Nat)} {S : PS} {ad : Nat → Nat} {I : Nat → Nat → Int32} {src : Nat → Option Nat}
theorem c_meetW (hc : ∀ c, c ∈ o → c < 128) (hwo : wok o W) {t : Nat} (ht60 : t ≤ W.length) {i : Nat} (hi : i ≤ t) (hN : nok (pN S)) (hF : fx_ln F) (hk : kx σ b) (h : cps σ b F S ad I src) (ht : tw F 14 o) (hw : wc F W) : ∃ σ' F' ad' I' src', f_Words_meet (some (fx_ad b 21)) (some (fx_ad b 3)) (nI i) (nI t) (fx_mk σ b F) = some (some (.int (nI (b2 (x_meets (((wl o W).take t).drop i) (pN S)).1.isSome))), fx_mk σ' b F') ∧ cps σ' b F' ((x_meets (((wl o W).take t).drop i) (pN S)).2, pF S, pC S, pP S) ad' I' src' ∧ nxt (pN S) ad I src (x_meets (((wl o W).take t).drop i) (pN S)).2 ad' I' src' ∧ hn σ σ' ∧ gn (pN S) (x_meets (((wl o W).take t).drop i) (pN S)).2 σ σ' ∧ cf [301] [] [] [4, 24] F F' ∧ fx_ln F' ∧ nok (x_meets (((wl o W).take t).drop i) (pN S)).2 ∧ (∀ ks, (x_meets (((wl o W).take t).drop i) (pN S)).1 = some ks → ks.length = t - i ∧ mt F' ad' i ks ∧ ∀ j, j < ks.length → ks.getD j 0 < (x_meets (((wl o W).take t).drop i) (pN S)).2.length) ∧ ∀ j, j < i → (F'.2.2.2.2 24)[j]? = (F.2.2.2.2 24)[j]? := by
  have h60 := hwo.1
  obtain ⟨σ', F', ad', I', src', a1, a2, a3, a4, a5, a6, a7, a8, a9, a10⟩ := c_wmeet (b := b) hc hwo ht60 (t - i) i σ F (pN S) ad I src (by omega) hN hF hk h.1 ht hw
  refine ⟨σ', F', ad', I', src', ?_, cps_nxt h a2 a3 a6 (by decide) (by decide) (by decide), a3, a4, a5, a6, a7, a8, a9, a10⟩
  unfold f_Words_meet
  rw [show rb_mx (nI i) (0 : Int32) = nI i from if_neg (by rw [u_l0, u_lt (by omega) (by omega)]; omega)]
  exact a1
end
