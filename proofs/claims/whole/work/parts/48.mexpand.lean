/-! the reference: an expansion, from its first character to its last -/
section
variable {σ : rb_St} {b : Nat} {F0 : fx_F} {T : List Nat} {gv df : Nat → Option (List Nat)} {A : Nat → Option (List Nat)}
noncomputable abbrev m_bd (b : Nat) (x : Int32) : (Int32 × rb_St) → Option ((Int32 × rb_St) ⊕ rb_Rs) := fun z => f_M_expand_b34 (some (fx_ad b 34)) x (z.1) z.2
theorem m_bd0 (b : Nat) (x : Int32) (τ : rb_St) : rb_it (m_bd b x) (nI 0, τ) = some (some (.int (nI 0)), τ) := by
  refine rb_it_r ?_
  unfold m_bd f_M_expand_b34 f_M_expand_j134
  simp only
  rw [if_pos (show nI 0 = 0 from rfl), if_pos (show rb_isZ (nI 0) from Or.inl rfl)]
  rfl
/-- a character, or a dollar, that is read -/
theorem m_bd_read (hb : rb_b σ ≤ b) {F : fx_F} (hF : fx_ln F) (hR : m_rd T gv df F) (x : Int32) {l : Nat} (hl6 : l ≤ 6) {s : Option Nat} (hs : sok gv s) {p e : Nat} (ha : m_at F l s p e) (hpe : p < e) (he : e ≤ (bs T gv s).length) : m_bd b x (nI 1, fx_mk σ b F) = (if (bs T gv s).getD p 0 = 36 then rb_cI (f_M_dollar (some (fx_ad b 34)) x (fx_mk σ b (fx_A F 66 ((F.2.1 66).set l (nI (p + 1)))))) (fun x_28 σ_29 => some (.inl (x_28, σ_29))) else rb_cI (f_M_append (some (fx_ad b 34)) (nI ((bs T gv s).getD p 0)) (fx_mk σ b (fx_A F 66 ((F.2.1 66).set l (nI (p + 1)))))) (fun x_28 σ_29 => some (.inl (x_28, σ_29)))) := by
  have hbl := bs_len (T := T) (gv := gv) (s := s) hR.2.1 hR.2.2.2.2.1
  have hbt := bs_tk (T := T) (gv := gv) (s := s) hR.2.2.1 hR.2.2.2.2.1
  have h66 := hF.1 66
  simp only [fx_cI] at h66
  obtain ⟨a1, a2, a3, a4⟩ := ha
  have hch := m_charAt (σ := σ) (b := b) hR.1 hR.2.2.2.1 hR.2.2.2.2.1 hs (l := l) (p := p) (by omega) a2 (by omega) hR.2.1
  have hc := ty_lt (tk_get hbt (k := p) (by omega))
  rw [← a1] at hch
  unfold m_bd f_M_expand_b34
  simp only
  rw [if_neg (show ¬ nI 1 = 0 by decide)]
  simp (disch := omega) only [↓fx_bm, ↓fx_vm hb, ↓bx_of a1 (show l < 2147483648 by omega) a3, ↓bx_of a1 (show l < 2147483648 by omega) a4, ↓cI_of hch, ↓reduceIte, n_ltT, n_ltF, n_leT, n_leF, n_eqT, n_eqF, nI_1, u_lt, u_le, u_eq, u_add, u_ix, u_ixL, u_ixR, u_cl, u_nm1, u_nm1', u_m1l, u_m1n, u_l0, Option.bind_some, Option.map_some, not_true_eq_false, not_false_eq_true, true_and, and_true, Nat.add_sub_cancel, Bool.false_eq_true, u_nar2]
  simp (disch := omega) only [a1, u_l1, u_l36, ↓reduceIte, n_ltT, n_ltF, n_leT, n_leF, n_eqT, n_eqF, nI_1, u_lt, u_le, u_eq, u_add, u_ix, u_ixL, u_ixR, u_cl, u_nm1, u_nm1', u_m1l, u_m1n, u_l0, Option.bind_some, Option.map_some, not_true_eq_false, not_false_eq_true, true_and, and_true, Nat.add_sub_cancel, Bool.false_eq_true, u_nar2, ↓fx_bm, ↓bx_of a1 (show l < 2147483648 by omega) a3, ↓bx_of a1 (show l < 2147483648 by omega) a4, ↓cI_of hch, ↓fx_vm hb]
/-- the run of a level -/
def m_R (σ : rb_St) (b : Nat) (x : Int32) (T : List Nat) (gv df A : Nat → Option (List Nat)) (F0 : fx_F) (n : Nat) : Prop := ∀ (k : Nat) (F : fx_F) (o : List Nat) (s : Option Nat) (p e : Nat), e - p ≤ k → p ≤ e → e ≤ (bs T gv s).length → sok gv s → m_at F (6 - n) s p e → fx_ln F → fr zI zA [] F0 F → m_rd T gv df F → o.length ≤ 120 → tk o → m_out F o →
  (∀ ex g, xe A (vl gv df) n (slc (bs T gv s) p e) = some (ex, g) → o.length + g ≤ 120 → ∃ F', rb_it (m_bd b x) (nI 1, fx_mk σ b F) = rb_it (m_bd b x) (nI 1, fx_mk σ b F') ∧ m_at F' (6 - n) s e e ∧ m_out F' (o ++ ex) ∧ stk (6 - n) F F' ∧ fx_ln F' ∧ fr zI zA [] F F') ∧
  ((∀ ex g, xe A (vl gv df) n (slc (bs T gv s) p e) = some (ex, g) → 120 < o.length + g) → ∃ F', rb_it (m_bd b x) (nI 1, fx_mk σ b F) = some (some (.int (nI 0)), fx_mk σ b F') ∧ fx_ln F' ∧ fr zI zA [] F F')
theorem m_run_end {x : Int32} {n : Nat} {F : fx_F} {o : List Nat} {s : Option Nat} {p : Nat} (ha : m_at F (6 - n) s p p) (hF : fx_ln F) (ho : o.length ≤ 120) (hm : m_out F o) : (∀ ex g, xe A (vl gv df) n (slc (bs T gv s) p p) = some (ex, g) → o.length + g ≤ 120 → ∃ F', rb_it (m_bd b x) (nI 1, fx_mk σ b F) = rb_it (m_bd b x) (nI 1, fx_mk σ b F') ∧ m_at F' (6 - n) s p p ∧ m_out F' (o ++ ex) ∧ stk (6 - n) F F' ∧ fx_ln F' ∧ fr zI zA [] F F') ∧
  ((∀ ex g, xe A (vl gv df) n (slc (bs T gv s) p p) = some (ex, g) → 120 < o.length + g) → ∃ F', rb_it (m_bd b x) (nI 1, fx_mk σ b F) = some (some (.int (nI 0)), fx_mk σ b F') ∧ fx_ln F' ∧ fr zI zA [] F F') := by
  rw [slc_self, xe_nil]
  refine ⟨fun ex g h _ => ?_, fun h => ?_⟩
  · cases h
    exact ⟨F, rfl, ha, by simpa using hm, stk_refl _ _, hF, fr_refl _ _ _ _⟩
  · have := h [] 0 rfl
    omega
/-- a piece of text was appended or not, and the level goes on -/
theorem m_run_app {x : Int32} {n : Nat} {F F2 : fx_F} {o w r : List Nat} {s : Option Nat} {e : Nat} (hstep : m_bd b x (nI 1, fx_mk σ b F) = some (.inl ((if o.length + w.length ≤ 120 then nI 1 else nI 0), fx_mk σ b F2))) (hst : stk (6 - n) F F2) (hfr : fr zI zA [] F F2) (hln : fx_ln F2) (hout : o.length + w.length ≤ 120 → m_out F2 (o ++ w)) {t : List Nat} (hxe : xe A (vl gv df) n t = (xe A (vl gv df) n r).map (fun q => (w ++ q.1, w.length + q.2)))
  (ih : o.length + w.length ≤ 120 → (∀ ex g, xe A (vl gv df) n r = some (ex, g) → (o ++ w).length + g ≤ 120 → ∃ F', rb_it (m_bd b x) (nI 1, fx_mk σ b F2) = rb_it (m_bd b x) (nI 1, fx_mk σ b F') ∧ m_at F' (6 - n) s e e ∧ m_out F' ((o ++ w) ++ ex) ∧ stk (6 - n) F2 F' ∧ fx_ln F' ∧ fr zI zA [] F2 F') ∧ ((∀ ex g, xe A (vl gv df) n r = some (ex, g) → 120 < (o ++ w).length + g) → ∃ F', rb_it (m_bd b x) (nI 1, fx_mk σ b F2) = some (some (.int (nI 0)), fx_mk σ b F') ∧ fx_ln F' ∧ fr zI zA [] F2 F')) :
  (∀ ex g, xe A (vl gv df) n t = some (ex, g) → o.length + g ≤ 120 → ∃ F', rb_it (m_bd b x) (nI 1, fx_mk σ b F) = rb_it (m_bd b x) (nI 1, fx_mk σ b F') ∧ m_at F' (6 - n) s e e ∧ m_out F' (o ++ ex) ∧ stk (6 - n) F F' ∧ fx_ln F' ∧ fr zI zA [] F F') ∧
  ((∀ ex g, xe A (vl gv df) n t = some (ex, g) → 120 < o.length + g) → ∃ F', rb_it (m_bd b x) (nI 1, fx_mk σ b F) = some (some (.int (nI 0)), fx_mk σ b F') ∧ fx_ln F' ∧ fr zI zA [] F F') := by
  by_cases hw : o.length + w.length ≤ 120
  · rw [if_pos hw] at hstep
    obtain ⟨i1, i2⟩ := ih hw
    rw [List.length_append] at i1 i2
    rw [hxe, rb_it_l hstep]
    refine ⟨fun ex g h hfit => ?_, fun h => ?_⟩
    · cases hr : xe A (vl gv df) n r with
      | none => rw [hr] at h; cases h
      | some q =>
        rw [hr] at h
        cases h
        obtain ⟨F', k1, k2, k3, k4, k5, k6⟩ := i1 q.1 q.2 hr (by omega)
        exact ⟨F', k1, k2, by rw [← List.append_assoc]; exact k3, stk_trans hst k4, k5, fr_trans hfr k6⟩
    · obtain ⟨F', k1, k2, k3⟩ := i2 (fun ex g hr => by
        have := h (w ++ ex) (w.length + g) (by rw [hr]; rfl)
        omega)
      exact ⟨F', k1, k2, fr_trans hfr k3⟩
  · rw [if_neg hw] at hstep
    rw [rb_it_l hstep, m_bd0]
    refine ⟨fun ex g h hfit => ?_, fun h => ⟨F2, rfl, hln, hfr⟩⟩
    exfalso
    rw [hxe] at h
    cases hr : xe A (vl gv df) n r with
    | none => rw [hr] at h; cases h
    | some q =>
      rw [hr] at h
      cases h
      omega
end
