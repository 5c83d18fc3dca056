/-! the class: the rules, and how they stand for a rule text -/
theorem sr_least {P : Nat → Bool} : ∀ {m k j : Nat}, sr P m k = some j → ∀ i, k ≤ i → i < j → P i = false
  | 0, k, j, h, i, h1, h2 => by cases h
  | m + 1, k, j, h, i, h1, h2 => by
    rw [sr_m] at h
    by_cases e : P k = true
    · rw [if_pos e] at h
      injection h with h
      omega
    · rw [if_neg e] at h
      by_cases e2 : i = k
      · rw [e2]
        exact Bool.eq_false_iff.mpr e
      · exact sr_least h i (by omega) h2
/-- the number of the first command of a group -/
def fg (Cm : List (Nat × List Nat)) (g : Nat) : Option Nat := sr (fun k => decide ((Cm.getD k (0, [])).1 = g)) Cm.length 0
def og (Cm : List (Nat × List Nat)) (x : Option Nat) : Int32 := match x with | none => -1 | some g => oi (fg Cm g)
theorem fg_lt {Cm : List (Nat × List Nat)} {g j : Nat} (h : fg Cm g = some j) : j < Cm.length ∧ (Cm.getD j (0, [])).1 = g := by
  have := sr_some h
  exact ⟨by omega, of_decide_eq_true this.2.2⟩
theorem fg_app (Cm : List (Nat × List Nat)) (g : Nat) (t : List Nat) (g' : Nat) : fg (Cm ++ [(g, t)]) g' = match fg Cm g' with | some j => some j | none => if g' = g then some Cm.length else none := by
  cases h : fg Cm g' with
  | some j =>
    have hj := fg_lt h
    refine sr_of (Nat.zero_le _) (by rw [List.length_append]; omega) (decide_eq_true (by rw [getD_pushl hj.1]; exact hj.2)) (fun i _ hi => decide_eq_false (fun e => ?_))
    rw [getD_pushl (by omega)] at e
    have h2 : sr (fun k => decide ((Cm.getD k (0, [])).1 = g')) Cm.length 0 = some j := h
    have h3 := sr_least h2 i (Nat.zero_le _) hi
    rw [decide_eq_true e] at h3
    cases h3
  | none =>
    have hno := sr_none (show sr (fun k => decide ((Cm.getD k (0, [])).1 = g')) Cm.length 0 = none from h)
    simp only
    by_cases e : g' = g
    · rw [if_pos e]
      refine sr_of (Nat.zero_le _) (by rw [List.length_append, List.length_cons]; omega) (decide_eq_true (by rw [getD_push]; exact e.symm)) (fun i _ hi => ?_)
      rw [getD_pushl hi]
      exact hno i (Nat.zero_le _) (by omega)
    · rw [if_neg e]
      cases hx : fg (Cm ++ [(g, t)]) g' with
      | none => rfl
      | some j =>
        have hj := fg_lt hx
        rw [List.length_append, List.length_cons, List.length_nil] at hj
        by_cases ej : j = Cm.length
        · rw [ej, getD_push] at hj
          exact absurd hj.2.symm e
        · rw [getD_pushl (by omega)] at hj
          have := hno j (Nat.zero_le _) (by omega)
          rw [decide_eq_true hj.2] at this
          cases this
theorem og_app {Cm : List (Nat × List Nat)} (g : Nat) (t : List Nat) {x : Option Nat} (h : ∀ g', x = some g' → fg Cm g' ≠ none) : og (Cm ++ [(g, t)]) x = og Cm x := by
  cases x with
  | none => rfl
  | some g' =>
    show oi (fg (Cm ++ [(g, t)]) g') = oi (fg Cm g')
    rw [fg_app]
    cases hx : fg Cm g' with
    | none => exact absurd hx (h g' rfl)
    | some j => rfl
theorem og_ne {Cm : List (Nat × List Nat)} (hl : Cm.length ≤ 30) {x : Option Nat} (h : ∀ g', x = some g' → fg Cm g' ≠ none) : (og Cm x = -1) ↔ x = none := by
  cases x with
  | none => exact ⟨fun _ => rfl, fun _ => rfl⟩
  | some g =>
    refine ⟨fun e => ?_, fun e => by cases e⟩
    cases hx : fg Cm g with
    | none => exact absurd hx (h g rfl)
    | some j =>
      have hj := fg_lt hx
      have e2 : oi (fg Cm g) = -1 := e
      rw [hx] at e2
      have e3 : nI j = -1 := e2
      rw [u_nm1 (by omega)] at e3
      exact absurd e3 id
def cmx (σ : rb_St) (b p : Nat) (first : Int32) (t : List Nat) : Prop := wx b p ∧ p < rb_n σ ∧ ∃ s, σ.1 p = (11, [.ref s, .int first, .int (nI (b2 (x_has t 45))), .int (nI (b2 (x_has t 64))), .int (nI (b2 (x_has t 43)))]) ∧ sx σ b s (t.drop (nmk t)) ∧ t.length ≤ 320
theorem cmx_hx {σ σ' : rb_St} {b p : Nat} {x : Int32} {t : List Nat} (h : cmx σ b p x t) (hh : hx σ σ') : cmx σ' b p x t := by
  obtain ⟨h1, h2, s, h3, h4, h5⟩ := h
  exact ⟨h1, Nat.lt_of_lt_of_le h2 hh.1, s, by rw [hh.2.2.2 p h2 (by rw [h3]; show 11 ≠ 12; decide)]; exact h3, sx_hx h4 hh, h5⟩
def crow (σ : rb_St) (b : Nat) (F : fx_F) (Cm : List (Nat × List Nat)) : Prop := ∀ i, i < Cm.length → ∃ p, (F.2.2.2.2 10)[i]? = some (some p) ∧ cmx σ b p (oi (fg Cm (Cm.getD i (0, [])).1)) (Cm.getD i (0, [])).2
def cr1 (σ : rb_St) (b : Nat) (F : fx_F) (Sf : List (List Nat)) : Prop := F.1 501 = nI Sf.length ∧ prow σ b F 6 Sf
def cr2 (σ : rb_St) (b : Nat) (F : fx_F) (En : List ((List Nat × List Nat) × Option Nat)) (Cm : List (Nat × List Nat)) : Prop := F.1 505 = nI En.length ∧ erow σ b F En ∧ ∀ i, i < En.length → (F.2.1 9)[i]? = some (og Cm (En.getD i (([], []), none)).2)
def cr3 (σ : rb_St) (b : Nat) (F : fx_F) (Cm : List (Nat × List Nat)) : Prop := F.1 507 = nI Cm.length ∧ crow σ b F Cm
def cr4 (F : fx_F) (Pr : List (Nat × Nat)) (ad : Nat → Nat) : Prop := F.1 510 = nI Pr.length ∧ ∀ i, i < Pr.length → (F.2.2.2.2 11)[i]? = some (some (ad (Pr.getD i (0, 0)).1)) ∧ (F.2.2.2.2 12)[i]? = some (some (ad (Pr.getD i (0, 0)).2))
def cr5 (F : fx_F) (R : RS) (ad : Nat → Nat) : Prop := F.1 511 = og (rCm R) (rOp R 0) ∧ F.2.2.2.1 512 = (rOp R 1).map ad ∧ F.1 513 = nI (b2 (rBo R 0)) ∧ F.1 514 = nI (b2 (rBo R 1))
def cr6 (R : RS) (I : Nat → Nat → Int32) : Prop := ∀ k, k < (rN R).length → I k 4 = nI (b2 (rFl R 0 k)) ∧ I k 5 = nI (b2 (rFl R 1 k)) ∧ I k 6 = nI (b2 (rFl R 2 k)) ∧ I k 7 = nI (b2 (rFl R 3 k)) ∧ I k 9 = og (rCm R) (rOw R k)
def cr (σ : rb_St) (b : Nat) (F : fx_F) (R : RS) (ad : Nat → Nat) (I : Nat → Nat → Int32) : Prop := cr1 σ b F (rSf R) ∧ cr2 σ b F (rEn R) (rCm R) ∧ cr3 σ b F (rCm R) ∧ cr4 F (rPr R) ad ∧ cr5 F R ad ∧ cr6 R I ∧ vx σ b F 19 (rDf R)
abbrev zCi : List Nat := [501, 505, 507, 510, 511, 513, 514]
abbrev zCq : List Nat := [6, 7, 8, 10, 11, 12, 19]
theorem cr_hx {zi za zr zq : List Nat} {σ σ' : rb_St} {b : Nat} {F F' : fx_F} {R : RS} {ad : Nat → Nat} {I : Nat → Nat → Int32} (h : cr σ b F R ad I) (hh : hx σ σ') (hf : cf zi za zr zq F F') (h1 : ∀ z, z ∈ zCi → z ∉ zi) (h2 : 9 ∉ za) (h3 : 512 ∉ zr) (h4 : ∀ z, z ∈ zCq → z ∉ zq) : cr σ' b F' R ad I := by
  obtain ⟨c1, c2, c3, c4, c5, c6, c7⟩ := h
  refine ⟨⟨by rw [hf.1 501 (h1 501 (by decide))]; exact c1.1, prow_hx c1.2 hh (hf.2.2.2.2 6 (h4 6 (by decide)))⟩, ⟨by rw [hf.1 505 (h1 505 (by decide))]; exact c2.1, erow_hx c2.2.1 hh (hf.2.2.2.2 7 (h4 7 (by decide))) (hf.2.2.2.2 8 (h4 8 (by decide))), fun i hi => by rw [hf.2.1 9 h2]; exact c2.2.2 i hi⟩, ⟨by rw [hf.1 507 (h1 507 (by decide))]; exact c3.1, fun i hi => ?_⟩, ⟨by rw [hf.1 510 (h1 510 (by decide))]; exact c4.1, fun i hi => by rw [hf.2.2.2.2 11 (h4 11 (by decide)), hf.2.2.2.2 12 (h4 12 (by decide))]; exact c4.2 i hi⟩, ⟨by rw [hf.1 511 (h1 511 (by decide))]; exact c5.1, by rw [hf.2.2.2.1 512 h3]; exact c5.2.1, by rw [hf.1 513 (h1 513 (by decide))]; exact c5.2.2.1, by rw [hf.1 514 (h1 514 (by decide))]; exact c5.2.2.2⟩, c6, vx_hx c7 hh (hf.2.2.2.2 19 (h4 19 (by decide)))⟩
  obtain ⟨p, p1, p2⟩ := c3.2 i hi
  exact ⟨p, by rw [hf.2.2.2.2 10 (h4 10 (by decide))]; exact p1, cmx_hx p2 hh⟩
def kd (n : Nat) : Int32 := match n with | 0 => 0 | 1 => 1 | 2 => 4 | 3 => 3 | _ => 2
/-- what the reader keeps of the latest rule line -/
def rd (F : fx_F) (R : RS) (I : Nat → Nat → Int32) : Prop := F.1 2805 = kd (rNu R 1) ∧ (2 ≤ rNu R 1 → F.1 2807 = oi (fg (rCm R) (rNu R 0))) ∧ (rNu R 1 = 3 → F.1 2806 = oi (rOp R 2)) ∧ (rNu R 1 = 4 → ∀ k, k < (rN R).length → I k 8 = nI (b2 (rFl R 4 k)))
def gin (R : RS) : Prop := (∀ k g, rOw R k = some g → fg (rCm R) g ≠ none) ∧ (∀ g, rOp R 0 = some g → fg (rCm R) g ≠ none) ∧ (∀ i g, ((rEn R).getD i (([], []), none)).2 = some g → fg (rCm R) g ≠ none) ∧ (fg (rCm R) (rNu R 0) ≠ none → (rNu R 1 = 4 → ∀ k, rFl R 4 k = true → rOw R k = some (rNu R 0)) ∧ (rNu R 1 = 2 → rOp R 0 = some (rNu R 0)) ∧ (rNu R 1 = 3 → ∀ e, rOp R 2 = some e → ((rEn R).getD e (([], []), none)).2 = some (rNu R 0))) ∧ (rNu R 1 = 3 → ∃ e, rOp R 2 = some e ∧ e < (rEn R).length)
/-- the names go on, as to files and fates -/
def nxr (N : List (List Nat)) (ad : Nat → Nat) (I : Nat → Nat → Int32) (N' : List (List Nat)) (ad' : Nat → Nat) (I' : Nat → Nat → Int32) : Prop := N.length ≤ N'.length ∧ (∀ k, k < N.length → N'.getD k [] = N.getD k [] ∧ ad' k = ad k ∧ ∀ f, f ∈ [2, 3, 10, 11] → I' k f = I k f) ∧ ∀ k, N.length ≤ k → k < N'.length → ∀ f, f ∈ [2, 3, 10, 11] → I' k f = 0
theorem nxr_refl (N : List (List Nat)) (ad : Nat → Nat) (I : Nat → Nat → Int32) : nxr N ad I N ad I := ⟨Nat.le_refl _, fun _ _ => ⟨rfl, rfl, fun _ _ => rfl⟩, fun k h1 h2 => absurd h2 (by omega)⟩
theorem nxr_trans {N ad I N1 ad1 I1 N2 ad2 I2} (h1 : nxr N ad I N1 ad1 I1) (h2 : nxr N1 ad1 I1 N2 ad2 I2) : nxr N ad I N2 ad2 I2 := by
  refine ⟨Nat.le_trans h1.1 h2.1, fun k hk => ?_, fun k hk hk2 f hf => ?_⟩
  · obtain ⟨a1, a2, a3⟩ := h1.2.1 k hk
    obtain ⟨b1, b2, b3⟩ := h2.2.1 k (Nat.lt_of_lt_of_le hk h1.1)
    exact ⟨b1.trans a1, b2.trans a2, fun f hf => (b3 f hf).trans (a3 f hf)⟩
  · by_cases e : k < N1.length
    · rw [(h2.2.1 k e).2.2 f hf]
      exact h1.2.2 k hk e f hf
    · exact h2.2.2 k (by omega) hk2 f hf
theorem nxr_nxt {N ad I src N' ad' I' src'} (h : nxt N ad I src N' ad' I' src') : nxr N ad I N' ad' I' := by
  refine ⟨h.1, fun k hk => ?_, fun k hk hk2 f hf => ?_⟩
  · obtain ⟨a1, a2, a3, a4⟩ := h.2.1 k hk
    exact ⟨a1, a2, fun f _ => by rw [a3]⟩
  · rw [(h.2.2 k hk hk2).1]
    unfold nI0
    have : f = 2 ∨ f = 3 ∨ f = 10 ∨ f = 11 := by simpa using hf
    rcases this with e | e | e | e <;> subst e <;> rfl
theorem nxr_of {N : List (List Nat)} {ad : Nat → Nat} {I I' : Nat → Nat → Int32} (h : ∀ k, k < N.length → ∀ f, f ∈ [2, 3, 10, 11] → I' k f = I k f) : nxr N ad I N ad I' := ⟨Nat.le_refl _, fun k hk => ⟨rfl, rfl, h k hk⟩, fun k h1 h2 => absurd h2 (by omega)⟩
