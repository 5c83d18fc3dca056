/-! the class: what stands in brackets -/
theorem fi_is {P : Nat → Bool} {n k j : Nat} (h1 : k ≤ j) (h2 : j ≤ n) (h3 : ∀ i, k ≤ i → i < j → P i = false) (h4 : j < n → P j = true) : fi P n k = j := by
  have a := fi_le (P := P) (n := n) (k := k) (by omega)
  by_cases c1 : j < fi P n k
  · have := fi_no (P := P) (n := n) (k := k) h1 c1 (by omega)
    rw [h4 (by omega)] at this
    cases this
  · by_cases c2 : fi P n k < j
    · have e1 := fi_P (P := P) (n := n) (k := k) (by omega)
      rw [h3 _ a.1 c2] at e1
      cases e1
    · omega
theorem slc_dropd (s : List Nat) (p i j : Nat) : slc (s.drop p) i j = slc s (p + i) (p + j) := by
  unfold slc
  rw [List.drop_drop, show p + j - (p + i) = j - i by omega]
abbrev clo (s : List Nat) (k : Nat) : Nat := fi (fun k => decide (s.getD k 0 = 41)) s.length k
abbrev eqs (s : List Nat) (k : Nat) : Nat := fi (fun k => decide (s.getD k 0 = 61)) s.length k
theorem brk_drop (s : List Nat) (p : Nat) (hp : p ≤ s.length) : brk (s.drop p) = if clo s (p + 1) = s.length ∨ cap (s.getD p 0) = false then none else if clo s (p + 1) = p + 1 then some (.inr (s.getD p 0 - 65, none), s.drop (clo s (p + 1) + 1)) else if s.getD (p + 1) 0 = 58 ∧ eqs s (p + 1) ≤ clo s (p + 1) then some (.inr (s.getD p 0 - 65, some (slc s (p + 2) (eqs s (p + 1)), slc s (eqs s (p + 1) + 1) (clo s (p + 1)))), s.drop (clo s (p + 1) + 1)) else none := by
  unfold brk
  simp only [drop_getD, List.length_drop, Nat.add_zero]
  by_cases h1 : s.length - p ≤ 1
  · rw [if_pos (Or.inl h1), if_pos (Or.inl (fi_end (by omega)))]
  · by_cases h2 : cap (s.getD p 0) = false
    · rw [if_pos (Or.inr h2), if_pos (Or.inr h2)]
    · rw [if_neg (show ¬ (s.length - p ≤ 1 ∨ cap (s.getD p 0) = false) by rintro (h | h); exact h1 h; exact h2 h)]
      by_cases h3 : s.getD (p + 1) 0 = 41
      · have hC : clo s (p + 1) = p + 1 := fi_is (Nat.le_refl _) (by omega) (fun i hi1 hi2 => by omega) (fun _ => decide_eq_true h3)
        rw [if_pos h3, hC, if_neg (show ¬ (p + 1 = s.length ∨ cap (s.getD p 0) = false) by rintro (h | h); omega; exact h2 h), if_pos rfl, List.drop_drop]
      · have hCgt : p + 1 < clo s (p + 1) := fi_gt (by omega) (decide_eq_false h3)
        have hCle : clo s (p + 1) ≤ s.length := (fi_le (P := fun k => decide (s.getD k 0 = 41)) (n := s.length) (k := p + 1) (by omega)).2
        have hno : ∀ j, p + 1 ≤ j → j < clo s (p + 1) → ¬ s.getD j 0 = 41 := fun j j1 j2 => of_decide_eq_false (fi_no (P := fun k => decide (s.getD k 0 = 41)) j1 j2 (Nat.lt_of_lt_of_le j2 hCle))
        rw [if_neg h3]
        by_cases h4 : s.getD (p + 1) 0 = 58
        · have hEge := (fi_le (P := fun k => decide (s.getD k 0 = 61)) (n := s.length) (k := p + 1) (by omega))
          have hEgt : p + 1 < eqs s (p + 1) := fi_gt (by omega) (decide_eq_false (by rw [h4]; decide))
          have hEno : ∀ j, p + 1 ≤ j → j < eqs s (p + 1) → ¬ s.getD j 0 = 61 := fun j j1 j2 => of_decide_eq_false (fi_no (P := fun k => decide (s.getD k 0 = 61)) j1 j2 (Nat.lt_of_lt_of_le j2 hEge.2))
          have sh1 := fi_shift (fun k => decide (s.getD k 0 = 61 ∨ s.getD k 0 = 41)) (q := p) (e := s.length) (k := 2) hp
          generalize he' : fi (fun k => decide (s.getD (p + k) 0 = 61 ∨ s.getD (p + k) 0 = 41)) (s.length - p) 2 = e' at sh1 ⊢
          have sh2 := fi_shift (fun k => decide (s.getD k 0 = 41)) (q := p) (e := s.length) (k := e') hp
          generalize hc' : fi (fun k => decide (s.getD (p + k) 0 = 41)) (s.length - p) e' = c' at sh2 ⊢
          by_cases h5 : clo s (p + 1) = s.length
          · have hel := fi_le (P := fun k => decide (s.getD k 0 = 61 ∨ s.getD k 0 = 41)) (n := s.length) (k := p + 2) (by omega)
            have hcc : p + c' = s.length := by
              rw [← sh2]
              exact fi_is (by omega) (Nat.le_refl _) (fun i i1 i2 => decide_eq_false (hno i (by omega) (by omega))) (fun h => by omega)
            rw [if_neg (by omega), if_pos (Or.inl h5)]
          · have hClt : clo s (p + 1) < s.length := by omega
            have hC41 : s.getD (clo s (p + 1)) 0 = 41 := of_decide_eq_true (fi_P (P := fun k => decide (s.getD k 0 = 41)) (n := s.length) (k := p + 1) hClt)
            rw [if_neg (show ¬ (clo s (p + 1) = s.length ∨ cap (s.getD p 0) = false) by rintro (h | h); exact h5 h; exact h2 h), if_neg (show ¬ clo s (p + 1) = p + 1 by omega)]
            by_cases h6 : eqs s (p + 1) ≤ clo s (p + 1)
            · have hElt : eqs s (p + 1) < s.length := by omega
              have hE61 : s.getD (eqs s (p + 1)) 0 = 61 := of_decide_eq_true (fi_P (P := fun k => decide (s.getD k 0 = 61)) (n := s.length) (k := p + 1) hElt)
              have hne : eqs s (p + 1) ≠ clo s (p + 1) := fun h => by
                rw [h, hC41] at hE61
                cases hE61
              have hee : p + e' = eqs s (p + 1) := by
                rw [← sh1]
                exact fi_is (by omega) (by omega) (fun i i1 i2 => decide_eq_false (by rintro (h | h); exact hEno i (by omega) i2 h; exact hno i (by omega) (by omega) h)) (fun _ => decide_eq_true (Or.inl hE61))
              have hcc : p + c' = clo s (p + 1) := by
                rw [← sh2, hee]
                exact fi_is h6 hCle (fun i i1 i2 => decide_eq_false (hno i (by omega) i2)) (fun _ => decide_eq_true hC41)
              rw [if_pos (show _ ∧ _ ∧ _ from ⟨h4, by omega, by omega⟩), if_pos (show _ ∧ _ from ⟨h4, h6⟩), slc_dropd, slc_dropd, List.drop_drop, ← Nat.add_assoc, ← Nat.add_assoc, hee, hcc]
            · have hee : p + e' = clo s (p + 1) := by
                rw [← sh1]
                exact fi_is (by omega) (by omega) (fun i i1 i2 => decide_eq_false (by rintro (h | h); exact hEno i (by omega) (by omega) h; exact hno i (by omega) i2 h)) (fun _ => decide_eq_true (Or.inr hC41))
              have hcc : p + c' = clo s (p + 1) := by
                rw [← sh2, hee]
                exact fi_is (Nat.le_refl _) hCle (fun i i1 i2 => by omega) (fun _ => decide_eq_true hC41)
              rw [if_neg (by omega), if_neg (by omega)]
        · rw [if_neg (fun h => h4 h.1), if_neg (show ¬ clo s (p + 1) = p + 1 by omega), if_neg (show ¬ (s.getD (p + 1) 0 = 58 ∧ eqs s (p + 1) ≤ clo s (p + 1)) from fun h => h4 h.1)]
          split <;> rfl
/-- what the first thing of a text comes to -/
def evI (A : Nat → Option (List Nat)) (V : Nat → List Nat) (n : Nat) (y : List Nat ⊕ (Nat × Option (List Nat × List Nat))) : Option (List Nat × Nat) := match y with | .inl l => some (l, l.length) | .inr q => (xm A V n q.1).map (fun e => rpx e q.2)
def rfe (A : Nat → Option (List Nat)) (V : Nat → List Nat) (n : Nat) (x : Option xI) : Option (List Nat × Nat) := match x with | none => none | some z => evI A V n z.1
def rfv (s o : List Nat) (A : Nat → Option (List Nat)) (V : Nat → List Nat) (n : Nat) (x : Option xI) : Int32 := match x with | none => -1 | some z => if xgood o (evI A V n z.1) = true then nI (s.length - z.2.length - 1) else -1
def yres (F F' : fx_F) (A : Nat → Option (List Nat)) (V : Nat → List Nat) (o : List Nat) (L : Nat) (e : Option (List Nat × Nat)) : Prop := fr zX zY [] F F' ∧ fx_ln F' ∧ (∀ e1, e = some e1 → o.length + e1.2 ≤ 120 → ∃ L', tw F' 14 (o ++ e1.1) ∧ F'.1 1305 = nI L' ∧ max L' (o.length + e1.1.length) = max L (o.length + e1.2) ∧ L' ≤ 1000 ∧ mem F' A V ∧ tk (o ++ e1.1)) ∧ lg F'
theorem xst_yres {F F' : fx_F} {A : Nat → Option (List Nat)} {V : Nat → List Nat} {o : List Nat} {L : Nat} {e : Option (List Nat × Nat)} (hge : ∀ e1, e = some e1 → e1.1.length ≤ e1.2) (h : xres F F' A V o L e) : yres F F' A V o L e := by
  refine ⟨h.1, h.2.1, fun e1 he hle => ?_, h.2.2.2⟩
  obtain ⟨x1, x2, x3, x4, x5, x6, x7⟩ := h.2.2.1 e1 he hle
  have := hge e1 he
  exact ⟨_, x2, x3, by omega, x5, x6, x7⟩
theorem mem_fr {F F' : fx_F} {A : Nat → Option (List Nat)} {V : Nat → List Nat} (h : mem F A V) (hf : F'.2.1 20 = F.2.1 20) : mem F' A V := by
  unfold mem at h ⊢
  rw [hf]
  exact h
/-- how texts within are expanded -/
def rTok (σ : rb_St) (b : Nat) (A gv df : Nat → Option (List Nat)) (P : fx_F → Prop) (lv : Nat) (rT : Option Nat → Option Nat → Int32 → rb_St → Option rb_Rs) : Prop := lv < 6 → ∀ (F : fx_F) (o : List Nat) (L a : Nat) (s : List Nat), P F → vx σ b F 18 gv → vx σ b F 19 df → xst F A (vl gv df) o L → sx σ b a s → tk s → s.length ≤ 320 → ∃ F', rT (some (fx_ad b 13)) (some a) (nI (lv + 1)) (fx_mk σ b F) = some (some (.int (nI (b2 (xgood o (xe A (vl gv df) (6 - lv - 1) s))))), fx_mk σ b F') ∧ xres F F' A (vl gv df) o L (xe A (vl gv df) (6 - lv - 1) s)
