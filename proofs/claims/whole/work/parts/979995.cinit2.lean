/-! the class is made -/
section
variable {σ : rb_St}
/-- an object that holds a text, and what it is given -/
theorem tobj_run (hb : rb_b σ ≤ rb_n σ) {C : Nat → Nat × List Value} {m s : Nat} (t : Nat) {n : Nat} (hn : n ≤ 100000) {k : Nat} (hk : k < (rb_df t).length) : ∃ C', f_Text_init (rb_n (rb_nO (mks σ C m s) t)) (nI n) (rb_nO (rb_nO (mks σ C m s) t) 2) = some (none, mks σ C' (m + 3) (s + rb_nS t + 2 + n)) ∧ (∀ i, i < m → C' i = C i) ∧ C' m = (t, rb_df t) ∧ C' (m + 1) = (2, [.ref (rb_n σ + (m + 2)), .int 0]) ∧ C' (m + 2) = (101, List.replicate n (.int 0)) := by
  rw [mks_nO]
  obtain ⟨C', a1, a2, a3, a4⟩ := text_run (σ := σ) hb (C := up1 C m (t, rb_df t)) (m := m + 1) (s := s + rb_nS t) hn
  exact ⟨C', a1, fun i hi => by rw [a2 i (by omega), up1_ne (by omega)], by rw [a2 m (by omega), up1_eq], a3, a4⟩
theorem up_up (C : Nat → Nat × List Value) (j : Nat) (x y : Nat × List Value) : up1 (up1 C j x) j y = up1 C j y := by
  funext i
  unfold up1
  split <;> rfl
/-- four writes to one object -/
theorem pR_4 (hb : rb_b σ ≤ rb_n σ) {C : Nat → Nat × List Value} {m s j T : Nat} (hj : j < m) {row : List Value} (hC : C j = (T, row)) (hl : 5 ≤ row.length) (r4 r0 r1 r2 r3 : Option Nat) : ((rb_pR (mks σ C m s) (some (rb_n σ + j)) T 4 r4).bind fun σ_2 => (rb_pR σ_2 (some (rb_n σ + j)) T 0 r0).bind fun σ_3 => (rb_pR σ_3 (some (rb_n σ + j)) T 1 r1).bind fun σ_4 => (rb_pR σ_4 (some (rb_n σ + j)) T 2 r2).bind fun σ_5 => (rb_pR σ_5 (some (rb_n σ + j)) T 3 r3).bind fun σ_6 => some ((none : Option Value), σ_6)) = some (none, mks σ (up1 C j (T, ((((row.set 4 (va_rf r4)).set 0 (va_rf r0)).set 1 (va_rf r1)).set 2 (va_rf r2)).set 3 (va_rf r3))) m s) := by
  have p1 := mks_pV hb C m s hj hC (k := 4) (by omega) (va_rf r4)
  have p2 := mks_pV hb (up1 C j (T, row.set 4 (va_rf r4))) m s hj (up1_eq _ _ _) (k := 0) (by rw [List.length_set]; omega) (va_rf r0)
  have p3 := mks_pV hb (up1 C j (T, (row.set 4 (va_rf r4)).set 0 (va_rf r0))) m s hj (up1_eq _ _ _) (k := 1) (by rw [List.length_set, List.length_set]; omega) (va_rf r1)
  have p4 := mks_pV hb (up1 C j (T, ((row.set 4 (va_rf r4)).set 0 (va_rf r0)).set 1 (va_rf r1))) m s hj (up1_eq _ _ _) (k := 2) (by rw [List.length_set, List.length_set, List.length_set]; omega) (va_rf r2)
  have p5 := mks_pV hb (up1 C j (T, (((row.set 4 (va_rf r4)).set 0 (va_rf r0)).set 1 (va_rf r1)).set 2 (va_rf r2))) m s hj (up1_eq _ _ _) (k := 3) (by rw [List.length_set, List.length_set, List.length_set, List.length_set]; omega) (va_rf r3)
  rw [up_up] at p2 p3 p4 p5
  unfold rb_pR
  rw [p1, Option.bind_some, p2, Option.bind_some, p3, Option.bind_some, p4, Option.bind_some, p5, Option.bind_some]
theorem text_cell (B o n : Nat) (h : gcl B o = (2, [.ref (B + (o + 1)), .int 0])) (h2 : gcl B (o + 1) = (101, List.replicate n (.int 0))) {C : Nat → Nat × List Value} (c1 : C o = (2, [.ref (B + (o + 1)), .int 0])) (c2 : C (o + 1) = (101, List.replicate n (.int 0))) : C o = gcl B o ∧ C (o + 1) = gcl B (o + 1) := ⟨c1.trans h.symm, c2.trans h2.symm⟩
theorem gcl_char (B o n : Nat) (ht : fx_t o = 101) (hc : fx_cI o = n) : gcl B o = (101, List.replicate n (.int 0)) := by
  unfold gcl fx_row
  rw [ht, if_neg (by decide), if_neg (by decide), if_neg (by decide)]
  show (101, (List.replicate (fx_cI o) (0 : Int32)).map Value.int) = _
  rw [List.map_replicate, hc]
theorem gcl_int (B o n : Nat) (ht : fx_t o = 102) (hc : fx_cI o = n) : gcl B o = (102, List.replicate n (.int 0)) := by
  unfold gcl fx_row
  rw [ht, if_neg (by decide), if_neg (by decide), if_neg (by decide)]
  show (102, (List.replicate (fx_cI o) (0 : Int32)).map Value.int) = _
  rw [List.map_replicate, hc]
theorem gcl_boo (B o n : Nat) (ht : fx_t o = 104) (hc : fx_cI o = n) : gcl B o = (104, List.replicate n (.int 0)) := by
  unfold gcl fx_row
  rw [ht, if_neg (by decide), if_neg (by decide), if_neg (by decide)]
  show (104, (List.replicate (fx_cI o) (0 : Int32)).map Value.int) = _
  rw [List.map_replicate, hc]
theorem gcl_lng (B o n : Nat) (ht : fx_t o = 103) (hc : fx_cL o = n) : gcl B o = (103, List.replicate n (.long 0)) := by
  unfold gcl fx_row
  rw [ht, if_neg (by decide), if_pos rfl]
  show (103, (List.replicate (fx_cL o) (0 : Int64)).map Value.long) = _
  rw [List.map_replicate, hc]
theorem gcl_ref (B o n t : Nat) (ht : fx_t o = t) (h1 : 110 < t) (hc : fx_cR o = n) : gcl B o = (t, List.replicate n .null) := by
  unfold gcl fx_row
  rw [ht, if_neg (by omega), if_neg (by omega), if_pos h1]
  show (t, (List.replicate (fx_cR o) (none : Option Nat)).map va_rf) = _
  rw [List.map_replicate, hc]
  rfl
end
