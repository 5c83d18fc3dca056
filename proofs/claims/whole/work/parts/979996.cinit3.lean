/-! the class is made, whole -/
section
variable {σ : rb_St}
theorem inv_p (hb : rb_b σ ≤ rb_n σ) {C : Nat → Nat × List Value} {m s : Nat} {row : List Value} (h : inv (rb_n σ) C m row) (hm : 1 ≤ m) {k : Nat} (hk : k < row.length) (x : Nat) : rb_pR (mks σ C m s) (some (rb_n σ)) 1 k (some x) = some (mks σ (up1 C 0 (1, row.set k (.ref x))) m s) ∧ inv (rb_n σ) (up1 C 0 (1, row.set k (.ref x))) m (row.set k (.ref x)) := ⟨mks_pV hb C m s (j := 0) hm h.1 hk (.ref x), up1_eq _ _ _, fun i hi hi2 => by rw [up1_ne (by omega)]; exact h.2 i hi hi2⟩
theorem inv_g {C : Nat → Nat × List Value} {m s t : Nat} {row : List Value} (h : inv (rb_n σ) C m row) (hm : 1 ≤ m) {k : Nat} {r : Option Nat} (hk : rb_rfo row[k]? = some r) : rb_gR (rb_nO (mks σ C m s) t) (some (rb_n σ)) 1 k = some r := by
  rw [mks_nO]
  exact mks_gR (up1 C m (t, rb_df t)) (m + 1) (s + rb_nS t) (j := 0) (by omega) (by rw [up1_ne (by omega)]; exact h.1) hk
theorem inv_ext {B : Nat} {C C' : Nat → Nat × List Value} {m m' : Nat} {row : List Value} (h : inv B C m row) (hm : 1 ≤ m) (h1 : ∀ i, i < m → C' i = C i) (h2 : ∀ i, m ≤ i → i < m' → C' i = gcl B i) : inv B C' m' row := by
  refine ⟨by rw [h1 0 hm]; exact h.1, fun i hi hi2 => ?_⟩
  by_cases e : i < m
  · rw [h1 i e]
    exact h.2 i hi e
  · exact h2 i (by omega) hi2
abbrev LR : List (Nat × Nat × Nat) := [(111, 6, 0), (111, 8, 2), (111, 8, 3), (102, 8, 4), (113, 30, 6), (112, 80, 8), (112, 80, 9)]
theorem naf_rules (a : Nat) (τ : rb_St) : f_Rules_init a τ = naf a 4 (fun τ => (rb_pI τ (some a) 4 11 (-1 : Int32)).bind fun τ1 => some (none, τ1)) LR τ := (rfl)
theorem naf_store (a : Nat) (τ : rb_St) : f_Store_init a τ = naf a 3 (fun τ => some (none, τ)) [(112, 32, 0)] τ := (rfl)
theorem naf_words (a : Nat) (r : Option Nat) (τ : rb_St) : f_Words_init a r τ = naf a 6 (fun τ => (rb_pR τ (some a) 6 0 r).bind fun τ1 => some (none, τ1)) [(102, 61, 1), (102, 61, 2), (112, 61, 3)] τ := (rfl)
abbrev LE : List (Nat × Nat × Nat) := [(111, 26, 2), (111, 26, 3), (102, 156, 4)]
theorem exp_run (hb : rb_b σ ≤ rb_n σ) {C : Nat → Nat × List Value} {s : Nat} : ∃ C', f_Exp_init (rb_n (mks σ C 13 s)) (rb_nO (mks σ C 13 s) 5) = some (none, mks σ C' 21 (s + 460)) ∧ (∀ i, i < 13 → C' i = C i) ∧ ∀ i, 13 ≤ i → i < 21 → C' i = gcl (rb_n σ) i := by
  obtain ⟨C1, a1, a2, a3, a4, a5⟩ := tobj_run (σ := σ) hb (C := C) (m := 13) (s := s) 5 (n := 120) (by decide) (k := 0) (by decide)
  have a1' : f_Text_init (rb_n (rb_nO (mks σ C 13 s) 5)) (120 : Int32) (rb_nO (rb_nO (mks σ C 13 s) 5) 2) = some (none, mks σ C1 16 (s + 7 + 2 + 120)) := a1
  have p1 : rb_pR (mks σ C1 16 (s + 7 + 2 + 120)) (some (rb_n (mks σ C 13 s))) 5 0 (some (rb_n (rb_nO (mks σ C 13 s) 5))) = some (mks σ (up1 C1 13 (5, (rb_df 5).set 0 (.ref (rb_n σ + 14)))) 16 (s + 7 + 2 + 120)) := by
    have := mks_pV hb C1 16 (s + 7 + 2 + 120) (j := 13) (by decide) a3 (k := 0) (by decide) (.ref (rb_n σ + 14))
    rw [mks_nO]
    exact this
  obtain ⟨C2, b1, b2', b3, b4⟩ := text_run (σ := σ) hb (C := up1 C1 13 (5, (rb_df 5).set 0 (.ref (rb_n σ + 14)))) (m := 16) (s := s + 7 + 2 + 120) (n := 121) (by decide)
  have b1' : f_Text_init (rb_n (mks σ (up1 C1 13 (5, (rb_df 5).set 0 (.ref (rb_n σ + 14)))) 16 (s + 7 + 2 + 120))) (121 : Int32) (rb_nO (mks σ (up1 C1 13 (5, (rb_df 5).set 0 (.ref (rb_n σ + 14)))) 16 (s + 7 + 2 + 120)) 2) = some (none, mks σ C2 18 (s + 7 + 2 + 120 + 2 + 121)) := b1
  have c13 : C2 13 = (5, (rb_df 5).set 0 (.ref (rb_n σ + 14))) := by rw [b2' 13 (by decide), up1_eq]
  have p2 : rb_pR (mks σ C2 18 (s + 7 + 2 + 120 + 2 + 121)) (some (rb_n (mks σ C 13 s))) 5 1 (some (rb_n (mks σ (up1 C1 13 (5, (rb_df 5).set 0 (.ref (rb_n σ + 14)))) 16 (s + 7 + 2 + 120)))) = some (mks σ (up1 C2 13 (5, ((rb_df 5).set 0 (.ref (rb_n σ + 14))).set 1 (.ref (rb_n σ + 16)))) 18 (s + 7 + 2 + 120 + 2 + 121)) := mks_pV hb C2 18 (s + 7 + 2 + 120 + 2 + 121) (j := 13) (by decide) c13 (k := 1) (by show 1 < 7; decide) (.ref (rb_n σ + 16))
  obtain ⟨C3, d1, d2, d3, d4⟩ := naf_run (σ := σ) hb 5 13 (fun τ => some (none, τ)) LE (up1 C2 13 (5, ((rb_df 5).set 0 (.ref (rb_n σ + 14))).set 1 (.ref (rb_n σ + 16)))) 18 (s + 7 + 2 + 120 + 2 + 121) (((rb_df 5).set 0 (.ref (rb_n σ + 14))).set 1 (.ref (rb_n σ + 16))) (by decide) (up1_eq _ _ _) (fun x hx => by
    rw [List.length_set, List.length_set]
    revert x
    decide)
  refine ⟨C3, ?_, fun i hi => ?_, fun i hi hi2 => ?_⟩
  · have d1' : naf (rb_n (mks σ C 13 s)) 5 (fun τ => some (none, τ)) LE (mks σ (up1 C2 13 (5, ((rb_df 5).set 0 (.ref (rb_n σ + 14))).set 1 (.ref (rb_n σ + 16)))) 18 (s + 7 + 2 + 120 + 2 + 121)) = some (none, mks σ C3 21 (s + 460)) := by
      have hs : s + 7 + 2 + 120 + 2 + 121 + smn LE = s + 460 := by
        show s + 7 + 2 + 120 + 2 + 121 + 208 = s + 460
        omega
      rw [hs] at d1
      exact d1
    unfold f_Exp_init
    rw [cV_of a1', p1, Option.bind_some, cV_of b1', p2, Option.bind_some]
    exact d1'
  · rw [d2 i (by omega) (by omega), up1_ne (by omega), b2' i (by omega), up1_ne (by omega), a2 i hi]
  · have e14 : C3 14 = C1 14 := by rw [d2 14 (by decide) (by decide), up1_ne (by decide), b2' 14 (by decide), up1_ne (by decide)]
    have e15 : C3 15 = C1 15 := by rw [d2 15 (by decide) (by decide), up1_ne (by decide), b2' 15 (by decide), up1_ne (by decide)]
    have e16 : C3 16 = C2 16 := by rw [d2 16 (by decide) (by decide), up1_ne (by decide)]
    have e17 : C3 17 = C2 17 := by rw [d2 17 (by decide) (by decide), up1_ne (by decide)]
    have : i = 13 ∨ i = 14 ∨ i = 15 ∨ i = 16 ∨ i = 17 ∨ i = 18 ∨ i = 19 ∨ i = 20 := by omega
    rcases this with e | e | e | e | e | e | e | e <;> subst e
    · exact d3
    · exact e14.trans a4
    · exact (e15.trans a5).trans (gcl_char _ 15 120 rfl rfl).symm
    · exact e16.trans b3
    · exact (e17.trans b4).trans (gcl_char _ 17 121 rfl rfl).symm
    · exact (d4 0 (by decide)).trans (gcl_ref _ 18 26 111 rfl (by decide) rfl).symm
    · exact (d4 1 (by decide)).trans (gcl_ref _ 19 26 111 rfl (by decide) rfl).symm
    · exact (d4 2 (by decide)).trans (gcl_int _ 20 156 rfl rfl).symm
theorem RB_run (hb : rb_b σ ≤ rb_n σ) {C : Nat → Nat × List Value} {s : Nat} (hC : C 0 = (1, rb_df 1)) : ∃ C' s', f_RB_init (rb_n σ) (mks σ C 1 s) = some (none, mks σ C' 34 s') ∧ s' ≤ s + 5000 ∧ ∀ i, i < 34 → C' i = gcl (rb_n σ) i := by
  have I0 : inv (rb_n σ) C 1 (rb_df 1) := ⟨hC, fun i h1 h2 => by omega⟩
  -- the draft
  obtain ⟨C1, a1, a2, a3, a4⟩ := text_run (σ := σ) hb (C := C) (m := 1) (s := s) (n := 320) (by decide)
  have I1 : inv (rb_n σ) C1 3 (rb_df 1) := inv_ext I0 (by decide) a2 (fun i h1 h2 => by
    have : i = 1 ∨ i = 2 := by omega
    rcases this with e | e <;> subst e
    · exact a3
    · exact a4.trans (gcl_char _ 2 320 rfl rfl).symm)
  obtain ⟨p1, J1⟩ := inv_p hb (s := s + 2 + 320) I1 (by decide) (k := 0) (by decide) (rb_n σ + 1)
  generalize hC1 : up1 C1 0 (1, (rb_df 1).set 0 (.ref (rb_n σ + 1))) = D1 at p1 J1
  generalize hs1 : s + 2 + 320 = s1 at a1 p1
  -- the store
  obtain ⟨C2, b1, b2', b3, b4⟩ := obj_run (σ := σ) hb (C := D1) (m := 3) (s := s1) 3 [(112, 32, 0)] (fun τ => some (none, τ)) (by decide)
  have I2 : inv (rb_n σ) C2 5 ((rb_df 1).set 0 (.ref (rb_n σ + 1))) := inv_ext J1 (by decide) b2' (fun i h1 h2 => by
    have : i = 3 ∨ i = 4 := by omega
    rcases this with e | e <;> subst e
    · exact b3
    · exact (b4 0 (by decide)).trans (gcl_ref _ 4 32 112 rfl (by decide) rfl).symm)
  generalize hr1 : (rb_df 1).set 0 (.ref (rb_n σ + 1)) = row1 at J1 I2 hC1
  have hl1 : row1.length = 8 := by rw [← hr1]; rfl
  generalize hs2 : s1 + rb_nS 3 + smn [(112, 32, 0)] = s2 at b1
  have hs2' : s2 = s1 + 35 := by rw [← hs2]; rfl
  obtain ⟨p2, J2⟩ := inv_p hb (s := s2) I2 (by decide) (k := 1) (by omega) (rb_n σ + 3)
  generalize hC2 : up1 C2 0 (1, row1.set 1 (.ref (rb_n σ + 3))) = D2 at p2 J2
  -- the rules
  obtain ⟨C3, c1, c2, c3, c4⟩ := obj_run (σ := σ) hb (C := D2) (m := 5) (s := s2) 4 LR (fun τ => (rb_pI τ (some (rb_n σ + 5)) 4 11 (-1 : Int32)).bind fun τ1 => some (none, τ1)) (by decide)
  generalize hs3 : s2 + rb_nS 4 + smn LR = s3 at c1
  have hs3' : s3 = s2 + 235 := by rw [← hs3]; rfl
  have q3 : rb_pI (mks σ C3 13 s3) (some (rb_n σ + 5)) 4 11 (-1 : Int32) = some (mks σ (up1 C3 5 (4, (rws (rb_n σ) 6 LR (rb_df 4)).set 11 (.int (-1)))) 13 s3) := mks_pV hb C3 13 s3 (j := 5) (by decide) c3 (k := 11) (by show 11 < 15; decide) (.int (-1))
  have c1' : f_Rules_init (rb_n (mks σ D2 5 s2)) (rb_nO (mks σ D2 5 s2) 4) = some (none, mks σ (up1 C3 5 (4, (rws (rb_n σ) 6 LR (rb_df 4)).set 11 (.int (-1)))) 13 s3) := by
    rw [naf_rules]
    refine Eq.trans c1 ?_
    show (rb_pI (mks σ C3 13 s3) (some (rb_n σ + 5)) 4 11 (-1 : Int32)).bind _ = _
    rw [q3, Option.bind_some]
  have I3 : inv (rb_n σ) (up1 C3 5 (4, (rws (rb_n σ) 6 LR (rb_df 4)).set 11 (.int (-1)))) 13 (row1.set 1 (.ref (rb_n σ + 3))) := inv_ext J2 (by decide) (fun i hi => by rw [up1_ne (by omega)]; exact c2 i hi) (fun i h1 h2 => by
    have : i = 5 ∨ i = 6 ∨ i = 7 ∨ i = 8 ∨ i = 9 ∨ i = 10 ∨ i = 11 ∨ i = 12 := by omega
    rcases this with e | e | e | e | e | e | e | e <;> subst e
    · exact up1_eq _ _ _
    · rw [up1_ne (by decide)]; exact (c4 0 (by decide)).trans (gcl_ref _ 6 6 111 rfl (by decide) rfl).symm
    · rw [up1_ne (by decide)]; exact (c4 1 (by decide)).trans (gcl_ref _ 7 8 111 rfl (by decide) rfl).symm
    · rw [up1_ne (by decide)]; exact (c4 2 (by decide)).trans (gcl_ref _ 8 8 111 rfl (by decide) rfl).symm
    · rw [up1_ne (by decide)]; exact (c4 3 (by decide)).trans (gcl_int _ 9 8 rfl rfl).symm
    · rw [up1_ne (by decide)]; exact (c4 4 (by decide)).trans (gcl_ref _ 10 30 113 rfl (by decide) rfl).symm
    · rw [up1_ne (by decide)]; exact (c4 5 (by decide)).trans (gcl_ref _ 11 80 112 rfl (by decide) rfl).symm
    · rw [up1_ne (by decide)]; exact (c4 6 (by decide)).trans (gcl_ref _ 12 80 112 rfl (by decide) rfl).symm)
  generalize hE3 : up1 C3 5 (4, (rws (rb_n σ) 6 LR (rb_df 4)).set 11 (.int (-1))) = E3 at c1' I3
  generalize hr2 : row1.set 1 (.ref (rb_n σ + 3)) = row2 at J2 I3 hC2
  have hl2 : row2.length = 8 := by rw [← hr2, List.length_set]; exact hl1
  obtain ⟨p3, J3⟩ := inv_p hb (s := s3) I3 (by decide) (k := 2) (by omega) (rb_n σ + 5)
  generalize hr3 : row2.set 2 (.ref (rb_n σ + 5)) = row3 at p3 J3
  have hl3 : row3.length = 8 := by rw [← hr3, List.length_set]; exact hl2
  generalize hD3 : up1 E3 0 (1, row3) = D3 at p3 J3
  -- the expander
  obtain ⟨C4, d1, d2, d3⟩ := exp_run (σ := σ) hb (C := D3) (s := s3)
  have I4 : inv (rb_n σ) C4 21 row3 := inv_ext J3 (by decide) d2 d3
  generalize hs4 : s3 + 460 = s4 at d1
  obtain ⟨p4, J4⟩ := inv_p hb (s := s4) I4 (by decide) (k := 3) (by omega) (rb_n σ + 13)
  generalize hr4 : row3.set 3 (.ref (rb_n σ + 13)) = row4 at p4 J4
  have hl4 : row4.length = 8 := by rw [← hr4, List.length_set]; exact hl3
  generalize hD4 : up1 C4 0 (1, row4) = D4 at p4 J4
  have g40 : rb_gR (rb_nO (mks σ D4 21 s4) 6) (some (rb_n σ)) 1 3 = some (some (rb_n σ + 13)) := inv_g J4 (by decide) (by rw [← hr4, ← hr3, ← hr2, ← hr1]; rfl)
  have g41 : rb_gR (rb_nO (mks σ D4 21 s4) 6) (some (rb_n σ + 13)) 5 0 = some (some (rb_n σ + 14)) := by
    rw [mks_nO]
    exact mks_gR (up1 D4 21 (6, rb_df 6)) 22 (s4 + rb_nS 6) (j := 13) (by decide) (by rw [up1_ne (by decide)]; exact J4.2 13 (by decide) (by decide)) rfl
  -- the words
  obtain ⟨C5, w1, w2, w3, w4⟩ := obj_run (σ := σ) hb (C := D4) (m := 21) (s := s4) 6 [(102, 61, 1), (102, 61, 2), (112, 61, 3)] (fun τ => (rb_pR τ (some (rb_n σ + 21)) 6 0 (some (rb_n σ + 14))).bind fun τ1 => some (none, τ1)) (by decide)
  generalize hs5 : s4 + rb_nS 6 + smn [(102, 61, 1), (102, 61, 2), (112, 61, 3)] = s5 at w1
  have hs5' : s5 = s4 + 188 := by rw [← hs5]; rfl
  have q5 : rb_pR (mks σ C5 25 s5) (some (rb_n σ + 21)) 6 0 (some (rb_n σ + 14)) = some (mks σ (up1 C5 21 (6, (rws (rb_n σ) 22 [(102, 61, 1), (102, 61, 2), (112, 61, 3)] (rb_df 6)).set 0 (.ref (rb_n σ + 14)))) 25 s5) := mks_pV hb C5 25 s5 (j := 21) (by decide) w3 (k := 0) (by show 0 < 5; decide) (.ref (rb_n σ + 14))
  have w1' : f_Words_init (rb_n (mks σ D4 21 s4)) (some (rb_n σ + 14)) (rb_nO (mks σ D4 21 s4) 6) = some (none, mks σ (up1 C5 21 (6, (rws (rb_n σ) 22 [(102, 61, 1), (102, 61, 2), (112, 61, 3)] (rb_df 6)).set 0 (.ref (rb_n σ + 14)))) 25 s5) := by
    rw [naf_words]
    refine Eq.trans w1 ?_
    show (rb_pR (mks σ C5 25 s5) (some (rb_n σ + 21)) 6 0 (some (rb_n σ + 14))).bind _ = _
    rw [q5, Option.bind_some]
  have I5 : inv (rb_n σ) (up1 C5 21 (6, (rws (rb_n σ) 22 [(102, 61, 1), (102, 61, 2), (112, 61, 3)] (rb_df 6)).set 0 (.ref (rb_n σ + 14)))) 25 row4 := inv_ext J4 (by decide) (fun i hi => by rw [up1_ne (by omega)]; exact w2 i hi) (fun i h1 h2 => by
    have : i = 21 ∨ i = 22 ∨ i = 23 ∨ i = 24 := by omega
    rcases this with e | e | e | e <;> subst e
    · exact up1_eq _ _ _
    · rw [up1_ne (by decide)]; exact (w4 0 (by decide)).trans (gcl_int _ 22 61 rfl rfl).symm
    · rw [up1_ne (by decide)]; exact (w4 1 (by decide)).trans (gcl_int _ 23 61 rfl rfl).symm
    · rw [up1_ne (by decide)]; exact (w4 2 (by decide)).trans (gcl_ref _ 24 61 112 rfl (by decide) rfl).symm)
  generalize hE5 : up1 C5 21 (6, (rws (rb_n σ) 22 [(102, 61, 1), (102, 61, 2), (112, 61, 3)] (rb_df 6)).set 0 (.ref (rb_n σ + 14))) = E5 at w1' I5
  obtain ⟨p5, J5⟩ := inv_p hb (s := s5) I5 (by decide) (k := 4) (by omega) (rb_n σ + 21)
  generalize hr5 : row4.set 4 (.ref (rb_n σ + 21)) = row5 at p5 J5
  have hl5 : row5.length = 8 := by rw [← hr5, List.length_set]; exact hl4
  generalize hD5 : up1 E5 0 (1, row5) = D5 at p5 J5
  have g51 : rb_gR (rb_nO (mks σ D5 25 s5) 7) (some (rb_n σ)) 1 1 = some (some (rb_n σ + 3)) := inv_g J5 (by decide) (by rw [← hr5, ← hr4, ← hr3, ← hr2, ← hr1]; rfl)
  have g52 : rb_gR (rb_nO (mks σ D5 25 s5) 7) (some (rb_n σ)) 1 4 = some (some (rb_n σ + 21)) := inv_g J5 (by decide) (by rw [← hr5, ← hr4, ← hr3, ← hr2, ← hr1]; rfl)
  -- the shell
  obtain ⟨C6, e1, e2, e3, e4, e5⟩ := tobj_run (σ := σ) hb (C := D5) (m := 25) (s := s5) 7 (n := 400) (by decide) (k := 0) (by decide)
  generalize hs6 : s5 + rb_nS 7 + 2 + 400 = s6 at e1
  have hs6' : s6 = s5 + 405 := by rw [← hs6]; rfl
  have q6a := mks_pV hb C6 28 s6 (j := 25) (by decide) e3 (k := 0) (by decide) (.ref (rb_n σ + 26))
  have q6b := mks_pV hb (up1 C6 25 (7, (rb_df 7).set 0 (.ref (rb_n σ + 26)))) 28 s6 (j := 25) (by decide) (up1_eq _ _ _) (k := 1) (by show 1 < 3; decide) (.ref (rb_n σ + 3))
  have q6c := mks_pV hb (up1 C6 25 (7, ((rb_df 7).set 0 (.ref (rb_n σ + 26))).set 1 (.ref (rb_n σ + 3)))) 28 s6 (j := 25) (by decide) (up1_eq _ _ _) (k := 2) (by show 2 < 3; decide) (.ref (rb_n σ + 21))
  rw [up_up] at q6b q6c
  have e1' : f_Shell_init (rb_n (mks σ D5 25 s5)) (some (rb_n σ + 3)) (some (rb_n σ + 21)) (rb_nO (mks σ D5 25 s5) 7) = some (none, mks σ (up1 C6 25 (7, (((rb_df 7).set 0 (.ref (rb_n σ + 26))).set 1 (.ref (rb_n σ + 3))).set 2 (.ref (rb_n σ + 21)))) 28 s6) := by
    unfold f_Shell_init
    have e1a : f_Text_init (rb_n (rb_nO (mks σ D5 25 s5) 7)) (400 : Int32) (rb_nO (rb_nO (mks σ D5 25 s5) 7) 2) = some (none, mks σ C6 28 s6) := e1
    have q6a' : rb_pR (mks σ C6 28 s6) (some (rb_n (mks σ D5 25 s5))) 7 0 (some (rb_n (rb_nO (mks σ D5 25 s5) 7))) = some (mks σ (up1 C6 25 (7, (rb_df 7).set 0 (.ref (rb_n σ + 26)))) 28 s6) := by
      rw [mks_nO]
      exact q6a
    have q6b' : rb_pR (mks σ (up1 C6 25 (7, (rb_df 7).set 0 (.ref (rb_n σ + 26)))) 28 s6) (some (rb_n (mks σ D5 25 s5))) 7 1 (some (rb_n σ + 3)) = _ := q6b
    have q6c' : rb_pR (mks σ (up1 C6 25 (7, ((rb_df 7).set 0 (.ref (rb_n σ + 26))).set 1 (.ref (rb_n σ + 3)))) 28 s6) (some (rb_n (mks σ D5 25 s5))) 7 2 (some (rb_n σ + 21)) = _ := q6c
    rw [cV_of e1a, q6a', Option.bind_some, q6b', Option.bind_some, q6c', Option.bind_some]
  have I6 : inv (rb_n σ) (up1 C6 25 (7, (((rb_df 7).set 0 (.ref (rb_n σ + 26))).set 1 (.ref (rb_n σ + 3))).set 2 (.ref (rb_n σ + 21)))) 28 row5 := inv_ext J5 (by decide) (fun i hi => by rw [up1_ne (by omega)]; exact e2 i hi) (fun i h1 h2 => by
    have : i = 25 ∨ i = 26 ∨ i = 27 := by omega
    rcases this with e | e | e <;> subst e
    · exact up1_eq _ _ _
    · rw [up1_ne (by decide)]; exact e4
    · rw [up1_ne (by decide)]; exact e5.trans (gcl_char _ 27 400 rfl rfl).symm)
  generalize hE6 : up1 C6 25 (7, (((rb_df 7).set 0 (.ref (rb_n σ + 26))).set 1 (.ref (rb_n σ + 3))).set 2 (.ref (rb_n σ + 21))) = E6 at e1' I6
  obtain ⟨p6, J6⟩ := inv_p hb (s := s6) I6 (by decide) (k := 5) (by omega) (rb_n σ + 25)
  generalize hr6 : row5.set 5 (.ref (rb_n σ + 25)) = row6 at p6 J6
  have hl6 : row6.length = 8 := by rw [← hr6, List.length_set]; exact hl5
  generalize hD6 : up1 E6 0 (1, row6) = D6 at p6 J6
  have g61 : rb_gR (rb_nO (mks σ D6 28 s6) 8) (some (rb_n σ)) 1 1 = some (some (rb_n σ + 3)) := inv_g J6 (by decide) (by rw [← hr6, ← hr5, ← hr4, ← hr3, ← hr2, ← hr1]; rfl)
  have g62 : rb_gR (rb_nO (mks σ D6 28 s6) 8) (some (rb_n σ)) 1 2 = some (some (rb_n σ + 5)) := inv_g J6 (by decide) (by rw [← hr6, ← hr5, ← hr4, ← hr3, ← hr2, ← hr1]; rfl)
  have g63 : rb_gR (rb_nO (mks σ D6 28 s6) 8) (some (rb_n σ)) 1 3 = some (some (rb_n σ + 13)) := inv_g J6 (by decide) (by rw [← hr6, ← hr5, ← hr4, ← hr3, ← hr2, ← hr1]; rfl)
  have g64 : rb_gR (rb_nO (mks σ D6 28 s6) 8) (some (rb_n σ)) 1 4 = some (some (rb_n σ + 21)) := inv_g J6 (by decide) (by rw [← hr6, ← hr5, ← hr4, ← hr3, ← hr2, ← hr1]; rfl)
  -- the reader
  obtain ⟨C7, f1, f2, f3, f4, f5⟩ := tobj_run (σ := σ) hb (C := D6) (m := 28) (s := s6) 8 (n := 320) (by decide) (k := 0) (by decide)
  generalize hs7 : s6 + rb_nS 8 + 2 + 320 = s7 at f1
  have hs7' : s7 = s6 + 330 := by rw [← hs7]; rfl
  have q7 := pR_4 hb (C := C7) (m := 31) (s := s7) (j := 28) (T := 8) (by decide) f3 (by decide) (some (rb_n σ + 29)) (some (rb_n σ + 3)) (some (rb_n σ + 5)) (some (rb_n σ + 13)) (some (rb_n σ + 21))
  have f1' : f_Reader_init (rb_n (mks σ D6 28 s6)) (some (rb_n σ + 3)) (some (rb_n σ + 5)) (some (rb_n σ + 13)) (some (rb_n σ + 21)) (rb_nO (mks σ D6 28 s6) 8) = some (none, mks σ (up1 C7 28 (8, (((((rb_df 8).set 4 (va_rf (some (rb_n σ + 29)))).set 0 (va_rf (some (rb_n σ + 3)))).set 1 (va_rf (some (rb_n σ + 5)))).set 2 (va_rf (some (rb_n σ + 13)))).set 3 (va_rf (some (rb_n σ + 21))))) 31 s7) := by
    unfold f_Reader_init
    have f1a : f_Text_init (rb_n (rb_nO (mks σ D6 28 s6) 8)) (320 : Int32) (rb_nO (rb_nO (mks σ D6 28 s6) 8) 2) = some (none, mks σ C7 31 s7) := f1
    rw [cV_of f1a, mks_nO]
    exact q7
  have I7 : inv (rb_n σ) (up1 C7 28 (8, (((((rb_df 8).set 4 (va_rf (some (rb_n σ + 29)))).set 0 (va_rf (some (rb_n σ + 3)))).set 1 (va_rf (some (rb_n σ + 5)))).set 2 (va_rf (some (rb_n σ + 13)))).set 3 (va_rf (some (rb_n σ + 21))))) 31 row6 := inv_ext J6 (by decide) (fun i hi => by rw [up1_ne (by omega)]; exact f2 i hi) (fun i h1 h2 => by
    have : i = 28 ∨ i = 29 ∨ i = 30 := by omega
    rcases this with e | e | e <;> subst e
    · exact up1_eq _ _ _
    · rw [up1_ne (by decide)]; exact f4
    · rw [up1_ne (by decide)]; exact f5.trans (gcl_char _ 30 320 rfl rfl).symm)
  generalize hE7 : up1 C7 28 (8, (((((rb_df 8).set 4 (va_rf (some (rb_n σ + 29)))).set 0 (va_rf (some (rb_n σ + 3)))).set 1 (va_rf (some (rb_n σ + 5)))).set 2 (va_rf (some (rb_n σ + 13)))).set 3 (va_rf (some (rb_n σ + 21)))) = E7 at f1' I7
  obtain ⟨p7, J7⟩ := inv_p hb (s := s7) I7 (by decide) (k := 6) (by omega) (rb_n σ + 28)
  generalize hr7 : row6.set 6 (.ref (rb_n σ + 28)) = row7 at p7 J7
  have hl7 : row7.length = 8 := by rw [← hr7, List.length_set]; exact hl6
  generalize hD7 : up1 E7 0 (1, row7) = D7 at p7 J7
  have g71 : rb_gR (rb_nO (mks σ D7 31 s7) 9) (some (rb_n σ)) 1 1 = some (some (rb_n σ + 3)) := inv_g J7 (by decide) (by rw [← hr7, ← hr6, ← hr5, ← hr4, ← hr3, ← hr2, ← hr1]; rfl)
  have g72 : rb_gR (rb_nO (mks σ D7 31 s7) 9) (some (rb_n σ)) 1 2 = some (some (rb_n σ + 5)) := inv_g J7 (by decide) (by rw [← hr7, ← hr6, ← hr5, ← hr4, ← hr3, ← hr2, ← hr1]; rfl)
  have g73 : rb_gR (rb_nO (mks σ D7 31 s7) 9) (some (rb_n σ)) 1 3 = some (some (rb_n σ + 13)) := inv_g J7 (by decide) (by rw [← hr7, ← hr6, ← hr5, ← hr4, ← hr3, ← hr2, ← hr1]; rfl)
  have g75 : rb_gR (rb_nO (mks σ D7 31 s7) 9) (some (rb_n σ)) 1 5 = some (some (rb_n σ + 25)) := inv_g J7 (by decide) (by rw [← hr7, ← hr6, ← hr5, ← hr4, ← hr3, ← hr2, ← hr1]; rfl)
  -- the builder
  obtain ⟨C8, h1, h2, h3, h4, h5⟩ := tobj_run (σ := σ) hb (C := D7) (m := 31) (s := s7) 9 (n := 16) (by decide) (k := 0) (by decide)
  generalize hs8 : s7 + rb_nS 9 + 2 + 16 = s8 at h1
  have hs8' : s8 = s7 + 26 := by rw [← hs8]; rfl
  have q8 := pR_4 hb (C := C8) (m := 34) (s := s8) (j := 31) (T := 9) (by decide) h3 (by decide) (some (rb_n σ + 32)) (some (rb_n σ + 3)) (some (rb_n σ + 5)) (some (rb_n σ + 13)) (some (rb_n σ + 25))
  have h1' : f_Bld_init (rb_n (mks σ D7 31 s7)) (some (rb_n σ + 3)) (some (rb_n σ + 5)) (some (rb_n σ + 13)) (some (rb_n σ + 25)) (rb_nO (mks σ D7 31 s7) 9) = some (none, mks σ (up1 C8 31 (9, (((((rb_df 9).set 4 (va_rf (some (rb_n σ + 32)))).set 0 (va_rf (some (rb_n σ + 3)))).set 1 (va_rf (some (rb_n σ + 5)))).set 2 (va_rf (some (rb_n σ + 13)))).set 3 (va_rf (some (rb_n σ + 25))))) 34 s8) := by
    unfold f_Bld_init
    have h1a : f_Text_init (rb_n (rb_nO (mks σ D7 31 s7) 9)) (16 : Int32) (rb_nO (rb_nO (mks σ D7 31 s7) 9) 2) = some (none, mks σ C8 34 s8) := h1
    rw [cV_of h1a, mks_nO]
    exact q8
  have I8 : inv (rb_n σ) (up1 C8 31 (9, (((((rb_df 9).set 4 (va_rf (some (rb_n σ + 32)))).set 0 (va_rf (some (rb_n σ + 3)))).set 1 (va_rf (some (rb_n σ + 5)))).set 2 (va_rf (some (rb_n σ + 13)))).set 3 (va_rf (some (rb_n σ + 25))))) 34 row7 := inv_ext J7 (by decide) (fun i hi => by rw [up1_ne (by omega)]; exact h2 i hi) (fun i i1 i2 => by
    have : i = 31 ∨ i = 32 ∨ i = 33 := by omega
    rcases this with e | e | e <;> subst e
    · exact up1_eq _ _ _
    · rw [up1_ne (by decide)]; exact h4
    · rw [up1_ne (by decide)]; exact h5.trans (gcl_char _ 33 16 rfl rfl).symm)
  generalize hE8 : up1 C8 31 (9, (((((rb_df 9).set 4 (va_rf (some (rb_n σ + 32)))).set 0 (va_rf (some (rb_n σ + 3)))).set 1 (va_rf (some (rb_n σ + 5)))).set 2 (va_rf (some (rb_n σ + 13)))).set 3 (va_rf (some (rb_n σ + 25)))) = E8 at h1' I8
  obtain ⟨p8, J8⟩ := inv_p hb (s := s8) I8 (by decide) (k := 7) (by omega) (rb_n σ + 31)
  refine ⟨up1 E8 0 (1, row7.set 7 (.ref (rb_n σ + 31))), s8, ?_, by omega, fun i hi => ?_⟩
  · have a1' : f_Text_init (rb_n (mks σ C 1 s)) (320 : Int32) (rb_nO (mks σ C 1 s) 2) = some (none, mks σ C1 3 s1) := a1
    have p1' : rb_pR (mks σ C1 3 s1) (some (rb_n σ)) 1 0 (some (rb_n (mks σ C 1 s))) = some (mks σ D1 3 s1) := p1
    have b1' : f_Store_init (rb_n (mks σ D1 3 s1)) (rb_nO (mks σ D1 3 s1) 3) = some (none, mks σ C2 5 s2) := b1
    have p2' : rb_pR (mks σ C2 5 s2) (some (rb_n σ)) 1 1 (some (rb_n (mks σ D1 3 s1))) = some (mks σ D2 5 s2) := p2
    have p3' : rb_pR (mks σ E3 13 s3) (some (rb_n σ)) 1 2 (some (rb_n (mks σ D2 5 s2))) = some (mks σ D3 13 s3) := p3
    have p4' : rb_pR (mks σ C4 21 s4) (some (rb_n σ)) 1 3 (some (rb_n (mks σ D3 13 s3))) = some (mks σ D4 21 s4) := p4
    have p5' : rb_pR (mks σ E5 25 s5) (some (rb_n σ)) 1 4 (some (rb_n (mks σ D4 21 s4))) = some (mks σ D5 25 s5) := p5
    have p6' : rb_pR (mks σ E6 28 s6) (some (rb_n σ)) 1 5 (some (rb_n (mks σ D5 25 s5))) = some (mks σ D6 28 s6) := p6
    have p7' : rb_pR (mks σ E7 31 s7) (some (rb_n σ)) 1 6 (some (rb_n (mks σ D6 28 s6))) = some (mks σ D7 31 s7) := p7
    have p8' : rb_pR (mks σ E8 34 s8) (some (rb_n σ)) 1 7 (some (rb_n (mks σ D7 31 s7))) = _ := p8
    unfold f_RB_init
    rw [cV_of a1', p1', Option.bind_some, cV_of b1', p2', Option.bind_some, cV_of c1', p3', Option.bind_some, cV_of d1, p4', Option.bind_some, g40, Option.bind_some, g41, Option.bind_some, cV_of w1', p5', Option.bind_some, g51, Option.bind_some, g52, Option.bind_some, cV_of e1', p6', Option.bind_some, g61, Option.bind_some, g62, Option.bind_some, g63, Option.bind_some, g64, Option.bind_some, cV_of f1', p7', Option.bind_some, g71, Option.bind_some, g72, Option.bind_some, g73, Option.bind_some, g75, Option.bind_some, cV_of h1', p8', Option.bind_some]
  · by_cases e0 : i = 0
    · subst e0
      rw [up1_eq, ← hr7, ← hr6, ← hr5, ← hr4, ← hr3, ← hr2, ← hr1]
      rfl
    · exact J8.2 i (by omega) hi
end
