/-! the class: the automatic macros -/
section
variable {σ : rb_St} {b : Nat} {F : fx_F} {N : List (List Nat)} {ad : Nat → Nat} {I : Nat → Nat → Int32} {src : Nat → Option Nat}
theorem c_auto (hb : rb_b σ ≤ b) (h : nx σ b F N ad I src) (hN : nok N) {t : Nat} (ht : t < N.length) {ch : CH} {ds : List Nat} {nw : List Bool} (hsrc : src t = ch.2.1.map (fun x => ad x.1)) (hch : ∀ x, ch.2.1 = some x → x.1 < N.length ∧ ∃ k, k ≤ (N.getD t []).length ∧ x.2 = (N.getD t []).take k ∧ I t 15 = nI k) (hbd : I t 13 = nI (b2 ch.2.2)) (h16 : tw F 16 ((x_join (x_newer N ds nw)).take 121)) (h16c : ∀ c, c ∈ x_join (x_newer N ds nw) → c < 128) (hR : F.2.2.2.1 1306 = some (ad t)) (V : Nat → List Nat) : AU σ b (x_auto N ch ds nw t) V F := by
  have ho : tO 14 := Or.inr (Or.inl rfl)
  have ho16 : tO 16 := Or.inr (Or.inr (Or.inl rfl))
  refine ⟨rfl, Or.inr ⟨by rw [hR]; exact Option.some_ne_none _, fun F1 o L d hf hX hd => ?_⟩⟩
  have h1 : nx σ b F1 N ad I src := nx_fr h ⟨hf.1 301 (by decide), by rw [hf.2.2.2]⟩
  have hR1 : F1.2.2.2.1 1306 = some (ad t) := by rw [hf.2.2.2]; exact hR
  have h161 : tw F1 16 ((x_join (x_newer N ds nw)).take 121) := tw_fr h16 hf (by decide) (by decide)
  have hol := tw_len hX.1 hX.2.1
  rw [show tcap 14 = 120 from rfl] at hol
  obtain ⟨s, hs1, hs2⟩ := n_sp h1 ht
  have hsl := (nok_pq hN ht).1
  have hfc14 : ∀ (G : fx_F) {β : Type} (f : List Value → Option β), (rb_fc (fx_mk σ b G) (some (fx_ad b 14)) 2).bind f = f (fx_row b G 14) := fun G => (t_b ho).1
  have hfc16 : ∀ (G : fx_F) {β : Type} (f : List Value → Option β), (rb_fc (fx_mk σ b G) (some (fx_ad b 16)) 2).bind f = f (fx_row b G 16) := fun G => (t_b ho16).1
  have hmk : ∀ (s : Nat) (l : List Nat), sx σ b s l → l.length ≤ 8 → ∃ F', f_Text_addPart (some (fx_ad b 14)) (some s) (0 : Int32) (8 : Int32) (fx_mk σ b F1) = some (some (.int (nI (b2 (xgood o (some (l, l.length)))))), fx_mk σ b F') ∧ fx_ln F' ∧ fr [1401] [15] [] F1 F' ∧ (o.length + l.length ≤ 120 → tw F' 14 (o ++ l)) := by
    intro s l hs hl
    obtain ⟨F', e1, e2, e3, e4⟩ := c_addPart8F (σ := σ) ho hb hs (q := 8) hl (by decide) hX.1 hX.2.1
    rw [show tcap 14 = 120 from rfl] at e1 e2
    refine ⟨F', e1, e3, e4, fun hle => ?_⟩
    rw [List.take_of_length_le (by rw [List.length_append]; omega)] at e2
    exact e2
  have hj22 : ∀ A : Option (List Nat), A = some (N.getD t []) → ∃ F', f_Exp_addAutomatic_j22 (some (fx_ad b 13)) (fx_mk σ b F1) = some (some (.int (nI (b2 (xgood o (A.map (fun l => (l, l.length))))))), fx_mk σ b F') ∧ fx_ln F' ∧ fr [1401] [15] [] F1 F' ∧ ∀ l, A = some l → o.length + l.length ≤ 120 → tw F' 14 (o ++ l) := by
    intro A hA
    subst hA
    obtain ⟨F', e1, e2, e3, e4⟩ := hmk s _ hs2 hsl
    refine ⟨F', ?_, e2, e3, fun l hl hle => ?_⟩
    · unfold f_Exp_addAutomatic_j22
      simp only [↓fx_bc, hR1, hs1, Option.bind_some, hfc14, ↓cI_of e1]
      rw [if_pos (isZ_b2 _)]
      rfl
    · injection hl with hl
      subst hl
      exact e4 hle
  unfold f_Exp_addAutomatic
  by_cases e64 : d = 64
  · rw [if_pos (show nI d = (64 : Int32) by rw [e64]; rfl)]
    exact hj22 _ (by rw [e64]; rfl)
  · rw [if_neg (show ¬ nI d = (64 : Int32) by rw [u_l64, u_eq (by omega) (by omega)]; exact e64)]
    by_cases e60 : d = 60
    · rw [if_pos (show nI d = (60 : Int32) by rw [e60]; rfl)]
      have hg13 := n_gI h1 ht (f := 13) ⟨by decide, by decide, by decide⟩
      simp only [↓fx_bc, hR1, hg13, Option.bind_some, hbd]
      cases hdf : ch.2.2 with
      | true =>
        rw [b2_t, if_neg (show ¬ nI 1 = 0 by decide)]
        exact hj22 _ (by rw [e60]; unfold x_auto; simp [hdf])
      | false =>
        rw [b2_f, if_pos (show nI 0 = 0 from rfl)]
        have hsr := n_src h1 ht
        unfold f_Exp_addAutomatic_j40
        rw [if_neg (show ¬ nI d = (63 : Int32) by rw [e60]; decide), if_pos (show nI d = (60 : Int32) by rw [e60]; rfl)]
        simp only [↓fx_bc, hR1, hsr, Option.bind_some]
        have hA : x_auto N ch ds nw t d = some (match ch.2.1 with | some x => N.getD x.1 [] | none => []) := by
          rw [e60]
          unfold x_auto
          rw [if_neg (by decide), if_pos rfl, hdf, if_neg (by decide)]
          rfl
        rw [hA]
        cases hc : ch.2.1 with
        | none =>
          rw [hsrc, hc]
          refine ⟨F1, ?_, hX.1, fr_refl _ _ _ _, fun l hl _ => ?_⟩
          · simp only [Option.map_none, if_true]
            rw [show xgood o (Option.map (fun l => (l, l.length)) (some ([] : List Nat))) = true from decide_eq_true (by simpa using hol)]
            rfl
          · injection hl with hl
            subst hl
            rw [List.append_nil]
            exact hX.2.1
        | some x =>
          have hx := (hch x hc).1
          obtain ⟨s2, hs21, hs22⟩ := n_sp h1 hx
          obtain ⟨F', q1, q2, q3, q4⟩ := hmk s2 _ hs22 (nok_pq hN hx).1
          rw [hsrc, hc]
          refine ⟨F', ?_, q2, q3, fun l hl hle => ?_⟩
          · simp only [Option.map_some, reduceCtorEq, if_false, ↓fx_bc, hR1, hs21, Option.bind_some, hfc14, ↓cI_of q1]
            cases xgood o (some (N.getD x.1 [], (N.getD x.1 []).length)) with
            | true => rw [b2_t, if_neg (show ¬ nI 1 = 0 by decide)]; rfl
            | false => rw [b2_f, if_pos (show nI 0 = 0 from rfl)]; rfl
          · injection hl with hl
            subst hl
            exact q4 hle
    · rw [if_neg (show ¬ nI d = (60 : Int32) by rw [u_l60, u_eq (by omega) (by omega)]; exact e60)]
      unfold f_Exp_addAutomatic_j40
      by_cases e63 : d = 63
      · rw [if_pos (show nI d = (63 : Int32) by rw [e63]; rfl)]
        have hA : x_auto N ch ds nw t d = some (x_join (x_newer N ds nw)) := by
          rw [e63]
          unfold x_auto
          simp
        rw [hA]
        generalize hJ : x_join (x_newer N ds nw) = J at h161 h16c
        have hlen := c_tlen (σ := σ) (b := b) ho16 h161
        obtain ⟨F', q1, q2, q3, q4⟩ := c_addTextF (σ := σ) (b := b) ho hb ho16 (by decide) (p := 0) (q := (J.take 121).length) (Nat.zero_le _) (Nat.le_refl _) (fun c hc => Nat.lt_trans (h16c c (List.mem_of_mem_take hc)) (by decide)) hX.1 hX.2.1 h161
        rw [show tcap 14 = 120 from rfl] at q1 q2
        rw [show slc (J.take 121) 0 (J.take 121).length = J.take 121 by unfold slc; rw [List.drop_zero, Nat.sub_zero, List.take_length]] at q2
        have hcond : decide (o.length + ((J.take 121).length - 0) ≤ 120) = xgood o (some (J, J.length)) := by
          show _ = decide (o.length + J.length ≤ 120)
          rw [List.length_take]
          congr 1
          apply propext
          constructor <;> intro h <;> omega
        rw [hcond] at q1
        refine ⟨F', ?_, q3, q4, fun l hl hle => ?_⟩
        · simp only [↓fx_bc, hfc16, ↓cI_of hlen, hfc14]
          have q1' : f_Text_addText (some (fx_ad b 14)) (some (fx_ad b 16)) (0 : Int32) (nI (J.take 121).length) (fx_mk σ b F1) = _ := q1
          rw [cI_of q1', if_pos (isZ_b2 _)]
          rfl
        · injection hl with hl
          subst hl
          have h120 : J.length ≤ 120 := by omega
          rw [List.take_of_length_le (show J.length ≤ 121 by omega), List.take_of_length_le (by rw [List.length_append]; omega)] at q2
          exact q2
      · rw [if_neg (show ¬ nI d = (63 : Int32) by rw [u_l63, u_eq (by omega) (by omega)]; exact e63), if_neg (show ¬ nI d = (60 : Int32) by rw [u_l60, u_eq (by omega) (by omega)]; exact e60)]
        by_cases e42 : d = 42
        · rw [if_pos (show nI d = (42 : Int32) by rw [e42]; rfl)]
          have hsr := n_src h1 ht
          have hg15 := n_gI h1 ht (f := 15) ⟨by decide, by decide, by decide⟩
          simp only [↓fx_bc, hR1, hsr, Option.bind_some, hs1, hg15]
          have hA : x_auto N ch ds nw t d = some (match ch.2.1 with | some x => x.2 | none => []) := by
            rw [e42]
            unfold x_auto
            rw [if_neg (by decide), if_neg (by decide), if_pos rfl]
            rfl
          rw [hA]
          cases hc : ch.2.1 with
          | none =>
            rw [hsrc, hc]
            refine ⟨F1, ?_, hX.1, fr_refl _ _ _ _, fun l hl _ => ?_⟩
            · simp only [Option.map_none, if_true]
              rw [show xgood o (Option.map (fun l => (l, l.length)) (some ([] : List Nat))) = true from decide_eq_true (by simpa using hol)]
              rfl
            · injection hl with hl
              subst hl
              rw [List.append_nil]
              exact hX.2.1
          | some x =>
            obtain ⟨hx, k, hk1, hk2, hk3⟩ := hch x hc
            obtain ⟨F', q1, q2, q3, q4⟩ := c_addPartF (σ := σ) ho hb hs2 (p := 0) (q := k) (Nat.zero_le _) hk1 hX.1 hX.2.1
            rw [show tcap 14 = 120 from rfl] at q1 q2
            rw [show slc (N.getD t []) 0 k = x.2 by rw [hk2]; simp [slc]] at q2
            have hxl : x.2.length = k := by rw [hk2, List.length_take]; omega
            have hcond : decide (o.length + (k - 0) ≤ 120) = xgood o (some (x.2, x.2.length)) := by
              show _ = decide (o.length + x.2.length ≤ 120)
              rw [hxl, Nat.sub_zero]
            rw [hcond] at q1
            rw [hsrc, hc, hk3]
            refine ⟨F', ?_, q3, q4, fun l hl hle => ?_⟩
            · simp only [Option.map_some, reduceCtorEq, if_false, hfc14]
              rw [show (0 : Int32) = nI 0 from rfl, cI_of q1]
              cases xgood o (some (x.2, x.2.length)) with
              | true => rw [b2_t, if_neg (show ¬ nI 1 = nI 0 by decide)]; rfl
              | false => rfl
            · injection hl with hl
              subst hl
              have hle2 : o.length + x.2.length ≤ 120 := hle
              rw [List.take_of_length_le (by rw [List.length_append]; omega)] at q2
              exact q2
        · rw [if_neg (show ¬ nI d = (42 : Int32) by rw [u_l42, u_eq (by omega) (by omega)]; exact e42)]
          have hA : x_auto N ch ds nw t d = none := by
            unfold x_auto
            rw [if_neg e64, if_neg e60, if_neg e42, if_neg e63]
          rw [hA]
          exact ⟨F1, rfl, hX.1, fr_refl _ _ _ _, fun l hl => by cases hl⟩
end
