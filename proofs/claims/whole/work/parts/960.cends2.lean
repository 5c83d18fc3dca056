/-! the class: ends of words are changed, the whole text -/
section
variable {σ : rb_St} {b : Nat} {F : fx_F}
theorem c_ends (hb : rb_b σ ≤ b) {a : Nat} {s : List Nat} (hs : sx σ b a s) (hs1 : s.length ≤ 1000) {i e cl : Nat} (hie : i ≤ e) (hec : e + 1 ≤ cl) (hcl : cl ≤ s.length) : ∀ (y : List Nat) (F : fx_F) (O w : List Nat), fx_ln F → tw F 14 (O ++ w ++ y) → (∀ c, c ∈ O ++ w ++ y → c < 128) → ∃ F', rb_it (fun z : (Int32 × Int32 × rb_St) => f_Exp_replaceEnds_b14 (some (fx_ad b 13)) (some a) (nI i) (nI e) (nI cl) (z.1) (z.2.1) z.2.2) (nI O.length, nI y.length, fx_mk σ b F) = some (some (.int (nI (b2 (decide (O.length + (rpF (slc s i e) (slc s (e + 1) cl) w y).length ≤ 120))))), fx_mk σ b F') ∧ (O.length + (rpF (slc s i e) (slc s (e + 1) cl) w y).length ≤ 120 → tw F' 14 (O ++ rpF (slc s i e) (slc s (e + 1) cl) w y)) ∧ fx_ln F' ∧ fr [1401] [15] [] F F' := by
  have ho : tO 14 := Or.inr (Or.inl rfl)
  have hcap : tcap 14 = 120 := rfl
  have hvl := slc_len (p := e + 1) (q := cl) (l := s) hcl
  have hul := slc_len (p := i) (q := e) (l := s) (by omega)
  have hv128 : ∀ c, c ∈ slc s (e + 1) cl → c < 128 := fun c hcm => by
    obtain ⟨v, rest, k1, k2, k3, k4, k5, k6⟩ := hs.2.2
    obtain ⟨x, _, _, ex⟩ := slc_mem hcl hcm
    rw [← ex]
    exact k5 _ (getD_mem (by omega))
  intro y
  induction y with
  | nil =>
    intro F O w hF h hc
    have hl := tw_len hF h
    rw [hcap] at hl
    simp only [List.length_append, List.length_nil] at hl
    obtain ⟨F1, a1, a2, a3, a4⟩ := c_wordEnd (σ := σ) (b := b) hb hs hs1 hie hec hcl hF h hc (r := 0) rfl
    rw [List.length_nil, Nat.add_zero] at a1 a2
    have hlen := c_tlen (σ := σ) (b := b) ho h
    have hbody : f_Exp_replaceEnds_b14 (some (fx_ad b 13)) (some a) (nI i) (nI e) (nI cl) (nI O.length) (nI 0) (fx_mk σ b F) = f_Exp_replaceEnds_j53 (some (fx_ad b 13)) (some a) (nI i) (nI e) (nI cl) (nI O.length) (nI 0) (nI (O.length + w.length)) (fx_mk σ b F) := by
      unfold f_Exp_replaceEnds_b14
      rw [if_neg (show ¬ nI 0 < 0 by decide)]
      simp (disch := omega) only [↓fx_bc, ↓cI_of hlen, show (nI 0 ≤ 0) = True from eq_true (by decide), ↓reduceIte]
      have hz : nI (O ++ w ++ []).length - nI 0 = nI (O.length + w.length) := by
        rw [List.append_nil]
        exact (u_sub (Nat.zero_le _)).trans (by rw [List.length_append, Nat.sub_zero])
      rw [hz]
    unfold rpF
    by_cases hfit : O.length + (fw (slc s i e) (slc s (e + 1) cl) w).length ≤ 120
    · obtain ⟨q1, q2⟩ := a1 hfit
      rw [List.append_nil] at q2
      refine ⟨F1, ?_, fun _ => q2, a3, a4⟩
      rw [decide_eq_true hfit, b2_t]
      refine (rb_it_l (hbody.trans q1)).trans ?_
      refine rb_it_r ?_
      show f_Exp_replaceEnds_b14 _ _ _ _ _ _ _ _ = _
      unfold f_Exp_replaceEnds_b14
      rw [u_0b1, if_pos (show (-1 : Int32) < 0 by decide)]
      rfl
    · refine ⟨F1, ?_, fun h => absurd h hfit, a3, a4⟩
      rw [decide_eq_false hfit, b2_f]
      exact rb_it_r (hbody.trans (a2 hfit))
  | cons c y ih =>
    intro F O w hF h hc
    have hl := tw_len hF h
    rw [hcap] at hl
    simp only [List.length_append, List.length_cons] at hl
    have hlen := c_tlen (σ := σ) (b := b) ho h
    have hc2 : ∀ c', c' ∈ O ++ w ++ (c :: y) → c' < 65536 := fun c' h => Nat.lt_trans (hc c' h) (by decide)
    have hcc : c < 128 := hc c (by simp)
    have hpos : nI (O ++ w ++ (c :: y)).length - nI (y.length + 1) = nI (O.length + w.length) := by
      rw [u_sub (by simp only [List.length_append, List.length_cons]; omega)]
      congr 1
      simp only [List.length_append, List.length_cons]
      omega
    have hgc : (O ++ w ++ (c :: y)).getD (O.length + w.length) 0 = c := by
      rw [List.getD_eq_getElem?_getD, ← List.length_append, List.getElem?_append_right (Nat.le_refl _), Nat.sub_self]
      rfl
    have hat : f_Text_at (some (fx_ad b 14)) (nI (O ++ w ++ (c :: y)).length - nI (y.length + 1)) (fx_mk σ b F) = some (some (.int (nI c)), fx_mk σ b F) := by
      rw [hpos, ← hgc]
      exact c_at (σ := σ) (b := b) ho hF h hc2 (by omega)
    rw [List.length_cons]
    by_cases e32 : c = 32
    · subst e32
      obtain ⟨F1, a1, a2, a3, a4⟩ := c_wordEnd (σ := σ) (b := b) hb hs hs1 hie hec hcl hF h hc (r := y.length + 1) rfl
      rw [List.length_cons] at a1 a2
      have hbody : f_Exp_replaceEnds_b14 (some (fx_ad b 13)) (some a) (nI i) (nI e) (nI cl) (nI O.length) (nI (y.length + 1)) (fx_mk σ b F) = f_Exp_replaceEnds_j53 (some (fx_ad b 13)) (some a) (nI i) (nI e) (nI cl) (nI O.length) (nI (y.length + 1)) (nI (O.length + w.length)) (fx_mk σ b F) := by
        unfold f_Exp_replaceEnds_b14
        rw [if_neg (show ¬ nI (y.length + 1) < 0 by rw [u_l0, u_lt (by omega) (by omega)]; omega)]
        simp (disch := omega) only [↓fx_bc, ↓cI_of hlen]
        rw [if_neg (show ¬ nI (y.length + 1) ≤ 0 by rw [u_l0, u_le (by omega) (by omega)]; omega)]
        simp (disch := omega) only [↓fx_bc, ↓cI_of hat]
        rw [if_pos (show nI 32 = (32 : Int32) from rfl), hpos]
      have hrp : rpF (slc s i e) (slc s (e + 1) cl) w (32 :: y) = fw (slc s i e) (slc s (e + 1) cl) w ++ 32 :: rpF (slc s i e) (slc s (e + 1) cl) [] y := by
        rw [rpF, if_pos rfl]
      rw [hrp]
      generalize hfwg : fw (slc s i e) (slc s (e + 1) cl) w = W at a1 a2 ⊢
      have hW128 : ∀ c', c' ∈ W → c' < 128 := by
        intro c' hm
        rw [← hfwg] at hm
        unfold fw at hm
        split at hm
        · rcases List.mem_append.mp hm with hm | hm
          · exact hc c' (List.mem_append_left _ (List.mem_append_right _ (List.mem_of_mem_take hm)))
          · exact hv128 c' hm
        · exact hc c' (List.mem_append_left _ (List.mem_append_right _ hm))
      by_cases hfit : O.length + W.length + (y.length + 1) ≤ 120
      · obtain ⟨q1, q2⟩ := a1 hfit
        have hassoc : O ++ W ++ (32 :: y) = (O ++ W ++ [32]) ++ [] ++ y := by simp
        rw [hassoc] at q2
        have hc' : ∀ c', c' ∈ (O ++ W ++ [32]) ++ [] ++ y → c' < 128 := by
          intro c' hm
          simp only [List.append_nil, List.mem_append, List.mem_singleton] at hm
          rcases hm with ((hm | hm) | hm) | hm
          · exact hc c' (by simp [hm])
          · exact hW128 c' hm
          · omega
          · exact hc c' (by simp [hm])
        obtain ⟨F', e1, e2, e3, e4⟩ := ih F1 (O ++ W ++ [32]) [] a3 q2 hc'
        have hlO : (O ++ W ++ [32]).length = O.length + W.length + 1 := by simp only [List.length_append, List.length_cons, List.length_nil]
        have hfin : (O ++ W ++ [32]).length + (rpF (slc s i e) (slc s (e + 1) cl) [] y).length = O.length + (W ++ 32 :: rpF (slc s i e) (slc s (e + 1) cl) [] y).length := by
          simp only [List.length_append, List.length_cons, List.length_nil]
          omega
        rw [hfin] at e1 e2
        refine ⟨F', ?_, fun hh => ?_, e3, fr_trans a4 e4⟩
        · rw [← e1]
          refine (rb_it_l (hbody.trans q1)).trans ?_
          rw [u_b1, hlO, u_l1, u_add]
        · have := e2 hh
          rw [show O ++ (W ++ 32 :: rpF (slc s i e) (slc s (e + 1) cl) [] y) = (O ++ W ++ [32]) ++ rpF (slc s i e) (slc s (e + 1) cl) [] y by simp]
          exact this
      · -- it does not fit: the whole does not either
        have hgrow : y.length ≤ (rpF (slc s i e) (slc s (e + 1) cl) [] y).length := by
          have hle : (slc s i e).length ≤ (slc s (e + 1) cl).length := by
            by_cases hle : (slc s i e).length ≤ (slc s (e + 1) cl).length
            · exact hle
            · exfalso
              apply hfit
              have hWle : W.length ≤ w.length := by
                rw [← hfwg]
                unfold fw
                split
                · rename_i hcd
                  have hsf := hcd.2
                  unfold sfx at hsf
                  rw [Bool.and_eq_true, decide_eq_true_eq] at hsf
                  rw [List.length_append, List.length_take]
                  omega
                · exact Nat.le_refl _
              omega
          have := rpF_len hle y []
          rw [List.length_nil, Nat.zero_add] at this
          exact this
        have hbig : ¬ O.length + (W ++ 32 :: rpF (slc s i e) (slc s (e + 1) cl) [] y).length ≤ 120 := by
          rw [List.length_append, List.length_cons]
          omega
        refine ⟨F1, ?_, fun hh => absurd hh hbig, a3, a4⟩
        rw [decide_eq_false hbig, b2_f]
        exact rb_it_r (hbody.trans (a2 hfit))
    · have hrp : rpF (slc s i e) (slc s (e + 1) cl) w (c :: y) = rpF (slc s i e) (slc s (e + 1) cl) (w ++ [c]) y := by
        rw [rpF, if_neg e32]
      rw [hrp]
      have hassoc : O ++ w ++ (c :: y) = O ++ (w ++ [c]) ++ y := by simp
      rw [hassoc] at h hc
      obtain ⟨F', e1, e2, e3, e4⟩ := ih F O (w ++ [c]) hF h hc
      refine ⟨F', ?_, e2, e3, e4⟩
      rw [← e1]
      refine rb_it_l ?_
      show f_Exp_replaceEnds_b14 _ _ _ _ _ _ _ _ = _
      unfold f_Exp_replaceEnds_b14
      rw [if_neg (show ¬ nI (y.length + 1) < 0 by rw [u_l0, u_lt (by omega) (by omega)]; omega)]
      simp (disch := omega) only [↓fx_bc, ↓cI_of hlen]
      rw [if_neg (show ¬ nI (y.length + 1) ≤ 0 by rw [u_l0, u_le (by omega) (by omega)]; omega)]
      simp (disch := omega) only [↓fx_bc, ↓cI_of hat]
      rw [if_neg (show ¬ nI c = (32 : Int32) by rw [u_l32, u_eq (by omega) (by omega)]; exact e32), u_b1]
theorem c_replaceEnds (hb : rb_b σ ≤ b) (hF : fx_ln F) {a : Nat} {s : List Nat} (hs : sx σ b a s) (hs1 : s.length ≤ 1000) {i e cl : Nat} (hie : i ≤ e) (hec : e + 1 ≤ cl) (hcl : cl ≤ s.length) {O y : List Nat} (h : tw F 14 (O ++ y)) (hc : ∀ c, c ∈ O ++ y → c < 128) : ∃ F', f_Exp_replaceEnds (some (fx_ad b 13)) (nI O.length) (some a) (nI i) (nI e) (nI cl) (fx_mk σ b F) = some (some (.int (nI (b2 (decide (O.length + (rpF (slc s i e) (slc s (e + 1) cl) [] y).length ≤ 120))))), fx_mk σ b F') ∧ (O.length + (rpF (slc s i e) (slc s (e + 1) cl) [] y).length ≤ 120 → tw F' 14 (O ++ rpF (slc s i e) (slc s (e + 1) cl) [] y)) ∧ fx_ln F' ∧ fr [1401] [15] [] F F' := by
  have ho : tO 14 := Or.inr (Or.inl rfl)
  have hl := tw_len hF h
  rw [show tcap 14 = 120 from rfl, List.length_append] at hl
  have hlen := c_tlen (σ := σ) (b := b) ho h
  have h' : tw F 14 (O ++ [] ++ y) := by rw [List.append_nil]; exact h
  have hc' : ∀ c, c ∈ O ++ [] ++ y → c < 128 := by rw [List.append_nil]; exact hc
  obtain ⟨F', e1, e2⟩ := c_ends (σ := σ) (b := b) hb hs hs1 hie hec hcl y F O [] hF h' hc'
  refine ⟨F', ?_, e2⟩
  rw [← e1]
  unfold f_Exp_replaceEnds
  simp (disch := omega) only [↓fx_bc, ↓cI_of hlen]
  rw [show nI (O ++ y).length - nI O.length = nI y.length by
    rw [u_sub (by rw [List.length_append]; omega)]
    congr 1
    rw [List.length_append]
    omega]
end
