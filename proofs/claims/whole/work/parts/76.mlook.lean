/-! the reference: the search for an ending rule -/
theorem pq_cat (a c : List Nat) : pq (a ++ c) = pq a * 128 ^ c.length + pq c := by
  obtain ⟨n, hn⟩ : ∃ n, c.length = n := ⟨_, rfl⟩
  induction n generalizing c with
  | zero =>
    have : c = [] := List.eq_nil_of_length_eq_zero hn
    subst this
    simp [pq]
  | succ n ih =>
    rcases pq_cases c with h | ⟨c', x, h⟩
    · subst h
      cases hn
    · subst h
      rw [List.length_append, List.length_cons, List.length_nil] at hn
      rw [← List.append_assoc, pq_app, ih c' (by omega), pq_app, List.length_append, List.length_cons, List.length_nil, Nat.pow_succ]
      generalize 128 ^ c'.length = p
      rw [Nat.add_mul, Nat.mul_assoc, Nat.add_assoc]
theorem pq_join {a c : List Nat} (h : a.length + c.length ≤ 9) (h1 : pq_ok a) (h2 : pq_ok c) : (lN (pq a) <<< ((nI (7 * c.length)).toInt64 &&& 63)) ||| lN (pq c) = lN (pq (a ++ c)) := by
  have ha := pq_lt a.length a rfl h1
  have hc := pq_lt c.length c rfl h2
  have hp : (2 : Nat) ^ (7 * c.length) = 128 ^ c.length := by rw [Nat.pow_mul]
  have hac : pq (a ++ c) < 2 ^ 63 := pq_lt63 (by rw [List.length_append]; exact h) (fun x hx => (List.mem_append.mp hx).elim (h1 x) (h2 x))
  rw [pq_cat] at hac ⊢
  rw [wb_shl _ (by omega), hp, wb_or (by omega) (by omega)]
  congr 1
  rw [← hp, ← Nat.shiftLeft_eq, ← Nat.shiftLeft_add_eq_or_of_lt (by rw [hp]; exact hc)]
theorem pq_low2 {w : List Nat} (hl : w.length ≤ 9) (hok : pq_ok w) {n : Nat} (hn : n ≤ w.length) (hn8 : n ≤ 8) : lN (pq w) &&& (((1 : Int64) <<< ((nI (7 * n)).toInt64 &&& 63)) - (1 : Int64)) = lN (pq (w.drop (w.length - n))) := by
  have h63 := pq_lt63 hl hok
  have hk : 7 * n < 64 := by omega
  have h1 : ((1 : Int64) <<< ((nI (7 * n)).toInt64 &&& 63)) - (1 : Int64) = lN (2 ^ (7 * n) - 1) := by
    have := wb_shl 1 hk
    rw [show (1 : Int64) = lN 1 from rfl, this, Nat.one_mul]
    apply wb_inj
    rw [Int64.toBitVec_sub, wb_tb, wb_tb, wb_tb]
    have hpos : 1 ≤ 2 ^ (7 * n) := Nat.one_le_two_pow
    have hlt : 2 ^ (7 * n) < 2 ^ 64 := wb_lt2 hk
    apply BitVec.eq_of_toNat_eq
    rw [BitVec.toNat_sub, BitVec.toNat_ofNat, BitVec.toNat_ofNat, BitVec.toNat_ofNat]
    omega
  rw [h1, wb_mask (by omega) hk]
  congr 1
  have hp : (2 : Nat) ^ (7 * n) = 128 ^ n := by rw [Nat.pow_mul]
  have hsplit : pq w = pq (w.take (w.length - n)) * 128 ^ n + pq (w.drop (w.length - n)) := by
    have := pq_cat (w.take (w.length - n)) (w.drop (w.length - n))
    rw [List.take_append_drop, List.length_drop, show w.length - (w.length - n) = n by omega] at this
    exact this
  have hdl : pq (w.drop (w.length - n)) < 128 ^ n := by
    have := pq_lt (w.drop (w.length - n)).length (w.drop (w.length - n)) rfl (fun c hc => hok c (List.mem_of_mem_drop hc))
    rw [List.length_drop, show w.length - (w.length - n) = n by omega] at this
    exact this
  rw [hp, hsplit, Nat.mul_comm, Nat.mul_add_mod, Nat.mod_eq_of_lt hdl]
theorem pq_high {w : List Nat} (hl : w.length ≤ 9) (hok : pq_ok w) {n : Nat} (hn : n ≤ w.length) (hn8 : n ≤ 8) : lN (pq w) >>> ((nI (7 * n)).toInt64 &&& 63) = lN (pq (w.take (w.length - n))) := by
  rw [pq_shr (pq_lt63 hl hok) (by omega), Nat.pow_mul]
  congr 1
  exact pq_div w.length w rfl hok n hn
theorem nf_long {N : List (List Nat)} (hN : nok N) {w : List Nat} (h : 8 < w.length) : nf N w = none := by
  cases hx : nf N w with
  | none => rfl
  | some k =>
    have h1 := nok_pq hN (nf_lt hx)
    rw [nf_is hx] at h1
    omega
section
variable {σ : rb_St} {b : Nat} {F : fx_F} {R : RS}
/-- what the search looks at -/
def m_lk (F : fx_F) (R : RS) (N : List (List Nat)) (f : Nat → Nat × Int32) : Prop := m_names F N ∧ m_sf F (rSf R) ∧ m_en F (rEn R) ∧ (∀ k, k < 32 → (F.2.1 52)[k]? = some (nI (b2 (rFl R 0 k))) ∧ (F.2.1 37)[k]? = some (nI (if (f k).1 = 0 then 0 else 1)))
theorem m_candidate (hR : rok R) (hE : eok R) {N : List (List Nat)} (hN : nok N) {f : Nat → Nat × Int32} (hm : m_lk F R N f) {w r s : List Nat} (hw : pq_ok w) (hw8 : w.length ≤ 8) (hr : sp_name r = true) (hs : s = [] ∨ sp_name s = true) : f_M_candidate (some (fx_ad b 34)) (lN (pq w)) (lN (pq r)) (lN (pq s)) (fx_mk σ b F) = some (some (.int (oi ((x_cand R N f w r s).map Prod.fst))), fx_mk σ b F) := by
  have o1 := sp_name_ok hr
  have o2 : pq_ok s ∧ s.length ≤ 8 := by
    rcases hs with h | h
    · rw [h]
      exact ⟨fun c hc => (by cases hc), Nat.zero_le _⟩
    · exact ⟨(sp_name_ok h).1, (sp_name_ok h).2.2⟩
  have r3 := hR.2.2.1
  have e8 := r3.1
  have r8 := hR.2.2.2.2.2.2.2.1
  have r13 := hR.2.2.2.2.2.2.2.2.2.2.2.2
  have heo := m_endingOf (σ := σ) (b := b) e8 r3.2 hE hm.2.2.1 o1.1 o2.1
  rw [pk_of (show r.length ≤ 9 by omega), pk_of (show s.length ≤ 9 by omega)] at heo
  have hlw := m_length (fx_mk σ b F) (w := w) (by omega) hw
  have hlr := m_length (fx_mk σ b F) (w := r) (by omega) o1.1
  have hok : pq_ok (w ++ r) := fun x hx => (List.mem_append.mp hx).elim (hw x) (o1.1 x)
  have hfind := m_find (σ := σ) (b := b) hN hm.1 hok
  unfold f_M_candidate x_cand
  cases hx : x_eidx (rEn R) (r, s) with
  | none =>
    rw [hx, oi_none] at heo
    simp (disch := omega) only [↓fx_bm, ↓cI_of heo, u_m10, ↓reduceIte, n_ltT, n_ltF, n_leT, n_leF, n_eqT, n_eqF, nI_1, u_lt, u_le, u_eq, u_add, u_ix, u_ixL, u_ixR, u_cl, u_nm1, u_nm1', u_m1l, u_m1n, u_l0, Option.bind_some, Option.map_some, not_true_eq_false, not_false_eq_true, true_and, and_true, Nat.add_sub_cancel, Bool.false_eq_true, u_nar2]
    rfl
  | some e =>
    rw [hx, oi_some] at heo
    have hel := (sr_some hx).2.1
    have hec := (hm.2.2.1.2 e (by omega)).2.2
    simp only
    cases hg : ((rEn R).getD e (([], []), none)).2 with
    | none =>
      rw [hg, oi_none] at hec
      simp (disch := omega) only [↓fx_bm, ↓cI_of heo, ↓bx_of rfl (show e < 2147483648 by omega) hec, u_m10, ↓reduceIte, n_ltT, n_ltF, n_leT, n_leF, n_eqT, n_eqF, nI_1, u_lt, u_le, u_eq, u_add, u_ix, u_ixL, u_ixR, u_cl, u_nm1, u_nm1', u_m1l, u_m1n, u_l0, Option.bind_some, Option.map_some, not_true_eq_false, not_false_eq_true, true_and, and_true, Nat.add_sub_cancel, Bool.false_eq_true, u_nar2]
      rfl
    | some g =>
      have hg1 := (r13 e g hg).1
      rw [hg, oi_some] at hec
      simp only
      by_cases h8 : w.length + r.length ≤ 8
      · have hjoin := pq_join (a := w) (c := r) (by omega) hw o1.1
        have hfind' : f_M_find (some (fx_ad b 34)) ((lN (pq w) <<< (((7 : Int32) * nI r.length).toInt64 &&& 63)) ||| lN (pq r)) (fx_mk σ b F) = some (some (.int (oi (nf N (w ++ r)))), fx_mk σ b F) := by
          rw [show (7 : Int32) * nI r.length = nI (7 * r.length) from u_mul 7 r.length, hjoin, ← pk_of (show (w ++ r).length ≤ 9 by rw [List.length_append]; omega)]
          exact hfind
        cases hnf : nf N (w ++ r) with
        | none =>
          rw [hnf, oi_none] at hfind'
          simp (disch := omega) only [↓fx_bm, ↓cI_of heo, ↓bx_of rfl (show e < 2147483648 by omega) hec, ↓cI_of hlw, ↓cI_of hlr, u_l8, ↓cI_of hfind', u_m10, ↓reduceIte, n_ltT, n_ltF, n_leT, n_leF, n_eqT, n_eqF, nI_1, u_lt, u_le, u_eq, u_add, u_ix, u_ixL, u_ixR, u_cl, u_nm1, u_nm1', u_m1l, u_m1n, u_l0, Option.bind_some, Option.map_some, not_true_eq_false, not_false_eq_true, true_and, and_true, Nat.add_sub_cancel, Bool.false_eq_true, u_nar2]
          rfl
        | some k =>
          have hk32 : k < 32 := Nat.lt_of_lt_of_le (nf_lt hnf) hN.1
          obtain ⟨q1, q2⟩ := hm.2.2.2 k hk32
          rw [hnf, oi_some] at hfind'
          simp only
          cases hr0 : rFl R 0 k
          · rw [hr0, b2_f] at q1
            by_cases hf0 : (f k).1 = 0
            · rw [if_pos hf0] at q2
              rw [if_neg (show ¬ (false = true ∨ ¬ (f k).1 = 0) by simp [hf0])]
              simp (disch := omega) only [↓fx_bm, ↓cI_of heo, ↓bx_of rfl (show e < 2147483648 by omega) hec, ↓cI_of hlw, ↓cI_of hlr, u_l8, ↓cI_of hfind', ↓bx_of rfl (show k < 2147483648 by omega) q1, ↓bx_of rfl (show k < 2147483648 by omega) q2, ↓reduceIte, n_ltT, n_ltF, n_leT, n_leF, n_eqT, n_eqF, nI_1, u_lt, u_le, u_eq, u_add, u_ix, u_ixL, u_ixR, u_cl, u_nm1, u_nm1', u_m1l, u_m1n, u_l0, Option.bind_some, Option.map_some, not_true_eq_false, not_false_eq_true, true_and, and_true, Nat.add_sub_cancel, Bool.false_eq_true, u_nar2]
              rfl
            · rw [if_neg hf0] at q2
              rw [if_pos (show (false = true ∨ ¬ (f k).1 = 0) from Or.inr hf0)]
              simp (disch := omega) only [↓fx_bm, ↓cI_of heo, ↓bx_of rfl (show e < 2147483648 by omega) hec, ↓cI_of hlw, ↓cI_of hlr, u_l8, ↓cI_of hfind', ↓bx_of rfl (show k < 2147483648 by omega) q1, ↓bx_of rfl (show k < 2147483648 by omega) q2, ↓reduceIte, n_ltT, n_ltF, n_leT, n_leF, n_eqT, n_eqF, nI_1, u_lt, u_le, u_eq, u_add, u_ix, u_ixL, u_ixR, u_cl, u_nm1, u_nm1', u_m1l, u_m1n, u_l0, Option.bind_some, Option.map_some, not_true_eq_false, not_false_eq_true, true_and, and_true, Nat.add_sub_cancel, Bool.false_eq_true, u_nar2]
              rfl
          · rw [hr0, b2_t] at q1
            rw [if_pos (show (true = true ∨ ¬ (f k).1 = 0) from Or.inl rfl)]
            simp (disch := omega) only [↓fx_bm, ↓cI_of heo, ↓bx_of rfl (show e < 2147483648 by omega) hec, ↓cI_of hlw, ↓cI_of hlr, u_l8, ↓cI_of hfind', ↓bx_of rfl (show k < 2147483648 by omega) q1, ↓reduceIte, n_ltT, n_ltF, n_leT, n_leF, n_eqT, n_eqF, nI_1, u_lt, u_le, u_eq, u_add, u_ix, u_ixL, u_ixR, u_cl, u_nm1, u_nm1', u_m1l, u_m1n, u_l0, Option.bind_some, Option.map_some, not_true_eq_false, not_false_eq_true, true_and, and_true, Nat.add_sub_cancel, Bool.false_eq_true, u_nar2]
            rfl
      · rw [nf_long hN (show 8 < (w ++ r).length by rw [List.length_append]; omega)]
        simp (disch := omega) only [↓fx_bm, ↓cI_of heo, ↓bx_of rfl (show e < 2147483648 by omega) hec, ↓cI_of hlw, ↓cI_of hlr, u_l8, ↓reduceIte, n_ltT, n_ltF, n_leT, n_leF, n_eqT, n_eqF, nI_1, u_lt, u_le, u_eq, u_add, u_ix, u_ixL, u_ixR, u_cl, u_nm1, u_nm1', u_m1l, u_m1n, u_l0, Option.bind_some, Option.map_some, not_true_eq_false, not_false_eq_true, true_and, and_true, Nat.add_sub_cancel, Bool.false_eq_true, u_nar2]
        rfl
/-- of the other names nothing changes -/
def pf (t : Nat) (F F' : fx_F) : Prop := (∀ o j, j ≠ t → 72 ≤ o → o ≤ 79 → (F'.2.1 o)[j]? = (F.2.1 o)[j]?) ∧ (∀ j, j ≠ t → (F'.2.2.1 77)[j]? = (F.2.2.1 77)[j]?)
theorem pf_refl (t : Nat) (F : fx_F) : pf t F F := ⟨fun _ _ _ _ _ => rfl, fun _ _ => rfl⟩
theorem pf_trans {t : Nat} {F G H : fx_F} (h1 : pf t F G) (h2 : pf t G H) : pf t F H := ⟨fun o j a c d => (h2.1 o j a c d).trans (h1.1 o j a c d), fun j a => (h2.2 j a).trans (h1.2 j a)⟩
theorem set_ne {α : Type} {l : List α} {k j : Nat} {x : α} (h : j ≠ k) : (l.set k x)[j]? = l[j]? := List.getElem?_set_ne (fun e => h e.symm)
theorem pf_A {t : Nat} {F G : fx_F} (h : pf t F G) (o : Nat) (x : Int32) : pf t F (fx_A G o ((G.2.1 o).set t x)) := by
  refine ⟨fun o' j hj h1 h2 => ?_, h.2⟩
  rw [fx_A_A]
  by_cases e : o' = o
  · rw [if_pos e, set_ne hj, ← e]
    exact h.1 o' j hj h1 h2
  · rw [if_neg e]
    exact h.1 o' j hj h1 h2
theorem pf_L {t : Nat} {F G : fx_F} (h : pf t F G) (o : Nat) (x : Int64) : pf t F (fx_L G o ((G.2.2.1 o).set t x)) := by
  refine ⟨h.1, fun j hj => ?_⟩
  rw [fx_L_L]
  by_cases e : 77 = o
  · rw [if_pos e, set_ne hj, ← e]
    exact h.2 j hj
  · rw [if_neg e]
    exact h.2 j hj
theorem pf_I {t : Nat} {F G : fx_F} (h : pf t F G) (z : Nat) (x : Int32) : pf t F (fx_I G z x) := h
theorem pf_fr {t : Nat} {F G : fx_F} {zi za zl : List Nat} (h : fr zi za zl F G) (h1 : ∀ o, o ∈ za → ¬ (72 ≤ o ∧ o ≤ 79)) (h2 : 77 ∉ zl) : pf t F G := ⟨fun o j _ a c => by rw [h.2.1 o (fun hz => h1 o hz ⟨a, c⟩)], fun j _ => by rw [h.2.2.1 77 h2]⟩
/-- what a search has found for t -/
def m_fd (F : fx_F) (t : Nat) (x : Option ((Nat × Nat) × List Nat)) : Prop := (F.2.1 76)[t]? = some (oi (x.map (fun y => y.1.1))) ∧ (∀ y, x = some y → (F.2.2.1 77)[t]? = some (lN (pq y.2)) ∧ (F.2.1 78)[t]? = some (nI y.1.2)) ∧ (x = none → (F.2.1 78)[t]? = some (-1 : Int32))
theorem m_take (hb : rb_b σ ≤ b) (hF : fx_ln F) {t k e g : Nat} (ht : t < 32) (he : e < 8) {w : List Nat} (hg : (F.2.1 61)[e]? = some (nI g)) : ∃ F', f_M_take (some (fx_ad b 34)) (nI t) (nI k) (lN (pq w)) (nI e) (fx_mk σ b F) = some (none, fx_mk σ b F') ∧ m_fd F' t (some ((k, g), w)) ∧ fx_ln F' ∧ fr [] [76, 78] [77] F F' ∧ pf t F F' := by
  have h76 := hF.1 76
  have h78 := hF.1 78
  have h77 := hF.2.1 77
  simp only [fx_cI] at h76 h78
  simp only [fx_cL] at h77
  refine ⟨fx_A (fx_L (fx_A F 76 ((F.2.1 76).set t (nI k))) 77 ((F.2.2.1 77).set t (lN (pq w)))) 78 ((F.2.1 78).set t (nI g)), ?_, ⟨?_, ?_, fun h => (by cases h)⟩, ?_, ?_, ?_⟩
  · unfold f_M_take
    simp (disch := omega) only [↓fx_bm, ↓fx_vm hb, ↓reduceIte, n_ltT, n_ltF, n_leT, n_leF, n_eqT, n_eqF, nI_1, u_lt, u_le, u_eq, u_add, u_ix, u_ixL, u_ixR, u_cl, u_nm1, u_nm1', u_m1l, u_m1n, u_l0, Option.bind_some, Option.map_some, not_true_eq_false, not_false_eq_true, true_and, and_true, Nat.add_sub_cancel, Bool.false_eq_true, u_nar2, fx_II, fx_AA, fx_LL, fx_I_1, fx_I_A, fx_I_L, fx_I_R, fx_I_Q, fx_A_1, fx_A_A, fx_A_L, fx_A_R, fx_A_Q, fx_L_1, fx_L_A, fx_L_L, fx_L_R, fx_L_Q, fx_R_1, fx_R_A, fx_R_L, fx_R_R, fx_R_Q, fx_Q_1, fx_Q_A, fx_Q_L, fx_Q_R, fx_Q_Q, Nat.reduceEqDiff, hg]
  · simp only [fx_II, fx_AA, fx_LL, fx_I_1, fx_I_A, fx_I_L, fx_I_R, fx_I_Q, fx_A_1, fx_A_A, fx_A_L, fx_A_R, fx_A_Q, fx_L_1, fx_L_A, fx_L_L, fx_L_R, fx_L_Q, fx_R_1, fx_R_A, fx_R_L, fx_R_R, fx_R_Q, fx_Q_1, fx_Q_A, fx_Q_L, fx_Q_R, fx_Q_Q, Bool.false_eq_true, Option.bind_some, Option.map_some, rb_cI, rb_cL, rb_cR, rb_cV, reduceIte, ite_true, ite_false, not_true_eq_false, not_false_eq_true, true_and, and_true, Nat.reduceEqDiff, Nat.reduceAdd, Nat.reduceMul, Nat.add_sub_cancel]
    rw [set_get (by omega), if_pos rfl]
    rfl
  · intro y hy
    injection hy with hy
    subst hy
    simp only [fx_II, fx_AA, fx_LL, fx_I_1, fx_I_A, fx_I_L, fx_I_R, fx_I_Q, fx_A_1, fx_A_A, fx_A_L, fx_A_R, fx_A_Q, fx_L_1, fx_L_A, fx_L_L, fx_L_R, fx_L_Q, fx_R_1, fx_R_A, fx_R_L, fx_R_R, fx_R_Q, fx_Q_1, fx_Q_A, fx_Q_L, fx_Q_R, fx_Q_Q, Bool.false_eq_true, Option.bind_some, Option.map_some, rb_cI, rb_cL, rb_cR, rb_cV, reduceIte, ite_true, ite_false, not_true_eq_false, not_false_eq_true, true_and, and_true, Nat.reduceEqDiff, Nat.reduceAdd, Nat.reduceMul, Nat.add_sub_cancel]
    rw [set_get (by omega), set_get (by omega), if_pos rfl, if_pos rfl]
    exact ⟨rfl, rfl⟩
  · exact fx_lnA (fx_lnL (fx_lnA hF (by rw [List.length_set]; exact hF.1 _)) (by rw [List.length_set]; exact hF.2.1 _)) (by rw [List.length_set]; exact hF.1 _)
  · exact fr_A (fr_L (fr_A (fr_refl _ _ _ _) (by decide)) (by decide)) (by decide)
  · exact pf_A (G := fx_L (fx_A F 76 ((F.2.1 76).set t (nI k))) 77 ((F.2.2.1 77).set t (lN (pq w)))) (pf_L (G := fx_A F 76 ((F.2.1 76).set t (nI k))) (pf_A (pf_refl _ _) 76 _) 77 _) 78 _
end
