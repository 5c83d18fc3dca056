/-! the reference: its draft, its names, its files -/
/-- the first of m numbers from k on that has P -/
def sr (P : Nat → Bool) : Nat → Nat → Option Nat
  | 0, _ => none
  | m + 1, k => if P k = true then some k else sr P m (k + 1)
theorem sr_some {P : Nat → Bool} : ∀ {m k j : Nat}, sr P m k = some j → k ≤ j ∧ j < k + m ∧ P j = true
  | 0, _, _, h => by cases h
  | m + 1, k, j, h => by
    unfold sr at h
    split at h
    · cases h
      exact ⟨Nat.le_refl _, by omega, by assumption⟩
    · have := sr_some h
      exact ⟨by omega, by omega, this.2.2⟩
theorem sr_none {P : Nat → Bool} : ∀ {m k : Nat}, sr P m k = none → ∀ j, k ≤ j → j < k + m → P j = false
  | 0, _, _, j, _, _ => by omega
  | m + 1, k, h, j, h1, h2 => by
    unfold sr at h
    split at h
    · cases h
    · rename_i hk
      by_cases e : j = k
      · subst e
        simpa using hk
      · exact sr_none h j (by omega) (by omega)
theorem sr_congr {P Q : Nat → Bool} : ∀ {m k : Nat}, (∀ j, k ≤ j → j < k + m → P j = Q j) → sr P m k = sr Q m k
  | 0, _, _ => rfl
  | m + 1, k, h => by
    unfold sr
    rw [h k (Nat.le_refl _) (by omega), sr_congr (fun j h1 h2 => h j (by omega) (by omega))]
theorem it_sr {α : Type} {body : Int32 → Option (Int32 ⊕ α)} {n : Nat} (P : Nat → Bool) (res : Nat → α) (en : α) (h : ∀ k, k < n → body (nI k) = if P k = true then some (.inr (res k)) else some (.inl (nI (k + 1)))) (he : body (nI n) = some (.inr en)) : ∀ (m k : Nat), k + m = n → rb_it body (nI k) = some (match sr P m k with | some j => res j | none => en)
  | 0, k, hk => by
    rw [show k = n by omega]
    exact rb_it_r he
  | m + 1, k, hk => by
    have hb := h k (by omega)
    unfold sr
    by_cases hp : P k = true
    · rw [if_pos hp] at hb ⊢
      exact rb_it_r hb
    · rw [if_neg hp] at hb ⊢
      rw [rb_it_l hb]
      exact it_sr P res en h he m (k + 1) (by omega)
def oi (o : Option Nat) : Int32 := match o with | some k => nI k | none => -1
theorem oi_some (k : Nat) : oi (some k) = nI k := (rfl)
theorem oi_none : oi none = -1 := (rfl)
def nf (N : List (List Nat)) (w : List Nat) : Option Nat := sr (fun k => decide (N.getD k [] = w)) N.length 0
theorem nf_lt {N : List (List Nat)} {w : List Nat} {k : Nat} (h : nf N w = some k) : k < N.length := by have := sr_some h; omega
theorem nf_is {N : List (List Nat)} {w : List Nat} {k : Nat} (h : nf N w = some k) : N.getD k [] = w := by
  have := (sr_some h).2.2
  simpa using this
/-- names that were met, as they may stand -/
def nok (N : List (List Nat)) : Prop := N.length ≤ 32 ∧ ∀ k, k < N.length → sp_name (N.getD k []) = true
def m_names (F : fx_F) (N : List (List Nat)) : Prop := F.1 3402 = nI N.length ∧ ∀ k, k < N.length → (F.2.2.1 36)[k]? = some (lN (pq (N.getD k [])))
theorem nok_pq {N : List (List Nat)} (h : nok N) {k : Nat} (hk : k < N.length) : (N.getD k []).length ≤ 8 ∧ 1 ≤ (N.getD k []).length ∧ pq_ok (N.getD k []) := ⟨(sp_name_ok (h.2 k hk)).2.2, (sp_name_ok (h.2 k hk)).2.1, (sp_name_ok (h.2 k hk)).1⟩
/-- a word as the reference holds it: packed, or -1 when it is too long -/
def pk (w : List Nat) : Int64 := if w.length ≤ 9 then lN (pq w) else -1
theorem pk_cmp {a w : List Nat} (ha : a.length ≤ 8) (h1 : pq_ok a) (h2 : pq_ok w) : (lg_cmp (lN (pq a)) (pk w) = 0) = (a = w) := by
  unfold pk
  have ha' := pq_lt63 (by omega) h1
  by_cases hw : w.length ≤ 9
  · rw [if_pos hw]
    exact propext ((pq_cmp ha' (pq_lt63 hw h2)).trans (pq_eq h1 h2))
  · rw [if_neg hw]
    apply propext
    constructor
    · intro h
      exfalso
      have e : lg_cmp (lN (pq a)) (-1) = 1 := by
        unfold lg_cmp
        have : (lN (pq a)).toInt = (pq a : Int) := lg_ofNat_toInt ha'
        have h3 : (-1 : Int64).toInt = -1 := rfl
        simp [Int64.lt_iff_toInt_lt, this, h3]
        omega
      rw [e] at h
      exact absurd h (by decide)
    · intro h
      subst h
      omega
theorem m_find {σ : rb_St} {b : Nat} {F : fx_F} {N : List (List Nat)} (hN : nok N) (hm : m_names F N) {w : List Nat} (hw : pq_ok w) : f_M_find (some (fx_ad b 34)) (pk w) (fx_mk σ b F) = some (some (.int (oi (nf N w))), fx_mk σ b F) := by
  have hl := hN.1
  unfold f_M_find
  rw [show (0 : Int32) = nI 0 from rfl, it_sr (n := N.length) (fun k => decide (N.getD k [] = w)) (fun k => (some (.int (nI k)), fx_mk σ b F)) (some (.int (-1)), fx_mk σ b F) ?_ ?_ N.length 0 (by omega)]
  · unfold nf
    cases sr (fun k => decide (N.getD k [] = w)) N.length 0 <;> rfl
  · intro k hk
    obtain ⟨h1, -, h3⟩ := nok_pq hN hk
    unfold f_M_find_b2
    simp (disch := omega) only [fx_rm, Bool.false_eq_true, Option.bind_some, Option.map_some, rb_cI, rb_cL, rb_cR, rb_cV, reduceIte, ite_true, ite_false, not_true_eq_false, not_false_eq_true, true_and, and_true, Nat.reduceEqDiff, Nat.reduceAdd, Nat.reduceMul, Nat.add_sub_cancel, hm.1, nI_1, u_lt, u_le, u_eq, u_add, u_ix, u_ixL, u_ixR, u_cl, u_nm1, u_nm1', u_m1l, u_m1n, if_pos, if_neg, hm.2 k hk, pk_cmp h1 h3 hw, decide_eq_true_eq]
  · unfold f_M_find_b2
    simp (disch := omega) only [fx_rm, Bool.false_eq_true, Option.bind_some, Option.map_some, rb_cI, rb_cL, rb_cR, rb_cV, reduceIte, ite_true, ite_false, not_true_eq_false, not_false_eq_true, true_and, and_true, Nat.reduceEqDiff, Nat.reduceAdd, Nat.reduceMul, Nat.add_sub_cancel, hm.1, nI_1, u_lt, u_le, u_eq, u_add, u_ix, u_ixL, u_ixR, u_cl, u_nm1, u_nm1', u_m1l, u_m1n, if_pos, if_neg, Nat.le_refl]
