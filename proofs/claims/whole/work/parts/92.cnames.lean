/-! the class: names -/
def nrow (I : Nat → Int32) (s : Nat) (r : Option Nat) : List Value := [.int (I 0), .ref s, .int (I 2), .int (I 3), .int (I 4), .int (I 5), .int (I 6), .int (I 7), .int (I 8), .int (I 9), .int (I 10), .int (I 11), .int (I 12), .int (I 13), va_rf r, .int (I 15)]
def nfd (f : Nat) : Prop := f < 16 ∧ f ≠ 1 ∧ f ≠ 14
theorem nrow_get {I : Nat → Int32} {s : Nat} {r : Option Nat} {f : Nat} (h : nfd f) : (nrow I s r)[f]? = some (.int (I f)) := by
  obtain ⟨h1, h2, h3⟩ := h
  have : f = 0 ∨ f = 2 ∨ f = 3 ∨ f = 4 ∨ f = 5 ∨ f = 6 ∨ f = 7 ∨ f = 8 ∨ f = 9 ∨ f = 10 ∨ f = 11 ∨ f = 12 ∨ f = 13 ∨ f = 15 := by omega
  rcases this with h | h | h | h | h | h | h | h | h | h | h | h | h | h <;> subst h <;> rfl
theorem nrow_set {I : Nat → Int32} {s : Nat} {r : Option Nat} {f : Nat} (h : nfd f) (x : Int32) : (nrow I s r).set f (.int x) = nrow (up1 I f x) s r := by
  obtain ⟨h1, h2, h3⟩ := h
  have : f = 0 ∨ f = 2 ∨ f = 3 ∨ f = 4 ∨ f = 5 ∨ f = 6 ∨ f = 7 ∨ f = 8 ∨ f = 9 ∨ f = 10 ∨ f = 11 ∨ f = 12 ∨ f = 13 ∨ f = 15 := by omega
  rcases this with h | h | h | h | h | h | h | h | h | h | h | h | h | h <;> subst h <;> rfl
theorem nrow_src {I : Nat → Int32} {s : Nat} {r r' : Option Nat} : (nrow I s r).set 14 (va_rf r') = nrow I s r' := (rfl)
/-- one number of one name changes -/
def up2 (I : Nat → Nat → Int32) (k f : Nat) (x : Int32) : Nat → Nat → Int32 := up1 I k (up1 (I k) f x)
theorem up2_eq (I : Nat → Nat → Int32) (k f : Nat) (x : Int32) : up2 I k f x k f = x := by
  unfold up2
  rw [up1_eq, up1_eq]
theorem up2_ne {I : Nat → Nat → Int32} {k f j g : Nat} {x : Int32} (h : ¬ (j = k ∧ g = f)) : up2 I k f x j g = I j g := by
  unfold up2
  by_cases e : j = k
  · rw [e, up1_eq, up1_ne (fun e2 => h ⟨e, e2⟩)]
  · rw [up1_ne e]
/-- the store: names N at addresses ad, their numbers I, their sources -/
def nx (σ : rb_St) (b : Nat) (F : fx_F) (N : List (List Nat)) (ad : Nat → Nat) (I : Nat → Nat → Int32) (src : Nat → Option Nat) : Prop := F.1 301 = nI N.length ∧ (∀ k, k < N.length → (F.2.2.2.2 4)[k]? = some (some (ad k)) ∧ wx b (ad k) ∧ rb_b σ ≤ ad k ∧ ad k < rb_n σ ∧ I k 0 = nI k ∧ ∃ s, σ.1 (ad k) = (12, nrow (I k) s (src k)) ∧ sx σ b s (N.getD k [])) ∧ (∀ i j, i < N.length → j < N.length → ad i = ad j → i = j)
/-- class cells that names need -/
def nfr (F F' : fx_F) : Prop := F'.1 301 = F.1 301 ∧ F'.2.2.2.2 4 = F.2.2.2.2 4
theorem nx_fr {σ : rb_St} {b : Nat} {F F' : fx_F} {N : List (List Nat)} {ad : Nat → Nat} {I : Nat → Nat → Int32} {src : Nat → Option Nat} (h : nx σ b F N ad I src) (hf : nfr F F') : nx σ b F' N ad I src := by
  unfold nx at *
  rw [hf.1, hf.2]
  exact h
theorem nx_hn {σ σ' : rb_St} {b : Nat} {F : fx_F} {N : List (List Nat)} {ad : Nat → Nat} {I : Nat → Nat → Int32} {src : Nat → Option Nat} (h : nx σ b F N ad I src) (hh : hn σ σ') : nx σ' b F N ad I src := by
  refine ⟨h.1, fun k hk => ?_, h.2.2⟩
  obtain ⟨h1, h2, h3, h4, h5, s, h6, h7⟩ := h.2.1 k hk
  exact ⟨h1, h2, by rw [hh.1.2.1]; exact h3, Nat.lt_of_lt_of_le h4 hh.1.1, h5, s, by rw [hh.2 _ h4]; exact h6, sx_hx h7 hh.1⟩
section
variable {σ : rb_St} {b : Nat} {F : fx_F} {N : List (List Nat)} {ad : Nat → Nat} {I : Nat → Nat → Int32} {src : Nat → Option Nat}
theorem n_gI (h : nx σ b F N ad I src) {k : Nat} (hk : k < N.length) {f : Nat} (hf : nfd f) : rb_gI (fx_mk σ b F) (some (ad k)) 12 f = some (I k f) := by
  obtain ⟨h1, h2, h3, h4, h5, s, h6, h7⟩ := h.2.1 k hk
  exact fo_gI h2 h6 (nrow_get hf)
theorem n_fc (h : nx σ b F N ad I src) {k : Nat} (hk : k < N.length) : ∃ l, rb_fc (fx_mk σ b F) (some (ad k)) 12 = some l := by
  obtain ⟨h1, h2, h3, h4, h5, s, h6, h7⟩ := h.2.1 k hk
  exact ⟨_, fo_fk h2 h6⟩
theorem n_sp (h : nx σ b F N ad I src) {k : Nat} (hk : k < N.length) : ∃ s, rb_gR (fx_mk σ b F) (some (ad k)) 12 1 = some (some s) ∧ sx σ b s (N.getD k []) := by
  obtain ⟨h1, h2, h3, h4, h5, s, h6, h7⟩ := h.2.1 k hk
  exact ⟨s, fo_gR (r := some s) h2 h6 rfl, h7⟩
theorem n_src (h : nx σ b F N ad I src) {k : Nat} (hk : k < N.length) : rb_gR (fx_mk σ b F) (some (ad k)) 12 14 = some (src k) := by
  obtain ⟨h1, h2, h3, h4, h5, s, h6, h7⟩ := h.2.1 k hk
  exact fo_gR h2 h6 rfl
theorem nx_upc (h : nx σ b F N ad I src) {k : Nat} (hk : k < N.length) {I' : Nat → Int32} {r' : Option Nat} {s : Nat} (hs : σ.1 (ad k) = (12, nrow (I k) s (src k))) (h0 : I' 0 = I k 0) : nx (upc σ (ad k) (12, nrow I' s r')) b F N ad (up1 I k I') (up1 src k r') ∧ hx σ (upc σ (ad k) (12, nrow I' s r')) ∧ gw 0 0 σ (upc σ (ad k) (12, nrow I' s r')) := by
  have hh : hx σ (upc σ (ad k) (12, nrow I' s r')) := hx_upc (hx_refl _) (Or.inr (by rw [hs]))
  refine ⟨⟨h.1, fun j hj => ?_, h.2.2⟩, hh, Nat.le_refl _, Nat.le_refl _⟩
  obtain ⟨h1, h2, h3, h4, h5, s', h6, h7⟩ := h.2.1 j hj
  refine ⟨h1, h2, h3, h4, ?_, ?_⟩
  · by_cases e : j = k
    · rw [e, up1_eq, h0, ← e]
      exact h5
    · rw [up1_ne e]
      exact h5
  · by_cases e : j = k
    · subst e
      rw [hs] at h6
      injection h6 with _ h6
      injection h6 with _ h6
      injection h6 with h6 _
      injection h6 with h6
      subst h6
      exact ⟨s, by rw [upc_at, up1_eq, up1_eq], sx_hx h7 hh⟩
    · refine ⟨s', ?_, sx_hx h7 hh⟩
      rw [upc_ne (fun e2 => e (h.2.2 j k hj hk e2)), up1_ne e, up1_ne e]
      exact h6
theorem up1_self {α : Type} (f : Nat → α) (k : Nat) : up1 f k (f k) = f := by
  funext j
  unfold up1
  split
  · rename_i e
    rw [e]
  · rfl
theorem n_pI (h : nx σ b F N ad I src) {k : Nat} (hk : k < N.length) {f : Nat} (hf : nfd f) (hf0 : f ≠ 0) (x : Int32) : ∃ σ', rb_pI (fx_mk σ b F) (some (ad k)) 12 f x = some (fx_mk σ' b F) ∧ nx σ' b F N ad (up2 I k f x) src ∧ hx σ σ' ∧ gw 0 0 σ σ' := by
  obtain ⟨h1, h2, h3, h4, h5, s, h6, h7⟩ := h.2.1 k hk
  have hp := fo_pI (F := F) (x := x) h2 h3 h6 (show f < (nrow (I k) s (src k)).length by show f < 16; exact hf.1)
  rw [nrow_set hf] at hp
  have := nx_upc h hk (I' := up1 (I k) f x) (r' := src k) h6 (up1_ne (fun e => hf0 e.symm))
  rw [up1_self] at this
  exact ⟨_, hp, this⟩
theorem n_pZ (h : nx σ b F N ad I src) {k : Nat} (hk : k < N.length) {f : Nat} (hf : nfd f) (hf0 : f ≠ 0) (x : Bool) : ∃ σ', rb_pZ (fx_mk σ b F) (some (ad k)) 12 f (nI (b2 x)) = some (fx_mk σ' b F) ∧ nx σ' b F N ad (up2 I k f (nI (b2 x))) src ∧ hx σ σ' ∧ gw 0 0 σ σ' := by
  obtain ⟨σ', e1, e2⟩ := n_pI (σ := σ) (F := F) h hk hf hf0 (nI (b2 x))
  refine ⟨σ', ?_, e2⟩
  unfold rb_pZ
  rw [if_pos (isZ_b2 x)]
  exact e1
theorem n_pR (h : nx σ b F N ad I src) {k : Nat} (hk : k < N.length) (r : Option Nat) : ∃ σ', rb_pR (fx_mk σ b F) (some (ad k)) 12 14 r = some (fx_mk σ' b F) ∧ nx σ' b F N ad I (up1 src k r) ∧ hx σ σ' ∧ gw 0 0 σ σ' := by
  obtain ⟨h1, h2, h3, h4, h5, s, h6, h7⟩ := h.2.1 k hk
  have hp := fo_pR (F := F) (r := r) (k := 14) h2 h3 h6 (show 14 < (nrow (I k) s (src k)).length by show 14 < 16; decide)
  rw [nrow_src] at hp
  have := nx_upc h hk (I' := I k) (r' := r) h6 rfl
  rw [up1_self] at this
  exact ⟨_, hp, this⟩
theorem bR_of {β : Type} {row : List (Option Nat)} {i : Int32} {j : Nat} {x : Option Nat} (hi : i = nI j) (hj : j < 2147483648) (h : row[j]? = some x) (k : Option Nat → Option β) : (fx_ixR row i).bind k = k x := by
  rw [hi, u_ixR hj, h]
  rfl
theorem c_find (hN : nok N) (hF : fx_ln F) (h : nx σ b F N ad I src) {o : Nat} (ho : tO o) {l : List Nat} (ht : tw F o l) (hc : ∀ c, c ∈ l → c < 65536) {p q : Nat} (hpq : p ≤ q) (hq : q ≤ l.length) : f_Store_find (some (fx_ad b 3)) (some (fx_ad b o)) (nI p) (nI q) (fx_mk σ b F) = some (some (va_rf ((nf N (slc l p q)).map ad)), fx_mk σ b F) := by
  have h32 := hN.1
  unfold f_Store_find
  have hloop := it_fim2 (body := fun z : Int32 × rb_St => f_Store_find_b3 (some (fx_ad b 3)) (some (fx_ad b o)) (nI p) (nI q) z.1 z.2) (n := N.length) (s0 := fx_mk σ b F) (fun k => decide (N.getD k [] = slc l p q)) (fun k => some (some (va_rf (if k < N.length then some (ad k) else none)), fx_mk σ b F)) ?_ ?_ (k := 0) (Nat.zero_le _)
  · refine Eq.trans hloop ?_
    unfold nf fi
    rw [Nat.sub_zero]
    cases hs : sr (fun k => decide (N.getD k [] = slc l p q)) N.length 0 with
    | none =>
      simp only
      rw [if_neg (by omega)]
      rfl
    | some j =>
      have := sr_some hs
      simp only
      rw [if_pos (by omega)]
      rfl
  · intro k hk
    obtain ⟨s, g1, g2⟩ := n_sp (F := F) h hk
    have hrow := (h.2.1 k hk).1
    have hlen := c_len (F := F) g2
    obtain ⟨v, rest, k1, k2, k3, k4, k5, k6⟩ := g2.2.2
    have hfc := fo_fk (F := F) g2.1 k3
    have hh := c_holds (σ := σ) (b := b) ho hF ht hc g2 hpq hq
    show f_Store_find_b3 _ _ _ _ _ _ = _
    unfold f_Store_find_b3
    simp (disch := omega) only [↓fx_bc, h.1, ↓bR_of rfl (show k < 2147483648 by omega) hrow, ↓reduceIte, n_ltT, n_ltF, n_leT, n_leF, n_eqT, n_eqF, nI_1, u_lt, u_le, u_eq, u_add, u_ix, u_ixL, u_ixR, u_cl, u_nm1, u_nm1', u_m1l, u_m1n, u_l0, Option.bind_some, Option.map_some, not_true_eq_false, not_false_eq_true, true_and, and_true, Nat.add_sub_cancel, Bool.false_eq_true, u_nar2]
    rw [g1, Option.bind_some, hfc, Option.bind_some, cI_of hlen]
    have hh0 : f_Text_holds (some (fx_ad b o)) (nI p) (nI q) (some s) (nI 0) (nI (N.getD k []).length) (fx_mk σ b F) = some (some (.int (nI (b2 (decide (slc l p q = N.getD k []))))), fx_mk σ b F) := hh
    simp only [↓t_b ho, ↓cI_of hh0]
    by_cases e : N.getD k [] = slc l p q
    · rw [decide_eq_true e.symm, decide_eq_true e, b2_t, if_pos rfl, if_neg (show ¬ nI 1 = nI 0 by decide)]
      simp (disch := omega) only [↓fx_bc, ↓bR_of rfl (show k < 2147483648 by omega) hrow, Option.map_some]
    · rw [decide_eq_false (show ¬ slc l p q = N.getD k [] from fun e2 => e e2.symm), decide_eq_false e, b2_f, if_neg (show ¬ false = true by decide), if_pos rfl]
  · show f_Store_find_b3 _ _ _ _ _ _ = _
    unfold f_Store_find_b3
    simp (disch := omega) only [↓fx_bc, h.1, ↓reduceIte, n_ltT, n_ltF, n_leT, n_leF, n_eqT, n_eqF, nI_1, u_lt, u_le, u_eq, u_add, u_ix, u_ixL, u_ixR, u_cl, u_nm1, u_nm1', u_m1l, u_m1n, u_l0, Option.bind_some, Option.map_some, not_true_eq_false, not_false_eq_true, true_and, and_true, Nat.add_sub_cancel, Bool.false_eq_true, u_nar2]
end
