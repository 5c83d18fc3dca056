/-! the class: cells that are made later -/
/-- outside the cells at fixed distances -/
def wx (b q : Nat) : Prop := ¬ (b ≤ q ∧ q < b + 83)
def upc (σ : rb_St) (q : Nat) (c : Nat × List Value) : rb_St := (fun a => if a = q then c else σ.1 a, σ.2)
section
variable {σ : rb_St} {b : Nat} {F : fx_F}
theorem fo_fc {q t : Nat} (h : wx b q) : rb_fc (fx_mk σ b F) (some q) t = rb_fc σ (some q) t := by
  unfold rb_fc
  simp only [Option.bind_some]
  rw [fx_out h]
theorem fo_gI {q t k : Nat} {l : List Value} {x : Int32} (h : wx b q) (hc : σ.1 q = (t, l)) (hk : l[k]? = some (.int x)) : rb_gI (fx_mk σ b F) (some q) t k = some x := by
  unfold rb_gI
  rw [fo_fc h]
  simp only [rb_fc, Option.bind_some, hc, if_true, hk]
  rfl
theorem fo_gR {q t k : Nat} {l : List Value} {r : Option Nat} (h : wx b q) (hc : σ.1 q = (t, l)) (hk : l[k]? = some (va_rf r)) : rb_gR (fx_mk σ b F) (some q) t k = some r := by
  unfold rb_gR
  rw [fo_fc h]
  simp only [rb_fc, Option.bind_some, hc, if_true, hk]
  exact fx_rfo r
theorem fo_fk {q t : Nat} {l : List Value} (h : wx b q) (hc : σ.1 q = (t, l)) : rb_fc (fx_mk σ b F) (some q) t = some l := by
  rw [fo_fc h]
  simp only [rb_fc, Option.bind_some, hc, if_true]
theorem fo_len {q t : Nat} {l : List Value} (h : wx b q) (hc : σ.1 q = (t, l)) : rb_len (fx_mk σ b F) (some q) t = some (nI l.length) := by
  unfold rb_len
  rw [fo_fk h hc]
  rfl
theorem fo_aI {q t i : Nat} {l : List Value} {x : Int32} (h : wx b q) (hc : σ.1 q = (t, l)) (hi : i < 2147483648) (hk : l[i]? = some (.int x)) : rb_aI (fx_mk σ b F) (some q) t (nI i) = some x := by
  unfold rb_aI rb_ix
  rw [fo_fk h hc]
  simp only [Option.bind_some]
  rw [if_neg (by rw [u_l0, u_lt hi (by omega)]; omega), u_cl hi, hk]
  rfl
theorem fx_set_out {q : Nat} {l : List Value} (h : wx b q) : rb_set (fx_mk σ b F) q l = fx_mk (upc σ q ((σ.1 q).1, l)) b F := by
  unfold rb_set upc
  have h1 : (fx_mk σ b F).1 q = σ.1 q := fx_out h
  rw [h1]
  unfold fx_mk
  refine Prod.ext ?_ rfl
  funext a
  simp only
  by_cases e : a = q
  · subst e
    rw [if_pos rfl, if_neg h, if_pos rfl]
  · rw [if_neg e, if_neg e]
theorem fo_pV {q t k : Nat} {l : List Value} {v : Value} (h : wx b q) (hb : rb_b σ ≤ q) (hc : σ.1 q = (t, l)) (hk : k < l.length) : rb_pV (fx_mk σ b F) (some q) t k v = some (fx_mk (upc σ q (t, l.set k v)) b F) := by
  unfold rb_pV
  simp only [Option.bind_some]
  have h1 : (fx_mk σ b F).1 q = σ.1 q := fx_out h
  rw [h1, hc, if_pos ⟨rfl, hb, hk⟩, fx_set_out h, hc]
theorem fo_pI {q t k : Nat} {l : List Value} {x : Int32} (h : wx b q) (hb : rb_b σ ≤ q) (hc : σ.1 q = (t, l)) (hk : k < l.length) : rb_pI (fx_mk σ b F) (some q) t k x = some (fx_mk (upc σ q (t, l.set k (.int x))) b F) := fo_pV h hb hc hk
theorem fo_pR {q t k : Nat} {l : List Value} {r : Option Nat} (h : wx b q) (hb : rb_b σ ≤ q) (hc : σ.1 q = (t, l)) (hk : k < l.length) : rb_pR (fx_mk σ b F) (some q) t k r = some (fx_mk (upc σ q (t, l.set k (va_rf r))) b F) := fo_pV h hb hc hk
theorem fo_pZ {q t k : Nat} {l : List Value} {x : Bool} (h : wx b q) (hb : rb_b σ ≤ q) (hc : σ.1 q = (t, l)) (hk : k < l.length) : rb_pZ (fx_mk σ b F) (some q) t k (nI (b2 x)) = some (fx_mk (upc σ q (t, l.set k (.int (nI (b2 x))))) b F) := by
  unfold rb_pZ
  rw [if_pos (isZ_b2 x)]
  exact fo_pV h hb hc hk
theorem fo_pB {q t k : Nat} {l : List Value} (h : wx b q) (hb : rb_b σ ≤ q) (hc : σ.1 q = (t, l)) (hk : k < l.length) : rb_pB (fx_mk σ b F) (some q) t k (nI 0) = some (fx_mk (upc σ q (t, l.set k (.int (nI 0)))) b F) := by
  unfold rb_pB
  rw [if_pos (show nI 0 = 0 ∨ nI 0 = 1 from Or.inl rfl)]
  exact fo_pV h hb hc hk
/-- a new cell -/
def nwc (σ : rb_St) (c : Nat × List Value) (n : Nat) : rb_St := (fun q => if q = rb_n σ then c else σ.1 q, rb_b σ, rb_n σ + 1, rb_s σ + n, rb_k σ)
theorem fx_push {t n : Nat} {l : List Value} (h : b + 83 ≤ rb_n σ) : rb_push (fx_mk σ b F) t l n = fx_mk (nwc σ (t, l) n) b F := by
  unfold rb_push nwc fx_mk
  refine Prod.ext ?_ rfl
  funext a
  simp only
  by_cases e : a = rb_n σ
  · rw [if_pos e, if_neg (by rw [e]; omega)]
    exact (if_pos e).symm
  · rw [if_neg e]
    split
    · rfl
    · rfl
theorem fx_nO {t : Nat} (h : b + 83 ≤ rb_n σ) : rb_nO (fx_mk σ b F) t = fx_mk (nwc σ (t, rb_df t) (rb_nS t)) b F := fx_push h
theorem fx_nA {t n : Nat} (h : b + 83 ≤ rb_n σ) (hn : n ≤ 100000) : rb_nA (fx_mk σ b F) t (nI n) = some (fx_mk (nwc σ (t, List.replicate n (defaultValue (rb_aty t))) n) b F) := by
  unfold rb_nA
  rw [u_cl (by omega), if_pos ⟨by rw [u_l0, u_lt (by omega) (by omega)]; omega, hn⟩, fx_push h]
theorem nwc_at (c : Nat × List Value) (n : Nat) : (nwc σ c n).1 (rb_n σ) = c := if_pos rfl
theorem nwc_ne {c : Nat × List Value} {n q : Nat} (h : q ≠ rb_n σ) : (nwc σ c n).1 q = σ.1 q := if_neg h
theorem upc_at (q : Nat) (c : Nat × List Value) : (upc σ q c).1 q = c := if_pos rfl
theorem upc_ne {q a : Nat} {c : Nat × List Value} (h : a ≠ q) : (upc σ q c).1 a = σ.1 a := if_neg h
theorem upc_upc (q : Nat) (c d : Nat × List Value) : upc (upc σ q c) q d = upc σ q d := by
  unfold upc
  refine Prod.ext ?_ rfl
  funext a
  simp only
  split <;> rfl
theorem upc_nwc (c d : Nat × List Value) (n : Nat) : upc (nwc σ c n) (rb_n σ) d = nwc σ d n := by
  unfold upc nwc
  refine Prod.ext ?_ rfl
  funext a
  simp only
  split <;> rfl
end
/-- the heap goes on: what stands (but names) stays -/
def hx (σ σ' : rb_St) : Prop := rb_n σ ≤ rb_n σ' ∧ rb_b σ' = rb_b σ ∧ rb_k σ' = rb_k σ ∧ ∀ a, a < rb_n σ → (σ.1 a).1 ≠ 12 → σ'.1 a = σ.1 a
theorem hx_refl (σ : rb_St) : hx σ σ := ⟨Nat.le_refl _, rfl, rfl, fun _ _ _ => rfl⟩
theorem hx_trans {σ σ1 σ2 : rb_St} (h1 : hx σ σ1) (h2 : hx σ1 σ2) : hx σ σ2 := ⟨Nat.le_trans h1.1 h2.1, h2.2.1.trans h1.2.1, h2.2.2.1.trans h1.2.2.1, fun a ha ht => by
  have e := h1.2.2.2 a ha ht
  rw [h2.2.2.2 a (Nat.lt_of_lt_of_le ha h1.1) (by rw [e]; exact ht), e]⟩
/-- at most n more cells, s more places -/
def gw (n s : Nat) (σ σ' : rb_St) : Prop := rb_n σ' ≤ rb_n σ + n ∧ rb_s σ' ≤ rb_s σ + s
theorem gw_trans {n s n' s' : Nat} {σ σ1 σ2 : rb_St} (h1 : gw n s σ σ1) (h2 : gw n' s' σ1 σ2) : gw (n + n') (s + s') σ σ2 := ⟨by have := h1.1; have := h2.1; omega, by have := h1.2; have := h2.2; omega⟩
theorem gw_refl (σ : rb_St) : gw 0 0 σ σ := ⟨Nat.le_refl _, Nat.le_refl _⟩
theorem gw_mono {n s n' s' : Nat} {σ σ' : rb_St} (h : gw n s σ σ') (hn : n ≤ n') (hs : s ≤ s') : gw n' s' σ σ' := ⟨by have := h.1; omega, by have := h.2; omega⟩
theorem hx_nwc (σ : rb_St) (c : Nat × List Value) (n : Nat) : hx σ (nwc σ c n) ∧ gw 1 n σ (nwc σ c n) := ⟨⟨Nat.le_succ _, rfl, rfl, fun a ha _ => nwc_ne (by omega)⟩, Nat.le_refl _, Nat.le_refl _⟩
theorem hx_upc {σ0 σ : rb_St} (h : hx σ0 σ) {q : Nat} {c : Nat × List Value} (hq : rb_n σ0 ≤ q ∨ (σ0.1 q).1 = 12) : hx σ0 (upc σ q c) := ⟨h.1, h.2.1, h.2.2.1, fun a ha ht => by
  rw [upc_ne (fun e => ?_), h.2.2.2 a ha ht]
  subst e
  rcases hq with h1 | h1
  · omega
  · exact ht h1⟩
/-- all that stands stays -/
def hn (σ σ' : rb_St) : Prop := hx σ σ' ∧ ∀ a, a < rb_n σ → σ'.1 a = σ.1 a
theorem hn_refl (σ : rb_St) : hn σ σ := ⟨hx_refl _, fun _ _ => rfl⟩
theorem hn_trans {σ σ1 σ2 : rb_St} (h1 : hn σ σ1) (h2 : hn σ1 σ2) : hn σ σ2 := ⟨hx_trans h1.1 h2.1, fun a ha => (h2.2 a (Nat.lt_of_lt_of_le ha h1.1.1)).trans (h1.2 a ha)⟩
theorem hn_nwc (σ : rb_St) (c : Nat × List Value) (n : Nat) : hn σ (nwc σ c n) := ⟨(hx_nwc _ _ _).1, fun a ha => nwc_ne (by omega)⟩
theorem hn_upc {σ0 σ : rb_St} (h : hn σ0 σ) {q : Nat} {c : Nat × List Value} (hq : rb_n σ0 ≤ q) : hn σ0 (upc σ q c) := ⟨hx_upc h.1 (Or.inl hq), fun a ha => (upc_ne (by omega)).trans (h.2 a ha)⟩
