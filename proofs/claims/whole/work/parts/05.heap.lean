/-! what the instructions that touch the heap do, as functions -/
def rb_fc (σ : rb_St) (r : Option Nat) (t : Nat) : Option (List Value) := r.bind fun a => if (σ.1 a).1 = t then some (σ.1 a).2 else none
def rb_int (o : Option Value) : Option Int32 := match o with
  | some (.int x) => some x
  | _ => none
def rb_lng (o : Option Value) : Option Int64 := match o with
  | some (.long x) => some x
  | _ => none
def rb_rfo (o : Option Value) : Option (Option Nat) := match o with
  | some .null => some none
  | some (.ref a) => some (some a)
  | _ => none
def rb_gI (σ : rb_St) (r : Option Nat) (t k : Nat) : Option Int32 := (rb_fc σ r t).bind fun l => rb_int l[k]?
def rb_gR (σ : rb_St) (r : Option Nat) (t k : Nat) : Option (Option Nat) := (rb_fc σ r t).bind fun l => rb_rfo l[k]?
def rb_set (σ : rb_St) (a : Nat) (l : List Value) : rb_St := (fun q => if q = a then ((σ.1 a).1, l) else σ.1 q, σ.2)
def rb_pV (σ : rb_St) (r : Option Nat) (t k : Nat) (v : Value) : Option rb_St := r.bind fun a => if (σ.1 a).1 = t ∧ rb_b σ ≤ a ∧ k < (σ.1 a).2.length then some (rb_set σ a ((σ.1 a).2.set k v)) else none
def rb_pI (σ : rb_St) (r : Option Nat) (t k : Nat) (x : Int32) : Option rb_St := rb_pV σ r t k (.int x)
def rb_pZ (σ : rb_St) (r : Option Nat) (t k : Nat) (x : Int32) : Option rb_St := if x = 0 ∨ x = 1 then rb_pV σ r t k (.int x) else none
def rb_pB (σ : rb_St) (r : Option Nat) (t k : Nat) (x : Int32) : Option rb_St := if x = 0 ∨ x = 1 then rb_pV σ r t k (.int x) else none
def rb_pR (σ : rb_St) (r : Option Nat) (t k : Nat) (r2 : Option Nat) : Option rb_St := rb_pV σ r t k (va_rf r2)
def rb_len (σ : rb_St) (r : Option Nat) (t : Nat) : Option Int32 := (rb_fc σ r t).map fun l => nI l.length
def rb_ix (l : List Value) (i : Int32) : Option Value := if i < 0 then none else l[i.toNatClampNeg]?
def rb_aI (σ : rb_St) (r : Option Nat) (t : Nat) (i : Int32) : Option Int32 := (rb_fc σ r t).bind fun l => rb_int (rb_ix l i)
def rb_aL (σ : rb_St) (r : Option Nat) (t : Nat) (i : Int32) : Option Int64 := (rb_fc σ r t).bind fun l => rb_lng (rb_ix l i)
def rb_aR (σ : rb_St) (r : Option Nat) (t : Nat) (i : Int32) : Option (Option Nat) := (rb_fc σ r t).bind fun l => rb_rfo (rb_ix l i)
def rb_sV (σ : rb_St) (r : Option Nat) (t : Nat) (i : Int32) (v : Value) : Option rb_St := r.bind fun a => if (σ.1 a).1 = t ∧ rb_b σ ≤ a ∧ ¬ i < 0 ∧ i.toNatClampNeg < (σ.1 a).2.length then some (rb_set σ a ((σ.1 a).2.set i.toNatClampNeg v)) else none
def rb_sI (σ : rb_St) (r : Option Nat) (t : Nat) (i x : Int32) : Option rb_St := rb_sV σ r t i (narrow (rb_aty t) (.int x))
def rb_sL (σ : rb_St) (r : Option Nat) (t : Nat) (i : Int32) (x : Int64) : Option rb_St := rb_sV σ r t i (.long x)
/-- the kind of the things in an array of references -/
def rb_ce (t : Nat) : Nat := match t with
  | 111 => 10
  | 112 => 12
  | _ => 11
def rb_sR (σ : rb_St) (r : Option Nat) (t : Nat) (i : Int32) (r2 : Option Nat) : Option rb_St := match r2 with
  | none => rb_sV σ r t i .null
  | some b => if (σ.1 b).1 = rb_ce t then rb_sV σ r t i (.ref b) else none
/-- a new cell -/
def rb_push (σ : rb_St) (t : Nat) (l : List Value) (n : Nat) : rb_St := (fun q => if q = rb_n σ then (t, l) else σ.1 q, rb_b σ, rb_n σ + 1, rb_s σ + n, rb_k σ)
def rb_nO (σ : rb_St) (t : Nat) : rb_St := rb_push σ t (rb_df t) (rb_nS t)
def rb_nA (σ : rb_St) (t : Nat) (n : Int32) : Option rb_St := if ¬ n < 0 ∧ n.toNatClampNeg ≤ 100000 then some (rb_push σ t (List.replicate n.toNatClampNeg (defaultValue (rb_aty t))) n.toNatClampNeg) else none
/-- calls -/
def rb_cI {α : Type} (c : Option rb_Rs) (k : Int32 → rb_St → Option α) : Option α := match c with
  | some (some (.int x), σ) => k x σ
  | _ => none
def rb_cL {α : Type} (c : Option rb_Rs) (k : Int64 → rb_St → Option α) : Option α := match c with
  | some (some (.long x), σ) => k x σ
  | _ => none
def rb_cR {α : Type} (c : Option rb_Rs) (k : Option Nat → rb_St → Option α) : Option α := match c with
  | some (some .null, σ) => k none σ
  | some (some (.ref a), σ) => k (some a) σ
  | _ => none
def rb_cV {α : Type} (c : Option rb_Rs) (k : rb_St → Option α) : Option α := match c with
  | some (none, σ) => k σ
  | _ => none
theorem rb_fc_s {σ : rb_St} {r : Option Nat} {t : Nat} {l : List Value} (h : rb_fc σ r t = some l) : ∃ a, r = some a ∧ σ.1 a = (t, l) := by
  cases r with
  | none => cases h
  | some a =>
    refine ⟨a, rfl, ?_⟩
    simp only [rb_fc, Option.bind_some] at h
    split at h
    · rename_i e
      simp only [Option.some.injEq] at h
      rw [← e, ← h]
    · cases h
theorem rb_int_s {o : Option Value} {x : Int32} (h : rb_int o = some x) : o = some (.int x) := by
  unfold rb_int at h
  split at h
  · cases h; rfl
  · cases h
theorem rb_lng_s {o : Option Value} {x : Int64} (h : rb_lng o = some x) : o = some (.long x) := by
  unfold rb_lng at h
  split at h
  · cases h; rfl
  · cases h
theorem rb_rfo_s {o : Option Value} {r : Option Nat} (h : rb_rfo o = some r) : o = some (va_rf r) := by
  unfold rb_rfo at h
  split at h
  · cases h; rfl
  · cases h; rfl
  · cases h
theorem rb_pV_s {σ σ' : rb_St} {r : Option Nat} {t k : Nat} {v : Value} (h : rb_pV σ r t k v = some σ') : ∃ a, r = some a ∧ (σ.1 a).1 = t ∧ rb_b σ ≤ a ∧ k < (σ.1 a).2.length ∧ σ' = rb_set σ a ((σ.1 a).2.set k v) := by
  cases r with
  | none => cases h
  | some a =>
    simp only [rb_pV, Option.bind_some] at h
    split at h
    · rename_i e
      simp only [Option.some.injEq] at h
      exact ⟨a, rfl, e.1, e.2.1, e.2.2, h.symm⟩
    · cases h
theorem rb_sV_s {σ σ' : rb_St} {r : Option Nat} {t : Nat} {i : Int32} {v : Value} (h : rb_sV σ r t i v = some σ') : ∃ a, r = some a ∧ (σ.1 a).1 = t ∧ rb_b σ ≤ a ∧ ¬ i < 0 ∧ i.toNatClampNeg < (σ.1 a).2.length ∧ σ' = rb_set σ a ((σ.1 a).2.set i.toNatClampNeg v) := by
  cases r with
  | none => cases h
  | some a =>
    simp only [rb_sV, Option.bind_some] at h
    split at h
    · rename_i e
      simp only [Option.some.injEq] at h
      exact ⟨a, rfl, e.1, e.2.1, e.2.2.1, e.2.2.2, h.symm⟩
    · cases h
theorem rb_n_set (σ : rb_St) (a : Nat) (l : List Value) : rb_n (rb_set σ a l) = rb_n σ := rfl
theorem rb_s_set (σ : rb_St) (a : Nat) (l : List Value) : rb_s (rb_set σ a l) = rb_s σ := rfl
/-- an object's cell -/
theorem rb_obj {E : rb_EV} {σ : rb_St} {H : Heap} (hR : rb_Rep E σ H) {a t : Nat} (h : (σ.1 a).1 = t) (h0 : t ≠ 0) (h1 : t < 100) : ∃ cell : Cell, H[a]? = some cell ∧ cell.vm.isStatics = false ∧ cell.vm ≠ .unknown ∧ ((rb_H0 E).size ≤ a → cell.vm = .none) ∧ cell.cls = rb_dC E t ∧ (∃ q, rb_ct[t - 1]? = some q ∧ (σ.1 a).2.length ≤ q.2.2) ∧ ∀ k v, (σ.1 a).2[k]? = some v → cell.slots[rb_dI E t k]? = some v := by
  rcases hR.2.2.2.2.2 a with hc | ⟨cell, g1, g2, g3, g4, hh⟩
  · exact absurd (h.symm.trans hc) h0
  · rcases hh with ⟨_, g5, g6, g7⟩ | ⟨g5, _⟩
    · rw [h] at g5 g6 g7
      exact ⟨cell, g1, g2, g3, g4, g5, g6, g7⟩
    · rw [h] at g5
      simp only [rb_ats, List.mem_cons, List.not_mem_nil, or_false] at g5
      omega
theorem rb_arr {E : rb_EV} {σ : rb_St} {H : Heap} (hR : rb_Rep E σ H) {a t : Nat} (h : (σ.1 a).1 = t) (h0 : t ∈ rb_ats) : ∃ cell : Cell, H[a]? = some cell ∧ cell.vm.isStatics = false ∧ cell.vm ≠ .unknown ∧ ((rb_H0 E).size ≤ a → cell.vm = .none) ∧ ((∀ U, rb_Kn E U → U.isArrayOf cell (rb_aty t)) ∧ (110 < t → cell.cls = rb_aC E t)) ∧ cell.slots = (σ.1 a).2.toArray := by
  rcases hR.2.2.2.2.2 a with hc | ⟨cell, g1, g2, g3, g4, hh⟩
  · rw [h] at hc
    rw [hc] at h0
    simp [rb_ats] at h0
  · rcases hh with ⟨g5, _⟩ | ⟨_, g5, g6⟩
    · rw [h] at g5
      simp only [rb_ats, List.mem_cons, List.not_mem_nil, or_false] at h0
      omega
    · rw [h] at g5
      exact ⟨cell, g1, g2, g3, g4, g5, g6⟩
theorem rb_isArr0 {E : rb_EV} {s : State} (hK : rb_Kn E s) {t : Nat} (ht : t ∈ rb_ats) {cell : Cell} (hc : cell.cls = rb_aC E t) (hv : cell.vm.isStatics = false) : s.isArrayOf cell (rb_aty t) := by
  obtain ⟨k, hk⟩ := List.getElem?_of_mem ht
  have := (hK.1.2 k (rb_aC E t, rb_aty t) (by rw [rb_ys, List.getElem?_map, hk]; rfl)).1 0 (fun _ => .null)
  obtain ⟨h1, kk, h2, comp, h3⟩ := this
  exact ⟨fun z hz => (by rw [hz] at hv; cases hv), kk, (by rw [hc]; exact h2), comp, h3⟩
theorem rb_isArr {E : rb_EV} {s : State} (hK : rb_Kn E s) {t : Nat} (_ : t ∈ rb_ats) {cell : Cell} (hc : (∀ U, rb_Kn E U → U.isArrayOf cell (rb_aty t)) ∧ (110 < t → cell.cls = rb_aC E t)) (_ : cell.vm.isStatics = false) : s.isArrayOf cell (rb_aty t) := hc.1 s hK
/-- one cell changed: the rest stays -/
theorem rb_Rep.upd {E : rb_EV} {σ : rb_St} {H H' : Heap} (hR : rb_Rep E σ H) {a : Nat} {l : List Value} (ha : rb_b σ ≤ a) (hz : H'.size = H.size) (hq : ∀ q, q ≠ a → H'[q]? = H[q]?) (hc : rb_Ok E ((σ.1 a).1, l) a H') : rb_Rep E (rb_set σ a l) H' := by
  obtain ⟨r1, r2, r3, r4, r5, r6⟩ := hR
  refine ⟨hz.trans r1, r2, r3, fun q hq2 => ?_, r5, fun q => ?_⟩
  · have hq3 : q < rb_b σ := hq2
    rw [hq q (by omega)]
    exact r4 q hq3
  · show rb_Ok E (if q = a then ((σ.1 a).1, l) else σ.1 q) q H'
    by_cases e : q = a
    · rw [if_pos e, e]; exact hc
    · rw [if_neg e]
      rcases r6 q with h | ⟨cell, g1, g⟩
      · exact Or.inl h
      · exact Or.inr ⟨cell, by rw [hq q e]; exact g1, g⟩
theorem rb_Rep.new {E : rb_EV} {σ : rb_St} {H H' : Heap} (hR : rb_Rep E σ H) {t n : Nat} {l : List Value} (hz : H'.size = rb_n σ + 1) (hq : ∀ q, q < rb_n σ → H'[q]? = H[q]?) (hc : rb_Ok E (t, l) (rb_n σ) H') : rb_Rep E (rb_push σ t l n) H' := by
  obtain ⟨r1, r2, r3, r4, r5, r6⟩ := hR
  refine ⟨hz, r2, Nat.le_trans r3 (Nat.le_succ _), fun q hq2 => ?_, r5, fun q => ?_⟩
  · have hq3 : q < rb_b σ := hq2
    rw [hq q (by omega)]
    exact r4 q hq3
  · show rb_Ok E (if q = rb_n σ then (t, l) else σ.1 q) q H'
    by_cases e : q = rb_n σ
    · rw [if_pos e, e]; exact hc
    · rw [if_neg e]
      rcases r6 q with h | ⟨cell, g1, g⟩
      · exact Or.inl h
      · have hl : q < H.size := (Array.getElem?_eq_some_iff.mp g1).1
        exact Or.inr ⟨cell, by rw [hq q (by omega)]; exact g1, g⟩
