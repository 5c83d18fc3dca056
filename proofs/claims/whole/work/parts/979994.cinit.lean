/-! the two constructors -/
def mks (σ : rb_St) (C : Nat → Nat × List Value) (m s : Nat) : rb_St := (fun q => if rb_n σ ≤ q ∧ q < rb_n σ + m then C (q - rb_n σ) else σ.1 q, rb_b σ, rb_n σ + m, s, rb_k σ)
theorem mks_push (σ : rb_St) (C : Nat → Nat × List Value) (m s t n : Nat) (l : List Value) : rb_push (mks σ C m s) t l n = mks σ (up1 C m (t, l)) (m + 1) (s + n) := by
  unfold rb_push mks
  refine Prod.ext ?_ rfl
  funext q
  show (if q = rb_n σ + m then (t, l) else if rb_n σ ≤ q ∧ q < rb_n σ + m then C (q - rb_n σ) else σ.1 q) = if rb_n σ ≤ q ∧ q < rb_n σ + (m + 1) then up1 C m (t, l) (q - rb_n σ) else σ.1 q
  by_cases e : q = rb_n σ + m
  · rw [if_pos e, if_pos (by omega), show q - rb_n σ = m by omega, up1_eq]
  · rw [if_neg e]
    by_cases e2 : rb_n σ ≤ q ∧ q < rb_n σ + m
    · rw [if_pos e2, if_pos (by omega), up1_ne (by omega)]
    · rw [if_neg e2, if_neg (by omega)]
theorem mks_nO (σ : rb_St) (C : Nat → Nat × List Value) (m s t : Nat) : rb_nO (mks σ C m s) t = mks σ (up1 C m (t, rb_df t)) (m + 1) (s + rb_nS t) := mks_push σ C m s t (rb_nS t) (rb_df t)
theorem mks_nA (σ : rb_St) (C : Nat → Nat × List Value) (m s t : Nat) {n : Nat} (hn : n ≤ 100000) : rb_nA (mks σ C m s) t (nI n) = some (mks σ (up1 C m (t, List.replicate n (defaultValue (rb_aty t)))) (m + 1) (s + n)) := by
  unfold rb_nA
  rw [u_cl (by omega), if_pos ⟨by rw [u_l0, u_lt (by omega) (by omega)]; omega, hn⟩, mks_push]
theorem mks_at (σ : rb_St) (C : Nat → Nat × List Value) (m s : Nat) {j : Nat} (hj : j < m) : (mks σ C m s).1 (rb_n σ + j) = C j := by
  show (if rb_n σ ≤ rb_n σ + j ∧ rb_n σ + j < rb_n σ + m then C (rb_n σ + j - rb_n σ) else σ.1 (rb_n σ + j)) = C j
  rw [if_pos (by omega), Nat.add_sub_cancel_left]
theorem mks_pV {σ : rb_St} (hb : rb_b σ ≤ rb_n σ) (C : Nat → Nat × List Value) (m s : Nat) {j : Nat} (hj : j < m) {T : Nat} {row : List Value} (hC : C j = (T, row)) {k : Nat} (hk : k < row.length) (v : Value) : rb_pV (mks σ C m s) (some (rb_n σ + j)) T k v = some (mks σ (up1 C j (T, row.set k v)) m s) := by
  unfold rb_pV
  rw [Option.bind_some, mks_at σ C m s hj, hC, if_pos ⟨rfl, by show rb_b σ ≤ rb_n σ + j; omega, hk⟩]
  congr 1
  unfold rb_set
  refine Prod.ext ?_ rfl
  funext q
  show (if q = rb_n σ + j then (((mks σ C m s).1 (rb_n σ + j)).1, row.set k v) else (mks σ C m s).1 q) = (mks σ (up1 C j (T, row.set k v)) m s).1 q
  by_cases e : q = rb_n σ + j
  · rw [if_pos e, e, mks_at σ C m s hj, mks_at σ _ m s hj, up1_eq, hC]
  · rw [if_neg e]
    show (if rb_n σ ≤ q ∧ q < rb_n σ + m then C (q - rb_n σ) else σ.1 q) = if rb_n σ ≤ q ∧ q < rb_n σ + m then up1 C j (T, row.set k v) (q - rb_n σ) else σ.1 q
    by_cases e2 : rb_n σ ≤ q ∧ q < rb_n σ + m
    · rw [if_pos e2, if_pos e2, up1_ne (by omega)]
    · rw [if_neg e2, if_neg e2]
theorem mks_gR {σ : rb_St} (C : Nat → Nat × List Value) (m s : Nat) {j : Nat} (hj : j < m) {T : Nat} {row : List Value} (hC : C j = (T, row)) {k : Nat} {r : Option Nat} (hk : rb_rfo row[k]? = some r) : rb_gR (mks σ C m s) (some (rb_n σ + j)) T k = some r := by
  unfold rb_gR rb_fc
  rw [Option.bind_some, mks_at σ C m s hj, hC, if_pos rfl, Option.bind_some]
  exact hk
/-- arrays made, and their addresses kept in an object -/
def naf (a T : Nat) (K : rb_St → Option rb_Rs) : List (Nat × Nat × Nat) → rb_St → Option rb_Rs
  | [], τ => K τ
  | (t, n, k) :: L, τ => (rb_nA τ t (nI n)).bind fun τ1 => (rb_pR τ1 (some a) T k (some (rb_n τ))).bind fun τ2 => naf a T K L τ2
def rws (B : Nat) : Nat → List (Nat × Nat × Nat) → List Value → List Value
  | _, [], row => row
  | m, (_, _, k) :: L, row => rws B (m + 1) L (row.set k (.ref (B + m)))
def smn : List (Nat × Nat × Nat) → Nat
  | [] => 0
  | (_, n, _) :: L => n + smn L
theorem naf_run {σ : rb_St} (hb : rb_b σ ≤ rb_n σ) (T j : Nat) (K : rb_St → Option rb_Rs) : ∀ (L : List (Nat × Nat × Nat)) (C : Nat → Nat × List Value) (m s : Nat) (row : List Value), j < m → C j = (T, row) → (∀ x, x ∈ L → x.2.2 < row.length ∧ x.2.1 ≤ 100000) → ∃ C', naf (rb_n σ + j) T K L (mks σ C m s) = K (mks σ C' (m + L.length) (s + smn L)) ∧ (∀ i, i < m → i ≠ j → C' i = C i) ∧ C' j = (T, rws (rb_n σ) m L row) ∧ ∀ i, i < L.length → C' (m + i) = ((L.getD i (0, 0, 0)).1, List.replicate (L.getD i (0, 0, 0)).2.1 (defaultValue (rb_aty (L.getD i (0, 0, 0)).1)))
  | [], C, m, s, row, hj, hC, _ => ⟨C, rfl, fun _ _ _ => rfl, hC, fun i hi => absurd hi (Nat.not_lt_zero _)⟩
  | (t, n, k) :: L, C, m, s, row, hj, hC, hL => by
    have h0 := hL (t, n, k) (List.mem_cons_self ..)
    have hC1 : up1 C m (t, List.replicate n (defaultValue (rb_aty t))) j = (T, row) := by
      rw [up1_ne (by omega)]
      exact hC
    have hpR : rb_pR (mks σ (up1 C m (t, List.replicate n (defaultValue (rb_aty t)))) (m + 1) (s + n)) (some (rb_n σ + j)) T k (some (rb_n (mks σ C m s))) = some (mks σ (up1 (up1 C m (t, List.replicate n (defaultValue (rb_aty t)))) j (T, row.set k (.ref (rb_n σ + m)))) (m + 1) (s + n)) := mks_pV hb _ (m + 1) (s + n) (by omega) hC1 h0.1 (.ref (rb_n σ + m))
    obtain ⟨C', a1, a2, a3, a4⟩ := naf_run hb T j K L (up1 (up1 C m (t, List.replicate n (defaultValue (rb_aty t)))) j (T, row.set k (.ref (rb_n σ + m)))) (m + 1) (s + n) (row.set k (.ref (rb_n σ + m))) (by omega) (up1_eq _ _ _) (fun x hx => by
      rw [List.length_set]
      exact hL x (List.mem_cons_of_mem _ hx))
    refine ⟨C', ?_, fun i hi hne => ?_, a3, fun i hi => ?_⟩
    · unfold naf
      rw [mks_nA σ C m s t h0.2, Option.bind_some, hpR, Option.bind_some, a1]
      show K (mks σ C' (m + 1 + L.length) (s + n + smn L)) = K (mks σ C' (m + (L.length + 1)) (s + (n + smn L)))
      rw [show m + 1 + L.length = m + (L.length + 1) by omega, show s + n + smn L = s + (n + smn L) by omega]
    · rw [a2 i (by omega) hne, up1_ne hne, up1_ne (by omega)]
    · cases i with
      | zero =>
        rw [Nat.add_zero, a2 m (by omega) (by omega), up1_ne (by omega), up1_eq]
        rfl
      | succ i =>
        rw [List.length_cons] at hi
        have := a4 i (by omega)
        rw [show m + (i + 1) = m + 1 + i by omega, this]
        rfl
/-- what the cells hold at first -/
def F00 : fx_F := (fun z => if z = 511 then -1 else 0, fun o => List.replicate (fx_cI o) 0, fun o => List.replicate (fx_cL o) 0, fun _ => none, fun o => List.replicate (fx_cR o) none)
theorem F00_ln : fx_ln F00 := ⟨fun o => List.length_replicate, fun o => List.length_replicate, fun o => List.length_replicate⟩
def gcl (B i : Nat) : Nat × List Value := (fx_t i, fx_row B F00 i)
/-- the cells so far: the first one, and the others as they stay -/
def inv (B : Nat) (C : Nat → Nat × List Value) (m : Nat) (row : List Value) : Prop := C 0 = (1, row) ∧ ∀ i, 1 ≤ i → i < m → C i = gcl B i
theorem naf_text (a : Nat) (n : Nat) (τ : rb_St) : f_Text_init a (nI n) τ = naf a 2 (fun τ => some (none, τ)) [(101, n, 0)] τ := (rfl)
section
variable {σ : rb_St}
/-- an object made of arrays alone -/
theorem obj_run (hb : rb_b σ ≤ rb_n σ) {C : Nat → Nat × List Value} {m s : Nat} (t : Nat) (L : List (Nat × Nat × Nat)) (K : rb_St → Option rb_Rs) (hL : ∀ x, x ∈ L → x.2.2 < (rb_df t).length ∧ x.2.1 ≤ 100000) : ∃ C', naf (rb_n σ + m) t K L (rb_nO (mks σ C m s) t) = K (mks σ C' (m + 1 + L.length) (s + rb_nS t + smn L)) ∧ (∀ i, i < m → C' i = C i) ∧ C' m = (t, rws (rb_n σ) (m + 1) L (rb_df t)) ∧ ∀ i, i < L.length → C' (m + 1 + i) = ((L.getD i (0, 0, 0)).1, List.replicate (L.getD i (0, 0, 0)).2.1 (defaultValue (rb_aty (L.getD i (0, 0, 0)).1))) := by
  rw [mks_nO]
  obtain ⟨C', a1, a2, a3, a4⟩ := naf_run hb t m K L (up1 C m (t, rb_df t)) (m + 1) (s + rb_nS t) (rb_df t) (by omega) (up1_eq _ _ _) hL
  exact ⟨C', a1, fun i hi => by rw [a2 i (by omega) (by omega), up1_ne (by omega)], a3, a4⟩
theorem text_run (hb : rb_b σ ≤ rb_n σ) {C : Nat → Nat × List Value} {m s : Nat} {n : Nat} (hn : n ≤ 100000) : ∃ C', f_Text_init (rb_n σ + m) (nI n) (rb_nO (mks σ C m s) 2) = some (none, mks σ C' (m + 2) (s + 2 + n)) ∧ (∀ i, i < m → C' i = C i) ∧ C' m = (2, [.ref (rb_n σ + (m + 1)), .int 0]) ∧ C' (m + 1) = (101, List.replicate n (.int 0)) := by
  obtain ⟨C', a1, a2, a3, a4⟩ := obj_run (σ := σ) hb (C := C) (m := m) (s := s) 2 [(101, n, 0)] (fun τ => some (none, τ)) (fun x hx => by
    rw [List.mem_singleton.mp hx]
    exact ⟨by show 0 < 2; decide, hn⟩)
  exact ⟨C', a1, a2, a3, a4 0 (Nat.zero_lt_succ _)⟩
end
abbrev LM : List (Nat × Nat × Nat) := [(102, 320, 0), (103, 32, 3), (104, 32, 4), (102, 32, 5), (102, 32, 6), (104, 26, 8), (102, 416, 9), (102, 26, 10), (104, 26, 11), (102, 26, 12), (102, 26, 13), (102, 320, 14), (102, 321, 15), (103, 6, 17), (104, 32, 19), (104, 32, 20), (104, 32, 21), (104, 32, 24), (102, 32, 25), (102, 80, 27), (102, 80, 28), (102, 30, 30), (102, 30, 31), (102, 30, 32), (103, 8, 34), (103, 8, 35), (102, 8, 36), (102, 120, 43), (102, 60, 45), (102, 60, 46), (102, 7, 49), (102, 7, 50), (102, 7, 51), (102, 7, 52), (102, 7, 53), (102, 7, 54), (102, 7, 55), (102, 32, 57), (104, 32, 58), (104, 32, 59), (102, 32, 60), (102, 32, 61), (103, 32, 62), (102, 32, 63), (104, 32, 64), (102, 32, 65), (104, 81, 67), (102, 400, 71)]
