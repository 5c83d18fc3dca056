/-! the cells that the two constructors make, at fixed distances: their contents as numbers and rows -/
abbrev fx_F : Type := (Nat → Int32) × (Nat → List Int32) × (Nat → List Int64) × (Nat → Option Nat) × (Nat → List (Option Nat))
def fx_t (o : Nat) : Nat := match o with
  | 0 => 1
  | 1 => 2
  | 2 => 101
  | 3 => 3
  | 4 => 112
  | 5 => 4
  | 6 => 111
  | 7 => 111
  | 8 => 111
  | 9 => 102
  | 10 => 113
  | 11 => 112
  | 12 => 112
  | 13 => 5
  | 14 => 2
  | 15 => 101
  | 16 => 2
  | 17 => 101
  | 18 => 111
  | 19 => 111
  | 20 => 102
  | 21 => 6
  | 22 => 102
  | 23 => 102
  | 24 => 112
  | 25 => 7
  | 26 => 2
  | 27 => 101
  | 28 => 8
  | 29 => 2
  | 30 => 101
  | 31 => 9
  | 32 => 2
  | 33 => 101
  | 34 => 13
  | 35 => 102
  | 36 => 103
  | 37 => 104
  | 38 => 102
  | 39 => 102
  | 40 => 104
  | 41 => 102
  | 42 => 102
  | 43 => 104
  | 44 => 102
  | 45 => 102
  | 46 => 102
  | 47 => 102
  | 48 => 103
  | 49 => 104
  | 50 => 104
  | 51 => 104
  | 52 => 104
  | 53 => 102
  | 54 => 102
  | 55 => 102
  | 56 => 102
  | 57 => 102
  | 58 => 102
  | 59 => 103
  | 60 => 103
  | 61 => 102
  | 62 => 102
  | 63 => 102
  | 64 => 102
  | 65 => 102
  | 66 => 102
  | 67 => 102
  | 68 => 102
  | 69 => 102
  | 70 => 102
  | 71 => 102
  | 72 => 102
  | 73 => 104
  | 74 => 104
  | 75 => 102
  | 76 => 102
  | 77 => 103
  | 78 => 102
  | 79 => 104
  | 80 => 102
  | 81 => 104
  | 82 => 102
  | _ => 0
def fx_nf (o : Nat) : Nat := match o with
  | 0 => 8
  | 1 => 2
  | 3 => 3
  | 5 => 15
  | 13 => 7
  | 14 => 2
  | 16 => 2
  | 21 => 5
  | 25 => 3
  | 26 => 2
  | 28 => 8
  | 29 => 2
  | 31 => 8
  | 32 => 2
  | 34 => 73
  | _ => 0
/-- a field: a number (0), a reference that changes (1), or always cell n (n + 2) -/
def fx_d (z : Nat) : Nat := match z with
  | 0 => 3
  | 1 => 5
  | 2 => 7
  | 3 => 15
  | 4 => 23
  | 5 => 27
  | 6 => 30
  | 7 => 33
  | 100 => 4
  | 300 => 6
  | 500 => 8
  | 502 => 9
  | 503 => 10
  | 504 => 11
  | 506 => 12
  | 508 => 13
  | 509 => 14
  | 512 => 1
  | 1300 => 16
  | 1301 => 18
  | 1302 => 20
  | 1303 => 21
  | 1304 => 22
  | 1306 => 1
  | 1400 => 17
  | 1600 => 19
  | 2100 => 16
  | 2101 => 24
  | 2102 => 25
  | 2103 => 26
  | 2500 => 28
  | 2501 => 5
  | 2502 => 23
  | 2600 => 29
  | 2800 => 5
  | 2801 => 7
  | 2802 => 15
  | 2803 => 23
  | 2804 => 31
  | 2900 => 32
  | 3100 => 5
  | 3101 => 7
  | 3102 => 15
  | 3103 => 27
  | 3104 => 34
  | 3200 => 35
  | 3400 => 37
  | 3403 => 38
  | 3404 => 39
  | 3405 => 40
  | 3406 => 41
  | 3408 => 42
  | 3409 => 43
  | 3410 => 44
  | 3411 => 45
  | 3412 => 46
  | 3413 => 47
  | 3414 => 48
  | 3415 => 49
  | 3417 => 50
  | 3419 => 51
  | 3420 => 52
  | 3421 => 53
  | 3424 => 54
  | 3425 => 55
  | 3427 => 56
  | 3428 => 57
  | 3430 => 58
  | 3431 => 59
  | 3432 => 60
  | 3434 => 61
  | 3435 => 62
  | 3436 => 63
  | 3443 => 64
  | 3445 => 65
  | 3446 => 66
  | 3449 => 67
  | 3450 => 68
  | 3451 => 69
  | 3452 => 70
  | 3453 => 71
  | 3454 => 72
  | 3455 => 73
  | 3457 => 74
  | 3458 => 75
  | 3459 => 76
  | 3460 => 77
  | 3461 => 78
  | 3462 => 79
  | 3463 => 80
  | 3464 => 81
  | 3465 => 82
  | 3467 => 83
  | 3471 => 84
  | _ => 0
def fx_ad (b o : Nat) : Nat := b + o
def fx_v (b : Nat) (F : fx_F) (z : Nat) : Value := if fx_d z = 0 then .int (F.1 z) else if fx_d z = 1 then va_rf (F.2.2.2.1 z) else .ref (fx_ad b (fx_d z - 2))
def fx_row (b : Nat) (F : fx_F) (o : Nat) : List Value := if fx_t o < 100 then (List.range (fx_nf o)).map fun k => fx_v b F (100 * o + k) else if fx_t o = 103 then (F.2.2.1 o).map Value.long else if 110 < fx_t o then (F.2.2.2.2 o).map va_rf else (F.2.1 o).map Value.int
def fx_mk (σ : rb_St) (b : Nat) (F : fx_F) : rb_St := (fun q => if b ≤ q ∧ q < b + 83 then (fx_t (q - b), fx_row b F (q - b)) else σ.1 q, σ.2)
def fx_I (F : fx_F) (z : Nat) (x : Int32) : fx_F := (fun j => if j = z then x else F.1 j, F.2)
def fx_A (F : fx_F) (z : Nat) (l : List Int32) : fx_F := (F.1, fun j => if j = z then l else F.2.1 j, F.2.2)
def fx_L (F : fx_F) (z : Nat) (l : List Int64) : fx_F := (F.1, F.2.1, fun j => if j = z then l else F.2.2.1 j, F.2.2.2)
def fx_R (F : fx_F) (z : Nat) (r : Option Nat) : fx_F := (F.1, F.2.1, F.2.2.1, fun j => if j = z then r else F.2.2.2.1 j, F.2.2.2.2)
def fx_Q (F : fx_F) (z : Nat) (l : List (Option Nat)) : fx_F := (F.1, F.2.1, F.2.2.1, F.2.2.2.1, fun j => if j = z then l else F.2.2.2.2 j)
def fx_ix (l : List Int32) (i : Int32) : Option Int32 := if i < 0 then none else l[i.toNatClampNeg]?
def fx_ixL (l : List Int64) (i : Int32) : Option Int64 := if i < 0 then none else l[i.toNatClampNeg]?
def fx_ixR (l : List (Option Nat)) (i : Int32) : Option (Option Nat) := if i < 0 then none else l[i.toNatClampNeg]?
/-- what a row of the kind t keeps of a number -/
def fx_nar (t : Nat) (x : Int32) : Int32 := if t = 104 then x &&& 1 else if t = 101 then x.toUInt32.toUInt16.toUInt32.toInt32 else x
theorem fx_rfo (r : Option Nat) : rb_rfo (some (va_rf r)) = some r := by cases r <;> rfl
section FX
variable {σ : rb_St} {b : Nat} {F : fx_F}
theorem fx_at {o : Nat} (h : o < 83) : (fx_mk σ b F).1 (fx_ad b o) = (fx_t o, fx_row b F o) := by
  unfold fx_mk fx_ad
  simp only
  rw [if_pos (by omega), show b + o - b = o by omega]
theorem fx_out {q : Nat} (h : ¬ (b ≤ q ∧ q < b + 83)) : (fx_mk σ b F).1 q = σ.1 q := by
  unfold fx_mk
  simp only
  rw [if_neg h]
theorem fx_fc {o t : Nat} (h : o < 83) (ht : fx_t o = t) : rb_fc (fx_mk σ b F) (some (fx_ad b o)) t = some (fx_row b F o) := by
  simp [rb_fc, fx_at h, ht]
theorem fx_fk {o k : Nat} (ht : fx_t o < 100) (hk : k < fx_nf o) : (fx_row b F o)[k]? = some (fx_v b F (100 * o + k)) := by
  unfold fx_row
  rw [if_pos ht]
  simp [hk]
theorem fx_gI {o k t : Nat} (h : o < 83) (ht : fx_t o = t) (h1 : t < 100) (hk : k < fx_nf o) (hd : fx_d (100 * o + k) = 0) : rb_gI (fx_mk σ b F) (some (fx_ad b o)) t k = some (F.1 (100 * o + k)) := by
  unfold rb_gI
  rw [fx_fc h ht, Option.bind_some, fx_fk (by rw [ht]; exact h1) hk]
  unfold fx_v
  rw [if_pos hd]
  rfl
theorem fx_gV {o k t : Nat} (h : o < 83) (ht : fx_t o = t) (h1 : t < 100) (hk : k < fx_nf o) (hd : fx_d (100 * o + k) = 1) : rb_gR (fx_mk σ b F) (some (fx_ad b o)) t k = some (F.2.2.2.1 (100 * o + k)) := by
  unfold rb_gR
  rw [fx_fc h ht, Option.bind_some, fx_fk (by rw [ht]; exact h1) hk]
  unfold fx_v
  rw [if_neg (by rw [hd]; decide), if_pos hd]
  exact fx_rfo _
theorem fx_gC {o k t c : Nat} (h : o < 83) (ht : fx_t o = t) (h1 : t < 100) (hk : k < fx_nf o) (hd : fx_d (100 * o + k) = c + 2) : rb_gR (fx_mk σ b F) (some (fx_ad b o)) t k = some (some (fx_ad b c)) := by
  unfold rb_gR
  rw [fx_fc h ht, Option.bind_some, fx_fk (by rw [ht]; exact h1) hk]
  unfold fx_v
  rw [if_neg (by omega), if_neg (by omega), hd]
  rfl
theorem fx_lenA {o t : Nat} (h : o < 83) (ht : fx_t o = t) (h1 : 100 ≤ t ∧ t ≠ 103 ∧ t ≤ 110) : rb_len (fx_mk σ b F) (some (fx_ad b o)) t = some (nI (F.2.1 o).length) := by
  unfold rb_len
  rw [fx_fc h ht]
  unfold fx_row
  rw [ht, if_neg (by omega), if_neg h1.2.1, if_neg (by omega)]
  simp
theorem fx_rA {o : Nat} (h1 : 100 ≤ fx_t o ∧ fx_t o ≠ 103 ∧ fx_t o ≤ 110) : fx_row b F o = (F.2.1 o).map Value.int := by
  unfold fx_row
  rw [if_neg (by omega), if_neg h1.2.1, if_neg (by omega)]
theorem fx_rL {o : Nat} (h1 : fx_t o = 103) : fx_row b F o = (F.2.2.1 o).map Value.long := by
  unfold fx_row
  rw [if_neg (by omega), if_pos h1]
theorem fx_rQ {o : Nat} (h1 : 110 < fx_t o) : fx_row b F o = (F.2.2.2.2 o).map va_rf := by
  unfold fx_row
  rw [if_neg (by omega), if_neg (by omega), if_pos h1]
theorem fx_aI {o t : Nat} {i : Int32} (h : o < 83) (ht : fx_t o = t) (h1 : 100 ≤ t ∧ t ≠ 103 ∧ t ≤ 110) : rb_aI (fx_mk σ b F) (some (fx_ad b o)) t i = fx_ix (F.2.1 o) i := by
  unfold rb_aI
  rw [fx_fc h ht, fx_rA (by rw [ht]; exact h1), Option.bind_some]
  unfold rb_ix fx_ix
  split
  · rfl
  · rw [List.getElem?_map]
    cases (F.2.1 o)[i.toNatClampNeg]? <;> rfl
theorem fx_aL {o : Nat} {i : Int32} (h : o < 83) (ht : fx_t o = 103) : rb_aL (fx_mk σ b F) (some (fx_ad b o)) 103 i = fx_ixL (F.2.2.1 o) i := by
  unfold rb_aL
  rw [fx_fc h ht, fx_rL ht, Option.bind_some]
  unfold rb_ix fx_ixL
  split
  · rfl
  · rw [List.getElem?_map]
    cases (F.2.2.1 o)[i.toNatClampNeg]? <;> rfl
theorem fx_aR {o t : Nat} {i : Int32} (h : o < 83) (ht : fx_t o = t) (h1 : 110 < t) : rb_aR (fx_mk σ b F) (some (fx_ad b o)) t i = fx_ixR (F.2.2.2.2 o) i := by
  unfold rb_aR
  rw [fx_fc h ht, fx_rQ (by rw [ht]; exact h1), Option.bind_some]
  unfold rb_ix fx_ixR
  split
  · rfl
  · rw [List.getElem?_map]
    cases (F.2.2.2.2 o)[i.toNatClampNeg]? with
    | none => rfl
    | some r => exact fx_rfo r
/-- one fixed cell changed -/
theorem fx_set {o : Nat} {l : List Value} {F' : fx_F} (h : o < 83) (hr : fx_row b F' o = l) (ho : ∀ j, j < 83 → j ≠ o → fx_row b F' j = fx_row b F j) : rb_set (fx_mk σ b F) (fx_ad b o) l = fx_mk σ b F' := by
  unfold rb_set
  rw [fx_at h]
  unfold fx_mk fx_ad
  simp only [Prod.mk.injEq, and_true]
  funext q
  by_cases hq : q = b + o
  · subst hq
    rw [if_pos rfl, if_pos (by omega), show b + o - b = o by omega, hr]
  · rw [if_neg hq]
    by_cases h2 : b ≤ q ∧ q < b + 83
    · rw [if_pos h2, if_pos h2, ho (q - b) (by omega) (by omega)]
    · rw [if_neg h2, if_neg h2]
theorem fx_z {o k o' k' : Nat} (hk : k < 100) (hk' : k' < 100) (h : 100 * o + k = 100 * o' + k') : o = o' ∧ k = k' := by omega
theorem fx_nf_le (o : Nat) : fx_nf o ≤ 100 := by unfold fx_nf; split <;> decide
theorem fx_pv {o k t : Nat} {v : Value} {F' : fx_F} (h : o < 83) (ht : fx_t o = t) (h1 : t < 100) (hk : k < fx_nf o) (hb : rb_b σ ≤ b) (hv : fx_v b F' (100 * o + k) = v) (ho : ∀ z, z ≠ 100 * o + k → fx_v b F' z = fx_v b F z) (hA : F'.2.1 = F.2.1) (hL : F'.2.2.1 = F.2.2.1) (hQ : F'.2.2.2.2 = F.2.2.2.2) : rb_pV (fx_mk σ b F) (some (fx_ad b o)) t k v = some (fx_mk σ b F') := by
  unfold rb_pV
  rw [Option.bind_some, fx_at h, ht, if_pos ⟨rfl, by show rb_b σ ≤ b + o; omega, by unfold fx_row; rw [if_pos (by rw [ht]; exact h1)]; simpa using hk⟩]
  congr 1
  have hnf := fx_nf_le o
  refine fx_set h ?_ (fun j hj hne => ?_)
  · apply List.ext_getElem?
    intro j
    rw [List.getElem?_set]
    by_cases hj : k = j
    · subst hj
      rw [if_pos rfl, if_pos (by unfold fx_row; rw [if_pos (by rw [ht]; exact h1)]; simpa using hk), fx_fk (by rw [ht]; exact h1) hk, hv]
    · rw [if_neg hj]
      by_cases hjl : j < fx_nf o
      · rw [fx_fk (by rw [ht]; exact h1) hjl, fx_fk (by rw [ht]; exact h1) hjl, ho _ (by omega)]
      · unfold fx_row
        rw [if_pos (by rw [ht]; exact h1), if_pos (by rw [ht]; exact h1)]
        simp [hjl]
  · unfold fx_row
    rw [hA, hL, hQ]
    split
    · apply List.map_congr_left
      intro k2 hk2
      have hk3 := List.mem_range.mp hk2
      have := fx_nf_le j
      rw [ho _ (by omega)]
    · rfl
theorem fx_pI {o k t : Nat} {x : Int32} (h : o < 83) (ht : fx_t o = t) (h1 : t < 100) (hk : k < fx_nf o) (hd : fx_d (100 * o + k) = 0) (hb : rb_b σ ≤ b) : rb_pI (fx_mk σ b F) (some (fx_ad b o)) t k x = some (fx_mk σ b (fx_I F (100 * o + k) x)) := by
  refine fx_pv h ht h1 hk hb ?_ (fun z hz => ?_) rfl rfl rfl
  · unfold fx_v; rw [if_pos hd]; simp [fx_I]
  · unfold fx_v; simp [fx_I, hz]
theorem fx_pZ {o k t : Nat} {x : Int32} (h : o < 83) (ht : fx_t o = t) (h1 : t < 100) (hk : k < fx_nf o) (hd : fx_d (100 * o + k) = 0) (hb : rb_b σ ≤ b) : rb_pZ (fx_mk σ b F) (some (fx_ad b o)) t k x = if x = 0 ∨ x = 1 then some (fx_mk σ b (fx_I F (100 * o + k) x)) else none := by
  have := fx_pI (x := x) (F := F) h ht h1 hk hd hb
  unfold rb_pI at this
  unfold rb_pZ
  rw [this]
theorem fx_pR {o k t : Nat} {r : Option Nat} (h : o < 83) (ht : fx_t o = t) (h1 : t < 100) (hk : k < fx_nf o) (hd : fx_d (100 * o + k) = 1) (hb : rb_b σ ≤ b) : rb_pR (fx_mk σ b F) (some (fx_ad b o)) t k r = some (fx_mk σ b (fx_R F (100 * o + k) r)) := by
  refine fx_pv h ht h1 hk hb ?_ (fun z hz => ?_) rfl rfl rfl
  · unfold fx_v; rw [if_neg (by rw [hd]; decide), if_pos hd]; simp [fx_R]
  · unfold fx_v; simp [fx_R, hz]
theorem fx_sv {o t : Nat} {i : Int32} {v : Value} {F' : fx_F} (h : o < 83) (ht : fx_t o = t) (hb : rb_b σ ≤ b) (hr : fx_row b F' o = (fx_row b F o).set i.toNatClampNeg v) (ho : ∀ j, j < 83 → j ≠ o → fx_row b F' j = fx_row b F j) : rb_sV (fx_mk σ b F) (some (fx_ad b o)) t i v = if ¬ i < 0 ∧ i.toNatClampNeg < (fx_row b F o).length then some (fx_mk σ b F') else none := by
  unfold rb_sV
  rw [Option.bind_some, fx_at h, ht]
  by_cases hc : ¬ i < 0 ∧ i.toNatClampNeg < (fx_row b F o).length
  · rw [if_pos hc, if_pos ⟨rfl, by show rb_b σ ≤ b + o; omega, hc⟩, fx_set h hr ho]
  · rw [if_neg hc, if_neg (fun q => hc q.2.2)]
theorem fx_sI {o t : Nat} {i x : Int32} (h : o < 83) (ht : fx_t o = t) (h1 : t = 101 ∨ t = 102 ∨ t = 104) (hb : rb_b σ ≤ b) : rb_sI (fx_mk σ b F) (some (fx_ad b o)) t i x = if ¬ i < 0 ∧ i.toNatClampNeg < (F.2.1 o).length then some (fx_mk σ b (fx_A F o ((F.2.1 o).set i.toNatClampNeg (fx_nar t x)))) else none := by
  have hv : narrow (rb_aty t) (.int x) = .int (fx_nar t x) := by rcases h1 with rfl | rfl | rfl <;> rfl
  have ht' : 100 ≤ fx_t o ∧ fx_t o ≠ 103 ∧ fx_t o ≤ 110 := by rw [ht]; rcases h1 with rfl | rfl | rfl <;> decide
  unfold rb_sI
  rw [hv, fx_sv (F' := fx_A F o ((F.2.1 o).set i.toNatClampNeg (fx_nar t x))) h ht hb ?_ ?_, fx_rA ht', List.length_map]
  · rw [fx_rA ht', fx_rA ht']
    simp [fx_A, List.map_set]
  · intro j hj hne
    unfold fx_row fx_v
    simp [fx_A, hne]
theorem fx_sL {o : Nat} {i : Int32} {x : Int64} (h : o < 83) (ht : fx_t o = 103) (hb : rb_b σ ≤ b) : rb_sL (fx_mk σ b F) (some (fx_ad b o)) 103 i x = if ¬ i < 0 ∧ i.toNatClampNeg < (F.2.2.1 o).length then some (fx_mk σ b (fx_L F o ((F.2.2.1 o).set i.toNatClampNeg x))) else none := by
  unfold rb_sL
  rw [fx_sv (F' := fx_L F o ((F.2.2.1 o).set i.toNatClampNeg x)) h ht hb ?_ ?_, fx_rL ht, List.length_map]
  · rw [fx_rL ht, fx_rL ht]
    simp [fx_L, List.map_set]
  · intro j hj hne
    unfold fx_row fx_v
    simp [fx_L, hne]
theorem fx_sR {o t : Nat} {i : Int32} {r : Option Nat} (h : o < 83) (ht : fx_t o = t) (h1 : 110 < t) (hb : rb_b σ ≤ b) (hr : ∀ a, r = some a → ((fx_mk σ b F).1 a).1 = rb_ce t) : rb_sR (fx_mk σ b F) (some (fx_ad b o)) t i r = if ¬ i < 0 ∧ i.toNatClampNeg < (F.2.2.2.2 o).length then some (fx_mk σ b (fx_Q F o ((F.2.2.2.2 o).set i.toNatClampNeg r))) else none := by
  have ht' : 110 < fx_t o := by rw [ht]; exact h1
  have key : rb_sV (fx_mk σ b F) (some (fx_ad b o)) t i (va_rf r) = if ¬ i < 0 ∧ i.toNatClampNeg < (F.2.2.2.2 o).length then some (fx_mk σ b (fx_Q F o ((F.2.2.2.2 o).set i.toNatClampNeg r))) else none := by
    rw [fx_sv (F' := fx_Q F o ((F.2.2.2.2 o).set i.toNatClampNeg r)) h ht hb ?_ ?_, fx_rQ ht', List.length_map]
    · rw [fx_rQ ht', fx_rQ ht']
      simp [fx_Q, List.map_set]
    · intro j hj hne
      unfold fx_row fx_v
      simp [fx_Q, hne]
  cases r with
  | none => exact key
  | some a =>
    simp only [rb_sR]
    rw [if_pos (hr a rfl)]
    exact key
end FX
theorem fx_rc {σ : rb_St} {b : Nat} {F : fx_F} : rb_fc (fx_mk σ b F) (some (fx_ad b 0)) 1 = some (fx_row b F 0) ∧ rb_gR (fx_mk σ b F) (some (fx_ad b 0)) 1 0 = some (some (fx_ad b 1)) ∧ rb_gR (fx_mk σ b F) (some (fx_ad b 0)) 1 1 = some (some (fx_ad b 3)) ∧ rb_gR (fx_mk σ b F) (some (fx_ad b 0)) 1 2 = some (some (fx_ad b 5)) ∧ rb_gR (fx_mk σ b F) (some (fx_ad b 0)) 1 3 = some (some (fx_ad b 13)) ∧ rb_gR (fx_mk σ b F) (some (fx_ad b 0)) 1 4 = some (some (fx_ad b 21)) ∧ rb_gR (fx_mk σ b F) (some (fx_ad b 0)) 1 5 = some (some (fx_ad b 25)) ∧ rb_gR (fx_mk σ b F) (some (fx_ad b 0)) 1 6 = some (some (fx_ad b 28)) ∧ rb_gR (fx_mk σ b F) (some (fx_ad b 0)) 1 7 = some (some (fx_ad b 31)) ∧ rb_fc (fx_mk σ b F) (some (fx_ad b 1)) 2 = some (fx_row b F 1) ∧ rb_gR (fx_mk σ b F) (some (fx_ad b 1)) 2 0 = some (some (fx_ad b 2)) ∧ rb_gI (fx_mk σ b F) (some (fx_ad b 1)) 2 1 = some (F.1 101) ∧ (∀ i, rb_aI (fx_mk σ b F) (some (fx_ad b 2)) 101 i = fx_ix (F.2.1 2) i) ∧ rb_len (fx_mk σ b F) (some (fx_ad b 2)) 101 = some (nI (F.2.1 2).length) ∧ rb_fc (fx_mk σ b F) (some (fx_ad b 3)) 3 = some (fx_row b F 3) ∧ rb_gR (fx_mk σ b F) (some (fx_ad b 3)) 3 0 = some (some (fx_ad b 4)) ∧ rb_gI (fx_mk σ b F) (some (fx_ad b 3)) 3 1 = some (F.1 301) ∧ rb_gI (fx_mk σ b F) (some (fx_ad b 3)) 3 2 = some (F.1 302) ∧ (∀ i, rb_aR (fx_mk σ b F) (some (fx_ad b 4)) 112 i = fx_ixR (F.2.2.2.2 4) i) ∧ rb_fc (fx_mk σ b F) (some (fx_ad b 5)) 4 = some (fx_row b F 5) ∧ rb_gR (fx_mk σ b F) (some (fx_ad b 5)) 4 0 = some (some (fx_ad b 6)) ∧ rb_gI (fx_mk σ b F) (some (fx_ad b 5)) 4 1 = some (F.1 501) ∧ rb_gR (fx_mk σ b F) (some (fx_ad b 5)) 4 2 = some (some (fx_ad b 7)) ∧ rb_gR (fx_mk σ b F) (some (fx_ad b 5)) 4 3 = some (some (fx_ad b 8)) ∧ rb_gR (fx_mk σ b F) (some (fx_ad b 5)) 4 4 = some (some (fx_ad b 9)) ∧ rb_gI (fx_mk σ b F) (some (fx_ad b 5)) 4 5 = some (F.1 505) ∧ rb_gR (fx_mk σ b F) (some (fx_ad b 5)) 4 6 = some (some (fx_ad b 10)) ∧ rb_gI (fx_mk σ b F) (some (fx_ad b 5)) 4 7 = some (F.1 507) ∧ rb_gR (fx_mk σ b F) (some (fx_ad b 5)) 4 8 = some (some (fx_ad b 11)) ∧ rb_gR (fx_mk σ b F) (some (fx_ad b 5)) 4 9 = some (some (fx_ad b 12)) ∧ rb_gI (fx_mk σ b F) (some (fx_ad b 5)) 4 10 = some (F.1 510) ∧ rb_gI (fx_mk σ b F) (some (fx_ad b 5)) 4 11 = some (F.1 511) ∧ rb_gR (fx_mk σ b F) (some (fx_ad b 5)) 4 12 = some (F.2.2.2.1 512) ∧ rb_gI (fx_mk σ b F) (some (fx_ad b 5)) 4 13 = some (F.1 513) ∧ rb_gI (fx_mk σ b F) (some (fx_ad b 5)) 4 14 = some (F.1 514) ∧ (∀ i, rb_aR (fx_mk σ b F) (some (fx_ad b 6)) 111 i = fx_ixR (F.2.2.2.2 6) i) ∧ (∀ i, rb_aR (fx_mk σ b F) (some (fx_ad b 7)) 111 i = fx_ixR (F.2.2.2.2 7) i) ∧ (∀ i, rb_aR (fx_mk σ b F) (some (fx_ad b 8)) 111 i = fx_ixR (F.2.2.2.2 8) i) ∧ (∀ i, rb_aI (fx_mk σ b F) (some (fx_ad b 9)) 102 i = fx_ix (F.2.1 9) i) ∧ rb_len (fx_mk σ b F) (some (fx_ad b 9)) 102 = some (nI (F.2.1 9).length) ∧ (∀ i, rb_aR (fx_mk σ b F) (some (fx_ad b 10)) 113 i = fx_ixR (F.2.2.2.2 10) i) ∧ (∀ i, rb_aR (fx_mk σ b F) (some (fx_ad b 11)) 112 i = fx_ixR (F.2.2.2.2 11) i) ∧ (∀ i, rb_aR (fx_mk σ b F) (some (fx_ad b 12)) 112 i = fx_ixR (F.2.2.2.2 12) i) ∧ rb_fc (fx_mk σ b F) (some (fx_ad b 13)) 5 = some (fx_row b F 13) ∧ rb_gR (fx_mk σ b F) (some (fx_ad b 13)) 5 0 = some (some (fx_ad b 14)) ∧ rb_gR (fx_mk σ b F) (some (fx_ad b 13)) 5 1 = some (some (fx_ad b 16)) ∧ rb_gR (fx_mk σ b F) (some (fx_ad b 13)) 5 2 = some (some (fx_ad b 18)) ∧ rb_gR (fx_mk σ b F) (some (fx_ad b 13)) 5 3 = some (some (fx_ad b 19)) ∧ rb_gR (fx_mk σ b F) (some (fx_ad b 13)) 5 4 = some (some (fx_ad b 20)) ∧ rb_gI (fx_mk σ b F) (some (fx_ad b 13)) 5 5 = some (F.1 1305) ∧ rb_gR (fx_mk σ b F) (some (fx_ad b 13)) 5 6 = some (F.2.2.2.1 1306) ∧ rb_fc (fx_mk σ b F) (some (fx_ad b 14)) 2 = some (fx_row b F 14) ∧ rb_gR (fx_mk σ b F) (some (fx_ad b 14)) 2 0 = some (some (fx_ad b 15)) ∧ rb_gI (fx_mk σ b F) (some (fx_ad b 14)) 2 1 = some (F.1 1401) ∧ (∀ i, rb_aI (fx_mk σ b F) (some (fx_ad b 15)) 101 i = fx_ix (F.2.1 15) i) ∧ rb_len (fx_mk σ b F) (some (fx_ad b 15)) 101 = some (nI (F.2.1 15).length) ∧ rb_fc (fx_mk σ b F) (some (fx_ad b 16)) 2 = some (fx_row b F 16) ∧ rb_gR (fx_mk σ b F) (some (fx_ad b 16)) 2 0 = some (some (fx_ad b 17)) ∧ rb_gI (fx_mk σ b F) (some (fx_ad b 16)) 2 1 = some (F.1 1601) ∧ (∀ i, rb_aI (fx_mk σ b F) (some (fx_ad b 17)) 101 i = fx_ix (F.2.1 17) i) ∧ rb_len (fx_mk σ b F) (some (fx_ad b 17)) 101 = some (nI (F.2.1 17).length) ∧ (∀ i, rb_aR (fx_mk σ b F) (some (fx_ad b 18)) 111 i = fx_ixR (F.2.2.2.2 18) i) ∧ (∀ i, rb_aR (fx_mk σ b F) (some (fx_ad b 19)) 111 i = fx_ixR (F.2.2.2.2 19) i) ∧ (∀ i, rb_aI (fx_mk σ b F) (some (fx_ad b 20)) 102 i = fx_ix (F.2.1 20) i) ∧ rb_len (fx_mk σ b F) (some (fx_ad b 20)) 102 = some (nI (F.2.1 20).length) ∧ rb_fc (fx_mk σ b F) (some (fx_ad b 21)) 6 = some (fx_row b F 21) ∧ rb_gR (fx_mk σ b F) (some (fx_ad b 21)) 6 0 = some (some (fx_ad b 14)) ∧ rb_gR (fx_mk σ b F) (some (fx_ad b 21)) 6 1 = some (some (fx_ad b 22)) ∧ rb_gR (fx_mk σ b F) (some (fx_ad b 21)) 6 2 = some (some (fx_ad b 23)) ∧ rb_gR (fx_mk σ b F) (some (fx_ad b 21)) 6 3 = some (some (fx_ad b 24)) ∧ rb_gI (fx_mk σ b F) (some (fx_ad b 21)) 6 4 = some (F.1 2104) ∧ (∀ i, rb_aI (fx_mk σ b F) (some (fx_ad b 22)) 102 i = fx_ix (F.2.1 22) i) ∧ rb_len (fx_mk σ b F) (some (fx_ad b 22)) 102 = some (nI (F.2.1 22).length) ∧ (∀ i, rb_aI (fx_mk σ b F) (some (fx_ad b 23)) 102 i = fx_ix (F.2.1 23) i) ∧ rb_len (fx_mk σ b F) (some (fx_ad b 23)) 102 = some (nI (F.2.1 23).length) ∧ (∀ i, rb_aR (fx_mk σ b F) (some (fx_ad b 24)) 112 i = fx_ixR (F.2.2.2.2 24) i) ∧ rb_fc (fx_mk σ b F) (some (fx_ad b 25)) 7 = some (fx_row b F 25) ∧ rb_gR (fx_mk σ b F) (some (fx_ad b 25)) 7 0 = some (some (fx_ad b 26)) ∧ rb_gR (fx_mk σ b F) (some (fx_ad b 25)) 7 1 = some (some (fx_ad b 3)) ∧ rb_gR (fx_mk σ b F) (some (fx_ad b 25)) 7 2 = some (some (fx_ad b 21)) ∧ rb_fc (fx_mk σ b F) (some (fx_ad b 26)) 2 = some (fx_row b F 26) ∧ rb_gR (fx_mk σ b F) (some (fx_ad b 26)) 2 0 = some (some (fx_ad b 27)) ∧ rb_gI (fx_mk σ b F) (some (fx_ad b 26)) 2 1 = some (F.1 2601) ∧ (∀ i, rb_aI (fx_mk σ b F) (some (fx_ad b 27)) 101 i = fx_ix (F.2.1 27) i) ∧ rb_len (fx_mk σ b F) (some (fx_ad b 27)) 101 = some (nI (F.2.1 27).length) ∧ rb_fc (fx_mk σ b F) (some (fx_ad b 28)) 8 = some (fx_row b F 28) ∧ rb_gR (fx_mk σ b F) (some (fx_ad b 28)) 8 0 = some (some (fx_ad b 3)) ∧ rb_gR (fx_mk σ b F) (some (fx_ad b 28)) 8 1 = some (some (fx_ad b 5)) ∧ rb_gR (fx_mk σ b F) (some (fx_ad b 28)) 8 2 = some (some (fx_ad b 13)) ∧ rb_gR (fx_mk σ b F) (some (fx_ad b 28)) 8 3 = some (some (fx_ad b 21)) ∧ rb_gR (fx_mk σ b F) (some (fx_ad b 28)) 8 4 = some (some (fx_ad b 29)) ∧ rb_gI (fx_mk σ b F) (some (fx_ad b 28)) 8 5 = some (F.1 2805) ∧ rb_gI (fx_mk σ b F) (some (fx_ad b 28)) 8 6 = some (F.1 2806) ∧ rb_gI (fx_mk σ b F) (some (fx_ad b 28)) 8 7 = some (F.1 2807) ∧ rb_fc (fx_mk σ b F) (some (fx_ad b 29)) 2 = some (fx_row b F 29) ∧ rb_gR (fx_mk σ b F) (some (fx_ad b 29)) 2 0 = some (some (fx_ad b 30)) ∧ rb_gI (fx_mk σ b F) (some (fx_ad b 29)) 2 1 = some (F.1 2901) ∧ (∀ i, rb_aI (fx_mk σ b F) (some (fx_ad b 30)) 101 i = fx_ix (F.2.1 30) i) ∧ rb_len (fx_mk σ b F) (some (fx_ad b 30)) 101 = some (nI (F.2.1 30).length) ∧ rb_fc (fx_mk σ b F) (some (fx_ad b 31)) 9 = some (fx_row b F 31) ∧ rb_gR (fx_mk σ b F) (some (fx_ad b 31)) 9 0 = some (some (fx_ad b 3)) ∧ rb_gR (fx_mk σ b F) (some (fx_ad b 31)) 9 1 = some (some (fx_ad b 5)) ∧ rb_gR (fx_mk σ b F) (some (fx_ad b 31)) 9 2 = some (some (fx_ad b 13)) ∧ rb_gR (fx_mk σ b F) (some (fx_ad b 31)) 9 3 = some (some (fx_ad b 25)) ∧ rb_gR (fx_mk σ b F) (some (fx_ad b 31)) 9 4 = some (some (fx_ad b 32)) ∧ rb_gI (fx_mk σ b F) (some (fx_ad b 31)) 9 5 = some (F.1 3105) ∧ rb_gI (fx_mk σ b F) (some (fx_ad b 31)) 9 6 = some (F.1 3106) ∧ rb_gI (fx_mk σ b F) (some (fx_ad b 31)) 9 7 = some (F.1 3107) ∧ rb_fc (fx_mk σ b F) (some (fx_ad b 32)) 2 = some (fx_row b F 32) ∧ rb_gR (fx_mk σ b F) (some (fx_ad b 32)) 2 0 = some (some (fx_ad b 33)) ∧ rb_gI (fx_mk σ b F) (some (fx_ad b 32)) 2 1 = some (F.1 3201) ∧ (∀ i, rb_aI (fx_mk σ b F) (some (fx_ad b 33)) 101 i = fx_ix (F.2.1 33) i) ∧ rb_len (fx_mk σ b F) (some (fx_ad b 33)) 101 = some (nI (F.2.1 33).length) :=
  ⟨fx_fc (by decide) rfl, fx_gC (by decide) rfl (by decide) (by decide) rfl, fx_gC (by decide) rfl (by decide) (by decide) rfl, fx_gC (by decide) rfl (by decide) (by decide) rfl, fx_gC (by decide) rfl (by decide) (by decide) rfl, fx_gC (by decide) rfl (by decide) (by decide) rfl, fx_gC (by decide) rfl (by decide) (by decide) rfl, fx_gC (by decide) rfl (by decide) (by decide) rfl, fx_gC (by decide) rfl (by decide) (by decide) rfl, fx_fc (by decide) rfl, fx_gC (by decide) rfl (by decide) (by decide) rfl, fx_gI (by decide) rfl (by decide) (by decide) rfl, (fun i => fx_aI (by decide) rfl (by decide)), fx_lenA (by decide) rfl (by decide), fx_fc (by decide) rfl, fx_gC (by decide) rfl (by decide) (by decide) rfl, fx_gI (by decide) rfl (by decide) (by decide) rfl, fx_gI (by decide) rfl (by decide) (by decide) rfl, (fun i => fx_aR (by decide) rfl (by decide)), fx_fc (by decide) rfl, fx_gC (by decide) rfl (by decide) (by decide) rfl, fx_gI (by decide) rfl (by decide) (by decide) rfl, fx_gC (by decide) rfl (by decide) (by decide) rfl, fx_gC (by decide) rfl (by decide) (by decide) rfl, fx_gC (by decide) rfl (by decide) (by decide) rfl, fx_gI (by decide) rfl (by decide) (by decide) rfl, fx_gC (by decide) rfl (by decide) (by decide) rfl, fx_gI (by decide) rfl (by decide) (by decide) rfl, fx_gC (by decide) rfl (by decide) (by decide) rfl, fx_gC (by decide) rfl (by decide) (by decide) rfl, fx_gI (by decide) rfl (by decide) (by decide) rfl, fx_gI (by decide) rfl (by decide) (by decide) rfl, fx_gV (by decide) rfl (by decide) (by decide) rfl, fx_gI (by decide) rfl (by decide) (by decide) rfl, fx_gI (by decide) rfl (by decide) (by decide) rfl, (fun i => fx_aR (by decide) rfl (by decide)), (fun i => fx_aR (by decide) rfl (by decide)), (fun i => fx_aR (by decide) rfl (by decide)), (fun i => fx_aI (by decide) rfl (by decide)), fx_lenA (by decide) rfl (by decide), (fun i => fx_aR (by decide) rfl (by decide)), (fun i => fx_aR (by decide) rfl (by decide)), (fun i => fx_aR (by decide) rfl (by decide)), fx_fc (by decide) rfl, fx_gC (by decide) rfl (by decide) (by decide) rfl, fx_gC (by decide) rfl (by decide) (by decide) rfl, fx_gC (by decide) rfl (by decide) (by decide) rfl, fx_gC (by decide) rfl (by decide) (by decide) rfl, fx_gC (by decide) rfl (by decide) (by decide) rfl, fx_gI (by decide) rfl (by decide) (by decide) rfl, fx_gV (by decide) rfl (by decide) (by decide) rfl, fx_fc (by decide) rfl, fx_gC (by decide) rfl (by decide) (by decide) rfl, fx_gI (by decide) rfl (by decide) (by decide) rfl, (fun i => fx_aI (by decide) rfl (by decide)), fx_lenA (by decide) rfl (by decide), fx_fc (by decide) rfl, fx_gC (by decide) rfl (by decide) (by decide) rfl, fx_gI (by decide) rfl (by decide) (by decide) rfl, (fun i => fx_aI (by decide) rfl (by decide)), fx_lenA (by decide) rfl (by decide), (fun i => fx_aR (by decide) rfl (by decide)), (fun i => fx_aR (by decide) rfl (by decide)), (fun i => fx_aI (by decide) rfl (by decide)), fx_lenA (by decide) rfl (by decide), fx_fc (by decide) rfl, fx_gC (by decide) rfl (by decide) (by decide) rfl, fx_gC (by decide) rfl (by decide) (by decide) rfl, fx_gC (by decide) rfl (by decide) (by decide) rfl, fx_gC (by decide) rfl (by decide) (by decide) rfl, fx_gI (by decide) rfl (by decide) (by decide) rfl, (fun i => fx_aI (by decide) rfl (by decide)), fx_lenA (by decide) rfl (by decide), (fun i => fx_aI (by decide) rfl (by decide)), fx_lenA (by decide) rfl (by decide), (fun i => fx_aR (by decide) rfl (by decide)), fx_fc (by decide) rfl, fx_gC (by decide) rfl (by decide) (by decide) rfl, fx_gC (by decide) rfl (by decide) (by decide) rfl, fx_gC (by decide) rfl (by decide) (by decide) rfl, fx_fc (by decide) rfl, fx_gC (by decide) rfl (by decide) (by decide) rfl, fx_gI (by decide) rfl (by decide) (by decide) rfl, (fun i => fx_aI (by decide) rfl (by decide)), fx_lenA (by decide) rfl (by decide), fx_fc (by decide) rfl, fx_gC (by decide) rfl (by decide) (by decide) rfl, fx_gC (by decide) rfl (by decide) (by decide) rfl, fx_gC (by decide) rfl (by decide) (by decide) rfl, fx_gC (by decide) rfl (by decide) (by decide) rfl, fx_gC (by decide) rfl (by decide) (by decide) rfl, fx_gI (by decide) rfl (by decide) (by decide) rfl, fx_gI (by decide) rfl (by decide) (by decide) rfl, fx_gI (by decide) rfl (by decide) (by decide) rfl, fx_fc (by decide) rfl, fx_gC (by decide) rfl (by decide) (by decide) rfl, fx_gI (by decide) rfl (by decide) (by decide) rfl, (fun i => fx_aI (by decide) rfl (by decide)), fx_lenA (by decide) rfl (by decide), fx_fc (by decide) rfl, fx_gC (by decide) rfl (by decide) (by decide) rfl, fx_gC (by decide) rfl (by decide) (by decide) rfl, fx_gC (by decide) rfl (by decide) (by decide) rfl, fx_gC (by decide) rfl (by decide) (by decide) rfl, fx_gC (by decide) rfl (by decide) (by decide) rfl, fx_gI (by decide) rfl (by decide) (by decide) rfl, fx_gI (by decide) rfl (by decide) (by decide) rfl, fx_gI (by decide) rfl (by decide) (by decide) rfl, fx_fc (by decide) rfl, fx_gC (by decide) rfl (by decide) (by decide) rfl, fx_gI (by decide) rfl (by decide) (by decide) rfl, (fun i => fx_aI (by decide) rfl (by decide)), fx_lenA (by decide) rfl (by decide)⟩
theorem fx_rm {σ : rb_St} {b : Nat} {F : fx_F} : rb_fc (fx_mk σ b F) (some (fx_ad b 34)) 13 = some (fx_row b F 34) ∧ rb_gR (fx_mk σ b F) (some (fx_ad b 34)) 13 0 = some (some (fx_ad b 35)) ∧ rb_gI (fx_mk σ b F) (some (fx_ad b 34)) 13 1 = some (F.1 3401) ∧ rb_gI (fx_mk σ b F) (some (fx_ad b 34)) 13 2 = some (F.1 3402) ∧ rb_gR (fx_mk σ b F) (some (fx_ad b 34)) 13 3 = some (some (fx_ad b 36)) ∧ rb_gR (fx_mk σ b F) (some (fx_ad b 34)) 13 4 = some (some (fx_ad b 37)) ∧ rb_gR (fx_mk σ b F) (some (fx_ad b 34)) 13 5 = some (some (fx_ad b 38)) ∧ rb_gR (fx_mk σ b F) (some (fx_ad b 34)) 13 6 = some (some (fx_ad b 39)) ∧ rb_gI (fx_mk σ b F) (some (fx_ad b 34)) 13 7 = some (F.1 3407) ∧ rb_gR (fx_mk σ b F) (some (fx_ad b 34)) 13 8 = some (some (fx_ad b 40)) ∧ rb_gR (fx_mk σ b F) (some (fx_ad b 34)) 13 9 = some (some (fx_ad b 41)) ∧ rb_gR (fx_mk σ b F) (some (fx_ad b 34)) 13 10 = some (some (fx_ad b 42)) ∧ rb_gR (fx_mk σ b F) (some (fx_ad b 34)) 13 11 = some (some (fx_ad b 43)) ∧ rb_gR (fx_mk σ b F) (some (fx_ad b 34)) 13 12 = some (some (fx_ad b 44)) ∧ rb_gR (fx_mk σ b F) (some (fx_ad b 34)) 13 13 = some (some (fx_ad b 45)) ∧ rb_gR (fx_mk σ b F) (some (fx_ad b 34)) 13 14 = some (some (fx_ad b 46)) ∧ rb_gR (fx_mk σ b F) (some (fx_ad b 34)) 13 15 = some (some (fx_ad b 47)) ∧ rb_gI (fx_mk σ b F) (some (fx_ad b 34)) 13 16 = some (F.1 3416) ∧ rb_gR (fx_mk σ b F) (some (fx_ad b 34)) 13 17 = some (some (fx_ad b 48)) ∧ rb_gI (fx_mk σ b F) (some (fx_ad b 34)) 13 18 = some (F.1 3418) ∧ rb_gR (fx_mk σ b F) (some (fx_ad b 34)) 13 19 = some (some (fx_ad b 49)) ∧ rb_gR (fx_mk σ b F) (some (fx_ad b 34)) 13 20 = some (some (fx_ad b 50)) ∧ rb_gR (fx_mk σ b F) (some (fx_ad b 34)) 13 21 = some (some (fx_ad b 51)) ∧ rb_gI (fx_mk σ b F) (some (fx_ad b 34)) 13 22 = some (F.1 3422) ∧ rb_gI (fx_mk σ b F) (some (fx_ad b 34)) 13 23 = some (F.1 3423) ∧ rb_gR (fx_mk σ b F) (some (fx_ad b 34)) 13 24 = some (some (fx_ad b 52)) ∧ rb_gR (fx_mk σ b F) (some (fx_ad b 34)) 13 25 = some (some (fx_ad b 53)) ∧ rb_gI (fx_mk σ b F) (some (fx_ad b 34)) 13 26 = some (F.1 3426) ∧ rb_gR (fx_mk σ b F) (some (fx_ad b 34)) 13 27 = some (some (fx_ad b 54)) ∧ rb_gR (fx_mk σ b F) (some (fx_ad b 34)) 13 28 = some (some (fx_ad b 55)) ∧ rb_gI (fx_mk σ b F) (some (fx_ad b 34)) 13 29 = some (F.1 3429) ∧ rb_gR (fx_mk σ b F) (some (fx_ad b 34)) 13 30 = some (some (fx_ad b 56)) ∧ rb_gR (fx_mk σ b F) (some (fx_ad b 34)) 13 31 = some (some (fx_ad b 57)) ∧ rb_gR (fx_mk σ b F) (some (fx_ad b 34)) 13 32 = some (some (fx_ad b 58)) ∧ rb_gI (fx_mk σ b F) (some (fx_ad b 34)) 13 33 = some (F.1 3433) ∧ rb_gR (fx_mk σ b F) (some (fx_ad b 34)) 13 34 = some (some (fx_ad b 59)) ∧ rb_gR (fx_mk σ b F) (some (fx_ad b 34)) 13 35 = some (some (fx_ad b 60)) ∧ rb_gR (fx_mk σ b F) (some (fx_ad b 34)) 13 36 = some (some (fx_ad b 61)) ∧ rb_gI (fx_mk σ b F) (some (fx_ad b 34)) 13 37 = some (F.1 3437) ∧ rb_gI (fx_mk σ b F) (some (fx_ad b 34)) 13 38 = some (F.1 3438) ∧ rb_gI (fx_mk σ b F) (some (fx_ad b 34)) 13 39 = some (F.1 3439) ∧ rb_gI (fx_mk σ b F) (some (fx_ad b 34)) 13 40 = some (F.1 3440) ∧ rb_gI (fx_mk σ b F) (some (fx_ad b 34)) 13 41 = some (F.1 3441) ∧ rb_gI (fx_mk σ b F) (some (fx_ad b 34)) 13 42 = some (F.1 3442) ∧ rb_gR (fx_mk σ b F) (some (fx_ad b 34)) 13 43 = some (some (fx_ad b 62)) ∧ rb_gI (fx_mk σ b F) (some (fx_ad b 34)) 13 44 = some (F.1 3444) ∧ rb_gR (fx_mk σ b F) (some (fx_ad b 34)) 13 45 = some (some (fx_ad b 63)) ∧ rb_gR (fx_mk σ b F) (some (fx_ad b 34)) 13 46 = some (some (fx_ad b 64)) ∧ rb_gI (fx_mk σ b F) (some (fx_ad b 34)) 13 47 = some (F.1 3447) ∧ rb_gI (fx_mk σ b F) (some (fx_ad b 34)) 13 48 = some (F.1 3448) ∧ rb_gR (fx_mk σ b F) (some (fx_ad b 34)) 13 49 = some (some (fx_ad b 65)) ∧ rb_gR (fx_mk σ b F) (some (fx_ad b 34)) 13 50 = some (some (fx_ad b 66)) ∧ rb_gR (fx_mk σ b F) (some (fx_ad b 34)) 13 51 = some (some (fx_ad b 67)) ∧ rb_gR (fx_mk σ b F) (some (fx_ad b 34)) 13 52 = some (some (fx_ad b 68)) ∧ rb_gR (fx_mk σ b F) (some (fx_ad b 34)) 13 53 = some (some (fx_ad b 69)) ∧ rb_gR (fx_mk σ b F) (some (fx_ad b 34)) 13 54 = some (some (fx_ad b 70)) ∧ rb_gR (fx_mk σ b F) (some (fx_ad b 34)) 13 55 = some (some (fx_ad b 71)) ∧ rb_gI (fx_mk σ b F) (some (fx_ad b 34)) 13 56 = some (F.1 3456) ∧ rb_gR (fx_mk σ b F) (some (fx_ad b 34)) 13 57 = some (some (fx_ad b 72)) ∧ rb_gR (fx_mk σ b F) (some (fx_ad b 34)) 13 58 = some (some (fx_ad b 73)) ∧ rb_gR (fx_mk σ b F) (some (fx_ad b 34)) 13 59 = some (some (fx_ad b 74)) ∧ rb_gR (fx_mk σ b F) (some (fx_ad b 34)) 13 60 = some (some (fx_ad b 75)) ∧ rb_gR (fx_mk σ b F) (some (fx_ad b 34)) 13 61 = some (some (fx_ad b 76)) ∧ rb_gR (fx_mk σ b F) (some (fx_ad b 34)) 13 62 = some (some (fx_ad b 77)) ∧ rb_gR (fx_mk σ b F) (some (fx_ad b 34)) 13 63 = some (some (fx_ad b 78)) ∧ rb_gR (fx_mk σ b F) (some (fx_ad b 34)) 13 64 = some (some (fx_ad b 79)) ∧ rb_gR (fx_mk σ b F) (some (fx_ad b 34)) 13 65 = some (some (fx_ad b 80)) ∧ rb_gI (fx_mk σ b F) (some (fx_ad b 34)) 13 66 = some (F.1 3466) ∧ rb_gR (fx_mk σ b F) (some (fx_ad b 34)) 13 67 = some (some (fx_ad b 81)) ∧ rb_gI (fx_mk σ b F) (some (fx_ad b 34)) 13 68 = some (F.1 3468) ∧ rb_gI (fx_mk σ b F) (some (fx_ad b 34)) 13 69 = some (F.1 3469) ∧ rb_gI (fx_mk σ b F) (some (fx_ad b 34)) 13 70 = some (F.1 3470) ∧ rb_gR (fx_mk σ b F) (some (fx_ad b 34)) 13 71 = some (some (fx_ad b 82)) ∧ rb_gI (fx_mk σ b F) (some (fx_ad b 34)) 13 72 = some (F.1 3472) ∧ (∀ i, rb_aI (fx_mk σ b F) (some (fx_ad b 35)) 102 i = fx_ix (F.2.1 35) i) ∧ rb_len (fx_mk σ b F) (some (fx_ad b 35)) 102 = some (nI (F.2.1 35).length) ∧ (∀ i, rb_aL (fx_mk σ b F) (some (fx_ad b 36)) 103 i = fx_ixL (F.2.2.1 36) i) ∧ (∀ i, rb_aI (fx_mk σ b F) (some (fx_ad b 37)) 104 i = fx_ix (F.2.1 37) i) ∧ rb_len (fx_mk σ b F) (some (fx_ad b 37)) 104 = some (nI (F.2.1 37).length) ∧ (∀ i, rb_aI (fx_mk σ b F) (some (fx_ad b 38)) 102 i = fx_ix (F.2.1 38) i) ∧ rb_len (fx_mk σ b F) (some (fx_ad b 38)) 102 = some (nI (F.2.1 38).length) ∧ (∀ i, rb_aI (fx_mk σ b F) (some (fx_ad b 39)) 102 i = fx_ix (F.2.1 39) i) ∧ rb_len (fx_mk σ b F) (some (fx_ad b 39)) 102 = some (nI (F.2.1 39).length) ∧ (∀ i, rb_aI (fx_mk σ b F) (some (fx_ad b 40)) 104 i = fx_ix (F.2.1 40) i) ∧ rb_len (fx_mk σ b F) (some (fx_ad b 40)) 104 = some (nI (F.2.1 40).length) ∧ (∀ i, rb_aI (fx_mk σ b F) (some (fx_ad b 41)) 102 i = fx_ix (F.2.1 41) i) ∧ rb_len (fx_mk σ b F) (some (fx_ad b 41)) 102 = some (nI (F.2.1 41).length) ∧ (∀ i, rb_aI (fx_mk σ b F) (some (fx_ad b 42)) 102 i = fx_ix (F.2.1 42) i) ∧ rb_len (fx_mk σ b F) (some (fx_ad b 42)) 102 = some (nI (F.2.1 42).length) ∧ (∀ i, rb_aI (fx_mk σ b F) (some (fx_ad b 43)) 104 i = fx_ix (F.2.1 43) i) ∧ rb_len (fx_mk σ b F) (some (fx_ad b 43)) 104 = some (nI (F.2.1 43).length) ∧ (∀ i, rb_aI (fx_mk σ b F) (some (fx_ad b 44)) 102 i = fx_ix (F.2.1 44) i) ∧ rb_len (fx_mk σ b F) (some (fx_ad b 44)) 102 = some (nI (F.2.1 44).length) ∧ (∀ i, rb_aI (fx_mk σ b F) (some (fx_ad b 45)) 102 i = fx_ix (F.2.1 45) i) ∧ rb_len (fx_mk σ b F) (some (fx_ad b 45)) 102 = some (nI (F.2.1 45).length) ∧ (∀ i, rb_aI (fx_mk σ b F) (some (fx_ad b 46)) 102 i = fx_ix (F.2.1 46) i) ∧ rb_len (fx_mk σ b F) (some (fx_ad b 46)) 102 = some (nI (F.2.1 46).length) ∧ (∀ i, rb_aI (fx_mk σ b F) (some (fx_ad b 47)) 102 i = fx_ix (F.2.1 47) i) ∧ rb_len (fx_mk σ b F) (some (fx_ad b 47)) 102 = some (nI (F.2.1 47).length) ∧ (∀ i, rb_aL (fx_mk σ b F) (some (fx_ad b 48)) 103 i = fx_ixL (F.2.2.1 48) i) ∧ (∀ i, rb_aI (fx_mk σ b F) (some (fx_ad b 49)) 104 i = fx_ix (F.2.1 49) i) ∧ rb_len (fx_mk σ b F) (some (fx_ad b 49)) 104 = some (nI (F.2.1 49).length) ∧ (∀ i, rb_aI (fx_mk σ b F) (some (fx_ad b 50)) 104 i = fx_ix (F.2.1 50) i) ∧ rb_len (fx_mk σ b F) (some (fx_ad b 50)) 104 = some (nI (F.2.1 50).length) ∧ (∀ i, rb_aI (fx_mk σ b F) (some (fx_ad b 51)) 104 i = fx_ix (F.2.1 51) i) ∧ rb_len (fx_mk σ b F) (some (fx_ad b 51)) 104 = some (nI (F.2.1 51).length) ∧ (∀ i, rb_aI (fx_mk σ b F) (some (fx_ad b 52)) 104 i = fx_ix (F.2.1 52) i) ∧ rb_len (fx_mk σ b F) (some (fx_ad b 52)) 104 = some (nI (F.2.1 52).length) ∧ (∀ i, rb_aI (fx_mk σ b F) (some (fx_ad b 53)) 102 i = fx_ix (F.2.1 53) i) ∧ rb_len (fx_mk σ b F) (some (fx_ad b 53)) 102 = some (nI (F.2.1 53).length) ∧ (∀ i, rb_aI (fx_mk σ b F) (some (fx_ad b 54)) 102 i = fx_ix (F.2.1 54) i) ∧ rb_len (fx_mk σ b F) (some (fx_ad b 54)) 102 = some (nI (F.2.1 54).length) ∧ (∀ i, rb_aI (fx_mk σ b F) (some (fx_ad b 55)) 102 i = fx_ix (F.2.1 55) i) ∧ rb_len (fx_mk σ b F) (some (fx_ad b 55)) 102 = some (nI (F.2.1 55).length) ∧ (∀ i, rb_aI (fx_mk σ b F) (some (fx_ad b 56)) 102 i = fx_ix (F.2.1 56) i) ∧ rb_len (fx_mk σ b F) (some (fx_ad b 56)) 102 = some (nI (F.2.1 56).length) ∧ (∀ i, rb_aI (fx_mk σ b F) (some (fx_ad b 57)) 102 i = fx_ix (F.2.1 57) i) ∧ rb_len (fx_mk σ b F) (some (fx_ad b 57)) 102 = some (nI (F.2.1 57).length) ∧ (∀ i, rb_aI (fx_mk σ b F) (some (fx_ad b 58)) 102 i = fx_ix (F.2.1 58) i) ∧ rb_len (fx_mk σ b F) (some (fx_ad b 58)) 102 = some (nI (F.2.1 58).length) ∧ (∀ i, rb_aL (fx_mk σ b F) (some (fx_ad b 59)) 103 i = fx_ixL (F.2.2.1 59) i) ∧ (∀ i, rb_aL (fx_mk σ b F) (some (fx_ad b 60)) 103 i = fx_ixL (F.2.2.1 60) i) ∧ (∀ i, rb_aI (fx_mk σ b F) (some (fx_ad b 61)) 102 i = fx_ix (F.2.1 61) i) ∧ rb_len (fx_mk σ b F) (some (fx_ad b 61)) 102 = some (nI (F.2.1 61).length) ∧ (∀ i, rb_aI (fx_mk σ b F) (some (fx_ad b 62)) 102 i = fx_ix (F.2.1 62) i) ∧ rb_len (fx_mk σ b F) (some (fx_ad b 62)) 102 = some (nI (F.2.1 62).length) ∧ (∀ i, rb_aI (fx_mk σ b F) (some (fx_ad b 63)) 102 i = fx_ix (F.2.1 63) i) ∧ rb_len (fx_mk σ b F) (some (fx_ad b 63)) 102 = some (nI (F.2.1 63).length) ∧ (∀ i, rb_aI (fx_mk σ b F) (some (fx_ad b 64)) 102 i = fx_ix (F.2.1 64) i) ∧ rb_len (fx_mk σ b F) (some (fx_ad b 64)) 102 = some (nI (F.2.1 64).length) ∧ (∀ i, rb_aI (fx_mk σ b F) (some (fx_ad b 65)) 102 i = fx_ix (F.2.1 65) i) ∧ rb_len (fx_mk σ b F) (some (fx_ad b 65)) 102 = some (nI (F.2.1 65).length) ∧ (∀ i, rb_aI (fx_mk σ b F) (some (fx_ad b 66)) 102 i = fx_ix (F.2.1 66) i) ∧ rb_len (fx_mk σ b F) (some (fx_ad b 66)) 102 = some (nI (F.2.1 66).length) ∧ (∀ i, rb_aI (fx_mk σ b F) (some (fx_ad b 67)) 102 i = fx_ix (F.2.1 67) i) ∧ rb_len (fx_mk σ b F) (some (fx_ad b 67)) 102 = some (nI (F.2.1 67).length) ∧ (∀ i, rb_aI (fx_mk σ b F) (some (fx_ad b 68)) 102 i = fx_ix (F.2.1 68) i) ∧ rb_len (fx_mk σ b F) (some (fx_ad b 68)) 102 = some (nI (F.2.1 68).length) ∧ (∀ i, rb_aI (fx_mk σ b F) (some (fx_ad b 69)) 102 i = fx_ix (F.2.1 69) i) ∧ rb_len (fx_mk σ b F) (some (fx_ad b 69)) 102 = some (nI (F.2.1 69).length) ∧ (∀ i, rb_aI (fx_mk σ b F) (some (fx_ad b 70)) 102 i = fx_ix (F.2.1 70) i) ∧ rb_len (fx_mk σ b F) (some (fx_ad b 70)) 102 = some (nI (F.2.1 70).length) ∧ (∀ i, rb_aI (fx_mk σ b F) (some (fx_ad b 71)) 102 i = fx_ix (F.2.1 71) i) ∧ rb_len (fx_mk σ b F) (some (fx_ad b 71)) 102 = some (nI (F.2.1 71).length) ∧ (∀ i, rb_aI (fx_mk σ b F) (some (fx_ad b 72)) 102 i = fx_ix (F.2.1 72) i) ∧ rb_len (fx_mk σ b F) (some (fx_ad b 72)) 102 = some (nI (F.2.1 72).length) ∧ (∀ i, rb_aI (fx_mk σ b F) (some (fx_ad b 73)) 104 i = fx_ix (F.2.1 73) i) ∧ rb_len (fx_mk σ b F) (some (fx_ad b 73)) 104 = some (nI (F.2.1 73).length) ∧ (∀ i, rb_aI (fx_mk σ b F) (some (fx_ad b 74)) 104 i = fx_ix (F.2.1 74) i) ∧ rb_len (fx_mk σ b F) (some (fx_ad b 74)) 104 = some (nI (F.2.1 74).length) ∧ (∀ i, rb_aI (fx_mk σ b F) (some (fx_ad b 75)) 102 i = fx_ix (F.2.1 75) i) ∧ rb_len (fx_mk σ b F) (some (fx_ad b 75)) 102 = some (nI (F.2.1 75).length) ∧ (∀ i, rb_aI (fx_mk σ b F) (some (fx_ad b 76)) 102 i = fx_ix (F.2.1 76) i) ∧ rb_len (fx_mk σ b F) (some (fx_ad b 76)) 102 = some (nI (F.2.1 76).length) ∧ (∀ i, rb_aL (fx_mk σ b F) (some (fx_ad b 77)) 103 i = fx_ixL (F.2.2.1 77) i) ∧ (∀ i, rb_aI (fx_mk σ b F) (some (fx_ad b 78)) 102 i = fx_ix (F.2.1 78) i) ∧ rb_len (fx_mk σ b F) (some (fx_ad b 78)) 102 = some (nI (F.2.1 78).length) ∧ (∀ i, rb_aI (fx_mk σ b F) (some (fx_ad b 79)) 104 i = fx_ix (F.2.1 79) i) ∧ rb_len (fx_mk σ b F) (some (fx_ad b 79)) 104 = some (nI (F.2.1 79).length) ∧ (∀ i, rb_aI (fx_mk σ b F) (some (fx_ad b 80)) 102 i = fx_ix (F.2.1 80) i) ∧ rb_len (fx_mk σ b F) (some (fx_ad b 80)) 102 = some (nI (F.2.1 80).length) ∧ (∀ i, rb_aI (fx_mk σ b F) (some (fx_ad b 81)) 104 i = fx_ix (F.2.1 81) i) ∧ rb_len (fx_mk σ b F) (some (fx_ad b 81)) 104 = some (nI (F.2.1 81).length) ∧ (∀ i, rb_aI (fx_mk σ b F) (some (fx_ad b 82)) 102 i = fx_ix (F.2.1 82) i) ∧ rb_len (fx_mk σ b F) (some (fx_ad b 82)) 102 = some (nI (F.2.1 82).length) :=
  ⟨fx_fc (by decide) rfl, fx_gC (by decide) rfl (by decide) (by decide) rfl, fx_gI (by decide) rfl (by decide) (by decide) rfl, fx_gI (by decide) rfl (by decide) (by decide) rfl, fx_gC (by decide) rfl (by decide) (by decide) rfl, fx_gC (by decide) rfl (by decide) (by decide) rfl, fx_gC (by decide) rfl (by decide) (by decide) rfl, fx_gC (by decide) rfl (by decide) (by decide) rfl, fx_gI (by decide) rfl (by decide) (by decide) rfl, fx_gC (by decide) rfl (by decide) (by decide) rfl, fx_gC (by decide) rfl (by decide) (by decide) rfl, fx_gC (by decide) rfl (by decide) (by decide) rfl, fx_gC (by decide) rfl (by decide) (by decide) rfl, fx_gC (by decide) rfl (by decide) (by decide) rfl, fx_gC (by decide) rfl (by decide) (by decide) rfl, fx_gC (by decide) rfl (by decide) (by decide) rfl, fx_gC (by decide) rfl (by decide) (by decide) rfl, fx_gI (by decide) rfl (by decide) (by decide) rfl, fx_gC (by decide) rfl (by decide) (by decide) rfl, fx_gI (by decide) rfl (by decide) (by decide) rfl, fx_gC (by decide) rfl (by decide) (by decide) rfl, fx_gC (by decide) rfl (by decide) (by decide) rfl, fx_gC (by decide) rfl (by decide) (by decide) rfl, fx_gI (by decide) rfl (by decide) (by decide) rfl, fx_gI (by decide) rfl (by decide) (by decide) rfl, fx_gC (by decide) rfl (by decide) (by decide) rfl, fx_gC (by decide) rfl (by decide) (by decide) rfl, fx_gI (by decide) rfl (by decide) (by decide) rfl, fx_gC (by decide) rfl (by decide) (by decide) rfl, fx_gC (by decide) rfl (by decide) (by decide) rfl, fx_gI (by decide) rfl (by decide) (by decide) rfl, fx_gC (by decide) rfl (by decide) (by decide) rfl, fx_gC (by decide) rfl (by decide) (by decide) rfl, fx_gC (by decide) rfl (by decide) (by decide) rfl, fx_gI (by decide) rfl (by decide) (by decide) rfl, fx_gC (by decide) rfl (by decide) (by decide) rfl, fx_gC (by decide) rfl (by decide) (by decide) rfl, fx_gC (by decide) rfl (by decide) (by decide) rfl, fx_gI (by decide) rfl (by decide) (by decide) rfl, fx_gI (by decide) rfl (by decide) (by decide) rfl, fx_gI (by decide) rfl (by decide) (by decide) rfl, fx_gI (by decide) rfl (by decide) (by decide) rfl, fx_gI (by decide) rfl (by decide) (by decide) rfl, fx_gI (by decide) rfl (by decide) (by decide) rfl, fx_gC (by decide) rfl (by decide) (by decide) rfl, fx_gI (by decide) rfl (by decide) (by decide) rfl, fx_gC (by decide) rfl (by decide) (by decide) rfl, fx_gC (by decide) rfl (by decide) (by decide) rfl, fx_gI (by decide) rfl (by decide) (by decide) rfl, fx_gI (by decide) rfl (by decide) (by decide) rfl, fx_gC (by decide) rfl (by decide) (by decide) rfl, fx_gC (by decide) rfl (by decide) (by decide) rfl, fx_gC (by decide) rfl (by decide) (by decide) rfl, fx_gC (by decide) rfl (by decide) (by decide) rfl, fx_gC (by decide) rfl (by decide) (by decide) rfl, fx_gC (by decide) rfl (by decide) (by decide) rfl, fx_gC (by decide) rfl (by decide) (by decide) rfl, fx_gI (by decide) rfl (by decide) (by decide) rfl, fx_gC (by decide) rfl (by decide) (by decide) rfl, fx_gC (by decide) rfl (by decide) (by decide) rfl, fx_gC (by decide) rfl (by decide) (by decide) rfl, fx_gC (by decide) rfl (by decide) (by decide) rfl, fx_gC (by decide) rfl (by decide) (by decide) rfl, fx_gC (by decide) rfl (by decide) (by decide) rfl, fx_gC (by decide) rfl (by decide) (by decide) rfl, fx_gC (by decide) rfl (by decide) (by decide) rfl, fx_gC (by decide) rfl (by decide) (by decide) rfl, fx_gI (by decide) rfl (by decide) (by decide) rfl, fx_gC (by decide) rfl (by decide) (by decide) rfl, fx_gI (by decide) rfl (by decide) (by decide) rfl, fx_gI (by decide) rfl (by decide) (by decide) rfl, fx_gI (by decide) rfl (by decide) (by decide) rfl, fx_gC (by decide) rfl (by decide) (by decide) rfl, fx_gI (by decide) rfl (by decide) (by decide) rfl, (fun i => fx_aI (by decide) rfl (by decide)), fx_lenA (by decide) rfl (by decide), (fun i => fx_aL (by decide) rfl), (fun i => fx_aI (by decide) rfl (by decide)), fx_lenA (by decide) rfl (by decide), (fun i => fx_aI (by decide) rfl (by decide)), fx_lenA (by decide) rfl (by decide), (fun i => fx_aI (by decide) rfl (by decide)), fx_lenA (by decide) rfl (by decide), (fun i => fx_aI (by decide) rfl (by decide)), fx_lenA (by decide) rfl (by decide), (fun i => fx_aI (by decide) rfl (by decide)), fx_lenA (by decide) rfl (by decide), (fun i => fx_aI (by decide) rfl (by decide)), fx_lenA (by decide) rfl (by decide), (fun i => fx_aI (by decide) rfl (by decide)), fx_lenA (by decide) rfl (by decide), (fun i => fx_aI (by decide) rfl (by decide)), fx_lenA (by decide) rfl (by decide), (fun i => fx_aI (by decide) rfl (by decide)), fx_lenA (by decide) rfl (by decide), (fun i => fx_aI (by decide) rfl (by decide)), fx_lenA (by decide) rfl (by decide), (fun i => fx_aI (by decide) rfl (by decide)), fx_lenA (by decide) rfl (by decide), (fun i => fx_aL (by decide) rfl), (fun i => fx_aI (by decide) rfl (by decide)), fx_lenA (by decide) rfl (by decide), (fun i => fx_aI (by decide) rfl (by decide)), fx_lenA (by decide) rfl (by decide), (fun i => fx_aI (by decide) rfl (by decide)), fx_lenA (by decide) rfl (by decide), (fun i => fx_aI (by decide) rfl (by decide)), fx_lenA (by decide) rfl (by decide), (fun i => fx_aI (by decide) rfl (by decide)), fx_lenA (by decide) rfl (by decide), (fun i => fx_aI (by decide) rfl (by decide)), fx_lenA (by decide) rfl (by decide), (fun i => fx_aI (by decide) rfl (by decide)), fx_lenA (by decide) rfl (by decide), (fun i => fx_aI (by decide) rfl (by decide)), fx_lenA (by decide) rfl (by decide), (fun i => fx_aI (by decide) rfl (by decide)), fx_lenA (by decide) rfl (by decide), (fun i => fx_aI (by decide) rfl (by decide)), fx_lenA (by decide) rfl (by decide), (fun i => fx_aL (by decide) rfl), (fun i => fx_aL (by decide) rfl), (fun i => fx_aI (by decide) rfl (by decide)), fx_lenA (by decide) rfl (by decide), (fun i => fx_aI (by decide) rfl (by decide)), fx_lenA (by decide) rfl (by decide), (fun i => fx_aI (by decide) rfl (by decide)), fx_lenA (by decide) rfl (by decide), (fun i => fx_aI (by decide) rfl (by decide)), fx_lenA (by decide) rfl (by decide), (fun i => fx_aI (by decide) rfl (by decide)), fx_lenA (by decide) rfl (by decide), (fun i => fx_aI (by decide) rfl (by decide)), fx_lenA (by decide) rfl (by decide), (fun i => fx_aI (by decide) rfl (by decide)), fx_lenA (by decide) rfl (by decide), (fun i => fx_aI (by decide) rfl (by decide)), fx_lenA (by decide) rfl (by decide), (fun i => fx_aI (by decide) rfl (by decide)), fx_lenA (by decide) rfl (by decide), (fun i => fx_aI (by decide) rfl (by decide)), fx_lenA (by decide) rfl (by decide), (fun i => fx_aI (by decide) rfl (by decide)), fx_lenA (by decide) rfl (by decide), (fun i => fx_aI (by decide) rfl (by decide)), fx_lenA (by decide) rfl (by decide), (fun i => fx_aI (by decide) rfl (by decide)), fx_lenA (by decide) rfl (by decide), (fun i => fx_aI (by decide) rfl (by decide)), fx_lenA (by decide) rfl (by decide), (fun i => fx_aI (by decide) rfl (by decide)), fx_lenA (by decide) rfl (by decide), (fun i => fx_aI (by decide) rfl (by decide)), fx_lenA (by decide) rfl (by decide), (fun i => fx_aL (by decide) rfl), (fun i => fx_aI (by decide) rfl (by decide)), fx_lenA (by decide) rfl (by decide), (fun i => fx_aI (by decide) rfl (by decide)), fx_lenA (by decide) rfl (by decide), (fun i => fx_aI (by decide) rfl (by decide)), fx_lenA (by decide) rfl (by decide), (fun i => fx_aI (by decide) rfl (by decide)), fx_lenA (by decide) rfl (by decide), (fun i => fx_aI (by decide) rfl (by decide)), fx_lenA (by decide) rfl (by decide)⟩
theorem fx_wc {σ : rb_St} {b : Nat} {F : fx_F} (hb : rb_b σ ≤ b) : (∀ x, rb_pI (fx_mk σ b F) (some (fx_ad b 1)) 2 1 x = some (fx_mk σ b (fx_I F 101 x))) ∧ (∀ i x, rb_sI (fx_mk σ b F) (some (fx_ad b 2)) 101 i x = if ¬ i < 0 ∧ i.toNatClampNeg < (F.2.1 2).length then some (fx_mk σ b (fx_A F 2 ((F.2.1 2).set i.toNatClampNeg (fx_nar 101 x)))) else none) ∧ (∀ x, rb_pI (fx_mk σ b F) (some (fx_ad b 3)) 3 1 x = some (fx_mk σ b (fx_I F 301 x))) ∧ (∀ x, rb_pI (fx_mk σ b F) (some (fx_ad b 3)) 3 2 x = some (fx_mk σ b (fx_I F 302 x))) ∧ (∀ x, rb_pI (fx_mk σ b F) (some (fx_ad b 5)) 4 1 x = some (fx_mk σ b (fx_I F 501 x))) ∧ (∀ x, rb_pI (fx_mk σ b F) (some (fx_ad b 5)) 4 5 x = some (fx_mk σ b (fx_I F 505 x))) ∧ (∀ x, rb_pI (fx_mk σ b F) (some (fx_ad b 5)) 4 7 x = some (fx_mk σ b (fx_I F 507 x))) ∧ (∀ x, rb_pI (fx_mk σ b F) (some (fx_ad b 5)) 4 10 x = some (fx_mk σ b (fx_I F 510 x))) ∧ (∀ x, rb_pI (fx_mk σ b F) (some (fx_ad b 5)) 4 11 x = some (fx_mk σ b (fx_I F 511 x))) ∧ (∀ r, rb_pR (fx_mk σ b F) (some (fx_ad b 5)) 4 12 r = some (fx_mk σ b (fx_R F 512 r))) ∧ (∀ x, rb_pZ (fx_mk σ b F) (some (fx_ad b 5)) 4 13 x = if x = 0 ∨ x = 1 then some (fx_mk σ b (fx_I F 513 x)) else none) ∧ (∀ x, rb_pZ (fx_mk σ b F) (some (fx_ad b 5)) 4 14 x = if x = 0 ∨ x = 1 then some (fx_mk σ b (fx_I F 514 x)) else none) ∧ (∀ i x, rb_sI (fx_mk σ b F) (some (fx_ad b 9)) 102 i x = if ¬ i < 0 ∧ i.toNatClampNeg < (F.2.1 9).length then some (fx_mk σ b (fx_A F 9 ((F.2.1 9).set i.toNatClampNeg (fx_nar 102 x)))) else none) ∧ (∀ x, rb_pI (fx_mk σ b F) (some (fx_ad b 13)) 5 5 x = some (fx_mk σ b (fx_I F 1305 x))) ∧ (∀ r, rb_pR (fx_mk σ b F) (some (fx_ad b 13)) 5 6 r = some (fx_mk σ b (fx_R F 1306 r))) ∧ (∀ x, rb_pI (fx_mk σ b F) (some (fx_ad b 14)) 2 1 x = some (fx_mk σ b (fx_I F 1401 x))) ∧ (∀ i x, rb_sI (fx_mk σ b F) (some (fx_ad b 15)) 101 i x = if ¬ i < 0 ∧ i.toNatClampNeg < (F.2.1 15).length then some (fx_mk σ b (fx_A F 15 ((F.2.1 15).set i.toNatClampNeg (fx_nar 101 x)))) else none) ∧ (∀ x, rb_pI (fx_mk σ b F) (some (fx_ad b 16)) 2 1 x = some (fx_mk σ b (fx_I F 1601 x))) ∧ (∀ i x, rb_sI (fx_mk σ b F) (some (fx_ad b 17)) 101 i x = if ¬ i < 0 ∧ i.toNatClampNeg < (F.2.1 17).length then some (fx_mk σ b (fx_A F 17 ((F.2.1 17).set i.toNatClampNeg (fx_nar 101 x)))) else none) ∧ (∀ i x, rb_sI (fx_mk σ b F) (some (fx_ad b 20)) 102 i x = if ¬ i < 0 ∧ i.toNatClampNeg < (F.2.1 20).length then some (fx_mk σ b (fx_A F 20 ((F.2.1 20).set i.toNatClampNeg (fx_nar 102 x)))) else none) ∧ (∀ x, rb_pI (fx_mk σ b F) (some (fx_ad b 21)) 6 4 x = some (fx_mk σ b (fx_I F 2104 x))) ∧ (∀ i x, rb_sI (fx_mk σ b F) (some (fx_ad b 22)) 102 i x = if ¬ i < 0 ∧ i.toNatClampNeg < (F.2.1 22).length then some (fx_mk σ b (fx_A F 22 ((F.2.1 22).set i.toNatClampNeg (fx_nar 102 x)))) else none) ∧ (∀ i x, rb_sI (fx_mk σ b F) (some (fx_ad b 23)) 102 i x = if ¬ i < 0 ∧ i.toNatClampNeg < (F.2.1 23).length then some (fx_mk σ b (fx_A F 23 ((F.2.1 23).set i.toNatClampNeg (fx_nar 102 x)))) else none) ∧ (∀ x, rb_pI (fx_mk σ b F) (some (fx_ad b 26)) 2 1 x = some (fx_mk σ b (fx_I F 2601 x))) ∧ (∀ i x, rb_sI (fx_mk σ b F) (some (fx_ad b 27)) 101 i x = if ¬ i < 0 ∧ i.toNatClampNeg < (F.2.1 27).length then some (fx_mk σ b (fx_A F 27 ((F.2.1 27).set i.toNatClampNeg (fx_nar 101 x)))) else none) ∧ (∀ x, rb_pI (fx_mk σ b F) (some (fx_ad b 28)) 8 5 x = some (fx_mk σ b (fx_I F 2805 x))) ∧ (∀ x, rb_pI (fx_mk σ b F) (some (fx_ad b 28)) 8 6 x = some (fx_mk σ b (fx_I F 2806 x))) ∧ (∀ x, rb_pI (fx_mk σ b F) (some (fx_ad b 28)) 8 7 x = some (fx_mk σ b (fx_I F 2807 x))) ∧ (∀ x, rb_pI (fx_mk σ b F) (some (fx_ad b 29)) 2 1 x = some (fx_mk σ b (fx_I F 2901 x))) ∧ (∀ i x, rb_sI (fx_mk σ b F) (some (fx_ad b 30)) 101 i x = if ¬ i < 0 ∧ i.toNatClampNeg < (F.2.1 30).length then some (fx_mk σ b (fx_A F 30 ((F.2.1 30).set i.toNatClampNeg (fx_nar 101 x)))) else none) ∧ (∀ x, rb_pI (fx_mk σ b F) (some (fx_ad b 31)) 9 5 x = some (fx_mk σ b (fx_I F 3105 x))) ∧ (∀ x, rb_pZ (fx_mk σ b F) (some (fx_ad b 31)) 9 6 x = if x = 0 ∨ x = 1 then some (fx_mk σ b (fx_I F 3106 x)) else none) ∧ (∀ x, rb_pI (fx_mk σ b F) (some (fx_ad b 31)) 9 7 x = some (fx_mk σ b (fx_I F 3107 x))) ∧ (∀ x, rb_pI (fx_mk σ b F) (some (fx_ad b 32)) 2 1 x = some (fx_mk σ b (fx_I F 3201 x))) ∧ (∀ i x, rb_sI (fx_mk σ b F) (some (fx_ad b 33)) 101 i x = if ¬ i < 0 ∧ i.toNatClampNeg < (F.2.1 33).length then some (fx_mk σ b (fx_A F 33 ((F.2.1 33).set i.toNatClampNeg (fx_nar 101 x)))) else none) :=
  ⟨(fun x => fx_pI (by decide) rfl (by decide) (by decide) rfl hb), (fun i x => fx_sI (by decide) rfl (by decide) hb), (fun x => fx_pI (by decide) rfl (by decide) (by decide) rfl hb), (fun x => fx_pI (by decide) rfl (by decide) (by decide) rfl hb), (fun x => fx_pI (by decide) rfl (by decide) (by decide) rfl hb), (fun x => fx_pI (by decide) rfl (by decide) (by decide) rfl hb), (fun x => fx_pI (by decide) rfl (by decide) (by decide) rfl hb), (fun x => fx_pI (by decide) rfl (by decide) (by decide) rfl hb), (fun x => fx_pI (by decide) rfl (by decide) (by decide) rfl hb), (fun r => fx_pR (by decide) rfl (by decide) (by decide) rfl hb), (fun x => fx_pZ (by decide) rfl (by decide) (by decide) rfl hb), (fun x => fx_pZ (by decide) rfl (by decide) (by decide) rfl hb), (fun i x => fx_sI (by decide) rfl (by decide) hb), (fun x => fx_pI (by decide) rfl (by decide) (by decide) rfl hb), (fun r => fx_pR (by decide) rfl (by decide) (by decide) rfl hb), (fun x => fx_pI (by decide) rfl (by decide) (by decide) rfl hb), (fun i x => fx_sI (by decide) rfl (by decide) hb), (fun x => fx_pI (by decide) rfl (by decide) (by decide) rfl hb), (fun i x => fx_sI (by decide) rfl (by decide) hb), (fun i x => fx_sI (by decide) rfl (by decide) hb), (fun x => fx_pI (by decide) rfl (by decide) (by decide) rfl hb), (fun i x => fx_sI (by decide) rfl (by decide) hb), (fun i x => fx_sI (by decide) rfl (by decide) hb), (fun x => fx_pI (by decide) rfl (by decide) (by decide) rfl hb), (fun i x => fx_sI (by decide) rfl (by decide) hb), (fun x => fx_pI (by decide) rfl (by decide) (by decide) rfl hb), (fun x => fx_pI (by decide) rfl (by decide) (by decide) rfl hb), (fun x => fx_pI (by decide) rfl (by decide) (by decide) rfl hb), (fun x => fx_pI (by decide) rfl (by decide) (by decide) rfl hb), (fun i x => fx_sI (by decide) rfl (by decide) hb), (fun x => fx_pI (by decide) rfl (by decide) (by decide) rfl hb), (fun x => fx_pZ (by decide) rfl (by decide) (by decide) rfl hb), (fun x => fx_pI (by decide) rfl (by decide) (by decide) rfl hb), (fun x => fx_pI (by decide) rfl (by decide) (by decide) rfl hb), (fun i x => fx_sI (by decide) rfl (by decide) hb)⟩
theorem fx_wm {σ : rb_St} {b : Nat} {F : fx_F} (hb : rb_b σ ≤ b) : (∀ x, rb_pI (fx_mk σ b F) (some (fx_ad b 34)) 13 1 x = some (fx_mk σ b (fx_I F 3401 x))) ∧ (∀ x, rb_pI (fx_mk σ b F) (some (fx_ad b 34)) 13 2 x = some (fx_mk σ b (fx_I F 3402 x))) ∧ (∀ x, rb_pI (fx_mk σ b F) (some (fx_ad b 34)) 13 7 x = some (fx_mk σ b (fx_I F 3407 x))) ∧ (∀ x, rb_pI (fx_mk σ b F) (some (fx_ad b 34)) 13 16 x = some (fx_mk σ b (fx_I F 3416 x))) ∧ (∀ x, rb_pI (fx_mk σ b F) (some (fx_ad b 34)) 13 18 x = some (fx_mk σ b (fx_I F 3418 x))) ∧ (∀ x, rb_pZ (fx_mk σ b F) (some (fx_ad b 34)) 13 22 x = if x = 0 ∨ x = 1 then some (fx_mk σ b (fx_I F 3422 x)) else none) ∧ (∀ x, rb_pZ (fx_mk σ b F) (some (fx_ad b 34)) 13 23 x = if x = 0 ∨ x = 1 then some (fx_mk σ b (fx_I F 3423 x)) else none) ∧ (∀ x, rb_pI (fx_mk σ b F) (some (fx_ad b 34)) 13 26 x = some (fx_mk σ b (fx_I F 3426 x))) ∧ (∀ x, rb_pI (fx_mk σ b F) (some (fx_ad b 34)) 13 29 x = some (fx_mk σ b (fx_I F 3429 x))) ∧ (∀ x, rb_pI (fx_mk σ b F) (some (fx_ad b 34)) 13 33 x = some (fx_mk σ b (fx_I F 3433 x))) ∧ (∀ x, rb_pI (fx_mk σ b F) (some (fx_ad b 34)) 13 37 x = some (fx_mk σ b (fx_I F 3437 x))) ∧ (∀ x, rb_pI (fx_mk σ b F) (some (fx_ad b 34)) 13 38 x = some (fx_mk σ b (fx_I F 3438 x))) ∧ (∀ x, rb_pI (fx_mk σ b F) (some (fx_ad b 34)) 13 39 x = some (fx_mk σ b (fx_I F 3439 x))) ∧ (∀ x, rb_pI (fx_mk σ b F) (some (fx_ad b 34)) 13 40 x = some (fx_mk σ b (fx_I F 3440 x))) ∧ (∀ x, rb_pI (fx_mk σ b F) (some (fx_ad b 34)) 13 41 x = some (fx_mk σ b (fx_I F 3441 x))) ∧ (∀ x, rb_pI (fx_mk σ b F) (some (fx_ad b 34)) 13 42 x = some (fx_mk σ b (fx_I F 3442 x))) ∧ (∀ x, rb_pI (fx_mk σ b F) (some (fx_ad b 34)) 13 44 x = some (fx_mk σ b (fx_I F 3444 x))) ∧ (∀ x, rb_pI (fx_mk σ b F) (some (fx_ad b 34)) 13 47 x = some (fx_mk σ b (fx_I F 3447 x))) ∧ (∀ x, rb_pI (fx_mk σ b F) (some (fx_ad b 34)) 13 48 x = some (fx_mk σ b (fx_I F 3448 x))) ∧ (∀ x, rb_pI (fx_mk σ b F) (some (fx_ad b 34)) 13 56 x = some (fx_mk σ b (fx_I F 3456 x))) ∧ (∀ x, rb_pI (fx_mk σ b F) (some (fx_ad b 34)) 13 66 x = some (fx_mk σ b (fx_I F 3466 x))) ∧ (∀ x, rb_pI (fx_mk σ b F) (some (fx_ad b 34)) 13 68 x = some (fx_mk σ b (fx_I F 3468 x))) ∧ (∀ x, rb_pZ (fx_mk σ b F) (some (fx_ad b 34)) 13 69 x = if x = 0 ∨ x = 1 then some (fx_mk σ b (fx_I F 3469 x)) else none) ∧ (∀ x, rb_pI (fx_mk σ b F) (some (fx_ad b 34)) 13 70 x = some (fx_mk σ b (fx_I F 3470 x))) ∧ (∀ x, rb_pI (fx_mk σ b F) (some (fx_ad b 34)) 13 72 x = some (fx_mk σ b (fx_I F 3472 x))) ∧ (∀ i x, rb_sI (fx_mk σ b F) (some (fx_ad b 35)) 102 i x = if ¬ i < 0 ∧ i.toNatClampNeg < (F.2.1 35).length then some (fx_mk σ b (fx_A F 35 ((F.2.1 35).set i.toNatClampNeg (fx_nar 102 x)))) else none) ∧ (∀ i x, rb_sL (fx_mk σ b F) (some (fx_ad b 36)) 103 i x = if ¬ i < 0 ∧ i.toNatClampNeg < (F.2.2.1 36).length then some (fx_mk σ b (fx_L F 36 ((F.2.2.1 36).set i.toNatClampNeg x))) else none) ∧ (∀ i x, rb_sI (fx_mk σ b F) (some (fx_ad b 37)) 104 i x = if ¬ i < 0 ∧ i.toNatClampNeg < (F.2.1 37).length then some (fx_mk σ b (fx_A F 37 ((F.2.1 37).set i.toNatClampNeg (fx_nar 104 x)))) else none) ∧ (∀ i x, rb_sI (fx_mk σ b F) (some (fx_ad b 38)) 102 i x = if ¬ i < 0 ∧ i.toNatClampNeg < (F.2.1 38).length then some (fx_mk σ b (fx_A F 38 ((F.2.1 38).set i.toNatClampNeg (fx_nar 102 x)))) else none) ∧ (∀ i x, rb_sI (fx_mk σ b F) (some (fx_ad b 39)) 102 i x = if ¬ i < 0 ∧ i.toNatClampNeg < (F.2.1 39).length then some (fx_mk σ b (fx_A F 39 ((F.2.1 39).set i.toNatClampNeg (fx_nar 102 x)))) else none) ∧ (∀ i x, rb_sI (fx_mk σ b F) (some (fx_ad b 40)) 104 i x = if ¬ i < 0 ∧ i.toNatClampNeg < (F.2.1 40).length then some (fx_mk σ b (fx_A F 40 ((F.2.1 40).set i.toNatClampNeg (fx_nar 104 x)))) else none) ∧ (∀ i x, rb_sI (fx_mk σ b F) (some (fx_ad b 41)) 102 i x = if ¬ i < 0 ∧ i.toNatClampNeg < (F.2.1 41).length then some (fx_mk σ b (fx_A F 41 ((F.2.1 41).set i.toNatClampNeg (fx_nar 102 x)))) else none) ∧ (∀ i x, rb_sI (fx_mk σ b F) (some (fx_ad b 42)) 102 i x = if ¬ i < 0 ∧ i.toNatClampNeg < (F.2.1 42).length then some (fx_mk σ b (fx_A F 42 ((F.2.1 42).set i.toNatClampNeg (fx_nar 102 x)))) else none) ∧ (∀ i x, rb_sI (fx_mk σ b F) (some (fx_ad b 43)) 104 i x = if ¬ i < 0 ∧ i.toNatClampNeg < (F.2.1 43).length then some (fx_mk σ b (fx_A F 43 ((F.2.1 43).set i.toNatClampNeg (fx_nar 104 x)))) else none) ∧ (∀ i x, rb_sI (fx_mk σ b F) (some (fx_ad b 44)) 102 i x = if ¬ i < 0 ∧ i.toNatClampNeg < (F.2.1 44).length then some (fx_mk σ b (fx_A F 44 ((F.2.1 44).set i.toNatClampNeg (fx_nar 102 x)))) else none) ∧ (∀ i x, rb_sI (fx_mk σ b F) (some (fx_ad b 45)) 102 i x = if ¬ i < 0 ∧ i.toNatClampNeg < (F.2.1 45).length then some (fx_mk σ b (fx_A F 45 ((F.2.1 45).set i.toNatClampNeg (fx_nar 102 x)))) else none) ∧ (∀ i x, rb_sI (fx_mk σ b F) (some (fx_ad b 46)) 102 i x = if ¬ i < 0 ∧ i.toNatClampNeg < (F.2.1 46).length then some (fx_mk σ b (fx_A F 46 ((F.2.1 46).set i.toNatClampNeg (fx_nar 102 x)))) else none) ∧ (∀ i x, rb_sI (fx_mk σ b F) (some (fx_ad b 47)) 102 i x = if ¬ i < 0 ∧ i.toNatClampNeg < (F.2.1 47).length then some (fx_mk σ b (fx_A F 47 ((F.2.1 47).set i.toNatClampNeg (fx_nar 102 x)))) else none) ∧ (∀ i x, rb_sL (fx_mk σ b F) (some (fx_ad b 48)) 103 i x = if ¬ i < 0 ∧ i.toNatClampNeg < (F.2.2.1 48).length then some (fx_mk σ b (fx_L F 48 ((F.2.2.1 48).set i.toNatClampNeg x))) else none) ∧ (∀ i x, rb_sI (fx_mk σ b F) (some (fx_ad b 49)) 104 i x = if ¬ i < 0 ∧ i.toNatClampNeg < (F.2.1 49).length then some (fx_mk σ b (fx_A F 49 ((F.2.1 49).set i.toNatClampNeg (fx_nar 104 x)))) else none) ∧ (∀ i x, rb_sI (fx_mk σ b F) (some (fx_ad b 50)) 104 i x = if ¬ i < 0 ∧ i.toNatClampNeg < (F.2.1 50).length then some (fx_mk σ b (fx_A F 50 ((F.2.1 50).set i.toNatClampNeg (fx_nar 104 x)))) else none) ∧ (∀ i x, rb_sI (fx_mk σ b F) (some (fx_ad b 51)) 104 i x = if ¬ i < 0 ∧ i.toNatClampNeg < (F.2.1 51).length then some (fx_mk σ b (fx_A F 51 ((F.2.1 51).set i.toNatClampNeg (fx_nar 104 x)))) else none) ∧ (∀ i x, rb_sI (fx_mk σ b F) (some (fx_ad b 52)) 104 i x = if ¬ i < 0 ∧ i.toNatClampNeg < (F.2.1 52).length then some (fx_mk σ b (fx_A F 52 ((F.2.1 52).set i.toNatClampNeg (fx_nar 104 x)))) else none) ∧ (∀ i x, rb_sI (fx_mk σ b F) (some (fx_ad b 53)) 102 i x = if ¬ i < 0 ∧ i.toNatClampNeg < (F.2.1 53).length then some (fx_mk σ b (fx_A F 53 ((F.2.1 53).set i.toNatClampNeg (fx_nar 102 x)))) else none) ∧ (∀ i x, rb_sI (fx_mk σ b F) (some (fx_ad b 54)) 102 i x = if ¬ i < 0 ∧ i.toNatClampNeg < (F.2.1 54).length then some (fx_mk σ b (fx_A F 54 ((F.2.1 54).set i.toNatClampNeg (fx_nar 102 x)))) else none) ∧ (∀ i x, rb_sI (fx_mk σ b F) (some (fx_ad b 55)) 102 i x = if ¬ i < 0 ∧ i.toNatClampNeg < (F.2.1 55).length then some (fx_mk σ b (fx_A F 55 ((F.2.1 55).set i.toNatClampNeg (fx_nar 102 x)))) else none) ∧ (∀ i x, rb_sI (fx_mk σ b F) (some (fx_ad b 56)) 102 i x = if ¬ i < 0 ∧ i.toNatClampNeg < (F.2.1 56).length then some (fx_mk σ b (fx_A F 56 ((F.2.1 56).set i.toNatClampNeg (fx_nar 102 x)))) else none) ∧ (∀ i x, rb_sI (fx_mk σ b F) (some (fx_ad b 57)) 102 i x = if ¬ i < 0 ∧ i.toNatClampNeg < (F.2.1 57).length then some (fx_mk σ b (fx_A F 57 ((F.2.1 57).set i.toNatClampNeg (fx_nar 102 x)))) else none) ∧ (∀ i x, rb_sI (fx_mk σ b F) (some (fx_ad b 58)) 102 i x = if ¬ i < 0 ∧ i.toNatClampNeg < (F.2.1 58).length then some (fx_mk σ b (fx_A F 58 ((F.2.1 58).set i.toNatClampNeg (fx_nar 102 x)))) else none) ∧ (∀ i x, rb_sL (fx_mk σ b F) (some (fx_ad b 59)) 103 i x = if ¬ i < 0 ∧ i.toNatClampNeg < (F.2.2.1 59).length then some (fx_mk σ b (fx_L F 59 ((F.2.2.1 59).set i.toNatClampNeg x))) else none) ∧ (∀ i x, rb_sL (fx_mk σ b F) (some (fx_ad b 60)) 103 i x = if ¬ i < 0 ∧ i.toNatClampNeg < (F.2.2.1 60).length then some (fx_mk σ b (fx_L F 60 ((F.2.2.1 60).set i.toNatClampNeg x))) else none) ∧ (∀ i x, rb_sI (fx_mk σ b F) (some (fx_ad b 61)) 102 i x = if ¬ i < 0 ∧ i.toNatClampNeg < (F.2.1 61).length then some (fx_mk σ b (fx_A F 61 ((F.2.1 61).set i.toNatClampNeg (fx_nar 102 x)))) else none) ∧ (∀ i x, rb_sI (fx_mk σ b F) (some (fx_ad b 62)) 102 i x = if ¬ i < 0 ∧ i.toNatClampNeg < (F.2.1 62).length then some (fx_mk σ b (fx_A F 62 ((F.2.1 62).set i.toNatClampNeg (fx_nar 102 x)))) else none) ∧ (∀ i x, rb_sI (fx_mk σ b F) (some (fx_ad b 63)) 102 i x = if ¬ i < 0 ∧ i.toNatClampNeg < (F.2.1 63).length then some (fx_mk σ b (fx_A F 63 ((F.2.1 63).set i.toNatClampNeg (fx_nar 102 x)))) else none) ∧ (∀ i x, rb_sI (fx_mk σ b F) (some (fx_ad b 64)) 102 i x = if ¬ i < 0 ∧ i.toNatClampNeg < (F.2.1 64).length then some (fx_mk σ b (fx_A F 64 ((F.2.1 64).set i.toNatClampNeg (fx_nar 102 x)))) else none) ∧ (∀ i x, rb_sI (fx_mk σ b F) (some (fx_ad b 65)) 102 i x = if ¬ i < 0 ∧ i.toNatClampNeg < (F.2.1 65).length then some (fx_mk σ b (fx_A F 65 ((F.2.1 65).set i.toNatClampNeg (fx_nar 102 x)))) else none) ∧ (∀ i x, rb_sI (fx_mk σ b F) (some (fx_ad b 66)) 102 i x = if ¬ i < 0 ∧ i.toNatClampNeg < (F.2.1 66).length then some (fx_mk σ b (fx_A F 66 ((F.2.1 66).set i.toNatClampNeg (fx_nar 102 x)))) else none) ∧ (∀ i x, rb_sI (fx_mk σ b F) (some (fx_ad b 67)) 102 i x = if ¬ i < 0 ∧ i.toNatClampNeg < (F.2.1 67).length then some (fx_mk σ b (fx_A F 67 ((F.2.1 67).set i.toNatClampNeg (fx_nar 102 x)))) else none) ∧ (∀ i x, rb_sI (fx_mk σ b F) (some (fx_ad b 68)) 102 i x = if ¬ i < 0 ∧ i.toNatClampNeg < (F.2.1 68).length then some (fx_mk σ b (fx_A F 68 ((F.2.1 68).set i.toNatClampNeg (fx_nar 102 x)))) else none) ∧ (∀ i x, rb_sI (fx_mk σ b F) (some (fx_ad b 69)) 102 i x = if ¬ i < 0 ∧ i.toNatClampNeg < (F.2.1 69).length then some (fx_mk σ b (fx_A F 69 ((F.2.1 69).set i.toNatClampNeg (fx_nar 102 x)))) else none) ∧ (∀ i x, rb_sI (fx_mk σ b F) (some (fx_ad b 70)) 102 i x = if ¬ i < 0 ∧ i.toNatClampNeg < (F.2.1 70).length then some (fx_mk σ b (fx_A F 70 ((F.2.1 70).set i.toNatClampNeg (fx_nar 102 x)))) else none) ∧ (∀ i x, rb_sI (fx_mk σ b F) (some (fx_ad b 71)) 102 i x = if ¬ i < 0 ∧ i.toNatClampNeg < (F.2.1 71).length then some (fx_mk σ b (fx_A F 71 ((F.2.1 71).set i.toNatClampNeg (fx_nar 102 x)))) else none) ∧ (∀ i x, rb_sI (fx_mk σ b F) (some (fx_ad b 72)) 102 i x = if ¬ i < 0 ∧ i.toNatClampNeg < (F.2.1 72).length then some (fx_mk σ b (fx_A F 72 ((F.2.1 72).set i.toNatClampNeg (fx_nar 102 x)))) else none) ∧ (∀ i x, rb_sI (fx_mk σ b F) (some (fx_ad b 73)) 104 i x = if ¬ i < 0 ∧ i.toNatClampNeg < (F.2.1 73).length then some (fx_mk σ b (fx_A F 73 ((F.2.1 73).set i.toNatClampNeg (fx_nar 104 x)))) else none) ∧ (∀ i x, rb_sI (fx_mk σ b F) (some (fx_ad b 74)) 104 i x = if ¬ i < 0 ∧ i.toNatClampNeg < (F.2.1 74).length then some (fx_mk σ b (fx_A F 74 ((F.2.1 74).set i.toNatClampNeg (fx_nar 104 x)))) else none) ∧ (∀ i x, rb_sI (fx_mk σ b F) (some (fx_ad b 75)) 102 i x = if ¬ i < 0 ∧ i.toNatClampNeg < (F.2.1 75).length then some (fx_mk σ b (fx_A F 75 ((F.2.1 75).set i.toNatClampNeg (fx_nar 102 x)))) else none) ∧ (∀ i x, rb_sI (fx_mk σ b F) (some (fx_ad b 76)) 102 i x = if ¬ i < 0 ∧ i.toNatClampNeg < (F.2.1 76).length then some (fx_mk σ b (fx_A F 76 ((F.2.1 76).set i.toNatClampNeg (fx_nar 102 x)))) else none) ∧ (∀ i x, rb_sL (fx_mk σ b F) (some (fx_ad b 77)) 103 i x = if ¬ i < 0 ∧ i.toNatClampNeg < (F.2.2.1 77).length then some (fx_mk σ b (fx_L F 77 ((F.2.2.1 77).set i.toNatClampNeg x))) else none) ∧ (∀ i x, rb_sI (fx_mk σ b F) (some (fx_ad b 78)) 102 i x = if ¬ i < 0 ∧ i.toNatClampNeg < (F.2.1 78).length then some (fx_mk σ b (fx_A F 78 ((F.2.1 78).set i.toNatClampNeg (fx_nar 102 x)))) else none) ∧ (∀ i x, rb_sI (fx_mk σ b F) (some (fx_ad b 79)) 104 i x = if ¬ i < 0 ∧ i.toNatClampNeg < (F.2.1 79).length then some (fx_mk σ b (fx_A F 79 ((F.2.1 79).set i.toNatClampNeg (fx_nar 104 x)))) else none) ∧ (∀ i x, rb_sI (fx_mk σ b F) (some (fx_ad b 80)) 102 i x = if ¬ i < 0 ∧ i.toNatClampNeg < (F.2.1 80).length then some (fx_mk σ b (fx_A F 80 ((F.2.1 80).set i.toNatClampNeg (fx_nar 102 x)))) else none) ∧ (∀ i x, rb_sI (fx_mk σ b F) (some (fx_ad b 81)) 104 i x = if ¬ i < 0 ∧ i.toNatClampNeg < (F.2.1 81).length then some (fx_mk σ b (fx_A F 81 ((F.2.1 81).set i.toNatClampNeg (fx_nar 104 x)))) else none) ∧ (∀ i x, rb_sI (fx_mk σ b F) (some (fx_ad b 82)) 102 i x = if ¬ i < 0 ∧ i.toNatClampNeg < (F.2.1 82).length then some (fx_mk σ b (fx_A F 82 ((F.2.1 82).set i.toNatClampNeg (fx_nar 102 x)))) else none) :=
  ⟨(fun x => fx_pI (by decide) rfl (by decide) (by decide) rfl hb), (fun x => fx_pI (by decide) rfl (by decide) (by decide) rfl hb), (fun x => fx_pI (by decide) rfl (by decide) (by decide) rfl hb), (fun x => fx_pI (by decide) rfl (by decide) (by decide) rfl hb), (fun x => fx_pI (by decide) rfl (by decide) (by decide) rfl hb), (fun x => fx_pZ (by decide) rfl (by decide) (by decide) rfl hb), (fun x => fx_pZ (by decide) rfl (by decide) (by decide) rfl hb), (fun x => fx_pI (by decide) rfl (by decide) (by decide) rfl hb), (fun x => fx_pI (by decide) rfl (by decide) (by decide) rfl hb), (fun x => fx_pI (by decide) rfl (by decide) (by decide) rfl hb), (fun x => fx_pI (by decide) rfl (by decide) (by decide) rfl hb), (fun x => fx_pI (by decide) rfl (by decide) (by decide) rfl hb), (fun x => fx_pI (by decide) rfl (by decide) (by decide) rfl hb), (fun x => fx_pI (by decide) rfl (by decide) (by decide) rfl hb), (fun x => fx_pI (by decide) rfl (by decide) (by decide) rfl hb), (fun x => fx_pI (by decide) rfl (by decide) (by decide) rfl hb), (fun x => fx_pI (by decide) rfl (by decide) (by decide) rfl hb), (fun x => fx_pI (by decide) rfl (by decide) (by decide) rfl hb), (fun x => fx_pI (by decide) rfl (by decide) (by decide) rfl hb), (fun x => fx_pI (by decide) rfl (by decide) (by decide) rfl hb), (fun x => fx_pI (by decide) rfl (by decide) (by decide) rfl hb), (fun x => fx_pI (by decide) rfl (by decide) (by decide) rfl hb), (fun x => fx_pZ (by decide) rfl (by decide) (by decide) rfl hb), (fun x => fx_pI (by decide) rfl (by decide) (by decide) rfl hb), (fun x => fx_pI (by decide) rfl (by decide) (by decide) rfl hb), (fun i x => fx_sI (by decide) rfl (by decide) hb), (fun i x => fx_sL (by decide) rfl hb), (fun i x => fx_sI (by decide) rfl (by decide) hb), (fun i x => fx_sI (by decide) rfl (by decide) hb), (fun i x => fx_sI (by decide) rfl (by decide) hb), (fun i x => fx_sI (by decide) rfl (by decide) hb), (fun i x => fx_sI (by decide) rfl (by decide) hb), (fun i x => fx_sI (by decide) rfl (by decide) hb), (fun i x => fx_sI (by decide) rfl (by decide) hb), (fun i x => fx_sI (by decide) rfl (by decide) hb), (fun i x => fx_sI (by decide) rfl (by decide) hb), (fun i x => fx_sI (by decide) rfl (by decide) hb), (fun i x => fx_sI (by decide) rfl (by decide) hb), (fun i x => fx_sL (by decide) rfl hb), (fun i x => fx_sI (by decide) rfl (by decide) hb), (fun i x => fx_sI (by decide) rfl (by decide) hb), (fun i x => fx_sI (by decide) rfl (by decide) hb), (fun i x => fx_sI (by decide) rfl (by decide) hb), (fun i x => fx_sI (by decide) rfl (by decide) hb), (fun i x => fx_sI (by decide) rfl (by decide) hb), (fun i x => fx_sI (by decide) rfl (by decide) hb), (fun i x => fx_sI (by decide) rfl (by decide) hb), (fun i x => fx_sI (by decide) rfl (by decide) hb), (fun i x => fx_sI (by decide) rfl (by decide) hb), (fun i x => fx_sL (by decide) rfl hb), (fun i x => fx_sL (by decide) rfl hb), (fun i x => fx_sI (by decide) rfl (by decide) hb), (fun i x => fx_sI (by decide) rfl (by decide) hb), (fun i x => fx_sI (by decide) rfl (by decide) hb), (fun i x => fx_sI (by decide) rfl (by decide) hb), (fun i x => fx_sI (by decide) rfl (by decide) hb), (fun i x => fx_sI (by decide) rfl (by decide) hb), (fun i x => fx_sI (by decide) rfl (by decide) hb), (fun i x => fx_sI (by decide) rfl (by decide) hb), (fun i x => fx_sI (by decide) rfl (by decide) hb), (fun i x => fx_sI (by decide) rfl (by decide) hb), (fun i x => fx_sI (by decide) rfl (by decide) hb), (fun i x => fx_sI (by decide) rfl (by decide) hb), (fun i x => fx_sI (by decide) rfl (by decide) hb), (fun i x => fx_sI (by decide) rfl (by decide) hb), (fun i x => fx_sI (by decide) rfl (by decide) hb), (fun i x => fx_sI (by decide) rfl (by decide) hb), (fun i x => fx_sL (by decide) rfl hb), (fun i x => fx_sI (by decide) rfl (by decide) hb), (fun i x => fx_sI (by decide) rfl (by decide) hb), (fun i x => fx_sI (by decide) rfl (by decide) hb), (fun i x => fx_sI (by decide) rfl (by decide) hb), (fun i x => fx_sI (by decide) rfl (by decide) hb)⟩
