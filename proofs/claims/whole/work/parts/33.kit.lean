/-! numbers, rows, and what a changed record reads -/
theorem u_l0 : (0 : Int32) = nI 0 := (rfl)
theorem u_l1 : (1 : Int32) = nI 1 := (rfl)
theorem u_l2 : (2 : Int32) = nI 2 := (rfl)
theorem u_l3 : (3 : Int32) = nI 3 := (rfl)
theorem u_l4 : (4 : Int32) = nI 4 := (rfl)
theorem u_l6 : (6 : Int32) = nI 6 := (rfl)
theorem u_l7 : (7 : Int32) = nI 7 := (rfl)
theorem u_l8 : (8 : Int32) = nI 8 := (rfl)
theorem u_l9 : (9 : Int32) = nI 9 := (rfl)
theorem u_l10 : (10 : Int32) = nI 10 := (rfl)
theorem u_l14 : (14 : Int32) = nI 14 := (rfl)
theorem u_l16 : (16 : Int32) = nI 16 := (rfl)
theorem u_l18 : (18 : Int32) = nI 18 := (rfl)
theorem u_l26 : (26 : Int32) = nI 26 := (rfl)
theorem u_l31 : (31 : Int32) = nI 31 := (rfl)
theorem u_l32 : (32 : Int32) = nI 32 := (rfl)
theorem u_l36 : (36 : Int32) = nI 36 := (rfl)
theorem u_l37 : (37 : Int32) = nI 37 := (rfl)
theorem u_l40 : (40 : Int32) = nI 40 := (rfl)
theorem u_l41 : (41 : Int32) = nI 41 := (rfl)
theorem u_l42 : (42 : Int32) = nI 42 := (rfl)
theorem u_l46 : (46 : Int32) = nI 46 := (rfl)
theorem u_l48 : (48 : Int32) = nI 48 := (rfl)
theorem u_l57 : (57 : Int32) = nI 57 := (rfl)
theorem u_l58 : (58 : Int32) = nI 58 := (rfl)
theorem u_l60 : (60 : Int32) = nI 60 := (rfl)
theorem u_l61 : (61 : Int32) = nI 61 := (rfl)
theorem u_l62 : (62 : Int32) = nI 62 := (rfl)
theorem u_l63 : (63 : Int32) = nI 63 := (rfl)
theorem u_l64 : (64 : Int32) = nI 64 := (rfl)
theorem u_l65 : (65 : Int32) = nI 65 := (rfl)
theorem u_l80 : (80 : Int32) = nI 80 := (rfl)
theorem u_l90 : (90 : Int32) = nI 90 := (rfl)
theorem u_l92 : (92 : Int32) = nI 92 := (rfl)
theorem u_l95 : (95 : Int32) = nI 95 := (rfl)
theorem u_l97 : (97 : Int32) = nI 97 := (rfl)
theorem u_l120 : (120 : Int32) = nI 120 := (rfl)
theorem u_l122 : (122 : Int32) = nI 122 := (rfl)
theorem u_l126 : (126 : Int32) = nI 126 := (rfl)
theorem u_l127 : (127 : Int32) = nI 127 := (rfl)
theorem u_l320 : (320 : Int32) = nI 320 := (rfl)
theorem u_l400 : (400 : Int32) = nI 400 := (rfl)
theorem u_lt {a b : Nat} (ha : a < 2147483648) (hb : b < 2147483648) : (nI a < nI b) = (a < b) := propext (nI_ltI ha hb)
theorem u_le {a b : Nat} (ha : a < 2147483648) (hb : b < 2147483648) : (nI a ≤ nI b) = (a ≤ b) := propext (nI_leI ha hb)
theorem u_eq {a b : Nat} (ha : a < 2147483648) (hb : b < 2147483648) : (nI a = nI b) = (a = b) := propext (nI_eq ha hb)
theorem u_add (a b : Nat) : nI a + nI b = nI (a + b) := nI_add a b
theorem u_sub {a b : Nat} (h : b ≤ a) : nI a - nI b = nI (a - b) := by
  have : nI a = nI (a - b) + nI b := by rw [u_add]; congr 1; omega
  rw [this]
  exact Int32.add_sub_cancel _ _
theorem u_mul (a b : Nat) : nI a * nI b = nI (a * b) := by
  unfold nI
  exact (Int32.ofNat_mul a b).symm
theorem u_cl {n : Nat} (h : n < 2147483648) : (nI n).toNatClampNeg = n := nI_clamp h
theorem u_in {k n : Nat} (h : k < n) (hn : k < 2147483648) : (¬ nI k < 0 ∧ (nI k).toNatClampNeg < n) = True := by
  rw [u_cl hn]
  simp [h, nI_pos hn]
theorem u_in0 {k n : Nat} (h : k < n) (hn : k < 2147483648) : (¬ nI k < nI 0 ∧ (nI k).toNatClampNeg < n) = True := u_in h hn
theorem u_ix {k : Nat} {l : List Int32} (hn : k < 2147483648) : fx_ix l (nI k) = l[k]? := by
  unfold fx_ix
  rw [if_neg (nI_pos hn), u_cl hn]
theorem u_ixL {k : Nat} {l : List Int64} (hn : k < 2147483648) : fx_ixL l (nI k) = l[k]? := by
  unfold fx_ixL
  rw [if_neg (nI_pos hn), u_cl hn]
theorem u_ixR {k : Nat} {l : List (Option Nat)} (hn : k < 2147483648) : fx_ixR l (nI k) = l[k]? := by
  unfold fx_ixR
  rw [if_neg (nI_pos hn), u_cl hn]
theorem u_nm1 {a : Nat} (ha : a < 2147483648) : (nI a = -1) = False := by
  refine eq_false (fun h => ?_)
  have h2 := nI_toInt (n := a) ha
  rw [h] at h2
  have : (-1 : Int32).toInt = -1 := rfl
  omega
theorem u_nm1' {a : Nat} (ha : a < 2147483648) : (-1 = nI a) = False := eq_false (fun h => by
  rw [← u_nm1 ha]
  exact h.symm)
theorem u_m1l {a : Nat} (ha : a < 2147483648) : (-1 < nI a) = True := by
  refine eq_true ?_
  rw [Int32.lt_iff_toInt_lt, nI_toInt ha]
  have : (-1 : Int32).toInt = -1 := rfl
  omega
theorem u_m1n {a : Nat} (ha : a < 2147483648) : (nI a ≤ -1) = False := by
  refine eq_false (fun h => ?_)
  rw [Int32.le_iff_toInt_le, nI_toInt ha] at h
  have : (-1 : Int32).toInt = -1 := rfl
  omega
theorem u_m10 : ((-1 : Int32) < nI 0) = True := by decide
theorem u_0m1 : (nI 0 ≤ (-1 : Int32)) = False := by decide
theorem u_b1 (k : Nat) : nI (k + 1) + (-1) = nI k := by
  rw [← nI_1, Int32.add_assoc]
  exact Int32.add_zero _
theorem u_0b1 : nI 0 + (-1) = -1 := by decide
theorem u_sb1 (k : Nat) : nI (k + 1) - nI 1 = nI k := by rw [u_sub (by omega)]; rfl
theorem u_nar2 (x : Int32) : fx_nar 102 x = x := rfl
theorem u_nar4 {k : Nat} (h : k < 2) : fx_nar 104 (nI k) = nI k := by
  have : k = 0 ∨ k = 1 := by omega
  rcases this with rfl | rfl <;> decide
theorem u_nar1 {k : Nat} (h : k < 65536) : fx_nar 101 (nI k) = nI k := by
  unfold fx_nar nI
  rw [if_neg (by decide), if_pos rfl]
  apply Int32.toBitVec_inj.mp
  apply BitVec.eq_of_toNat_eq
  simp
  omega
theorem fx_I_1 (F : fx_F) (z j : Nat) (x : Int32) : (fx_I F z x).1 j = if j = z then x else F.1 j := rfl
theorem fx_I_A (F : fx_F) (z : Nat) (x : Int32) : (fx_I F z x).2.1 = F.2.1 := rfl
theorem fx_I_L (F : fx_F) (z : Nat) (x : Int32) : (fx_I F z x).2.2.1 = F.2.2.1 := rfl
theorem fx_I_R (F : fx_F) (z : Nat) (x : Int32) : (fx_I F z x).2.2.2.1 = F.2.2.2.1 := rfl
theorem fx_I_Q (F : fx_F) (z : Nat) (x : Int32) : (fx_I F z x).2.2.2.2 = F.2.2.2.2 := rfl
theorem fx_A_1 (F : fx_F) (z : Nat) (x : List Int32) : (fx_A F z x).1 = F.1 := rfl
theorem fx_A_A (F : fx_F) (z j : Nat) (x : List Int32) : (fx_A F z x).2.1 j = if j = z then x else F.2.1 j := rfl
theorem fx_A_L (F : fx_F) (z : Nat) (x : List Int32) : (fx_A F z x).2.2.1 = F.2.2.1 := rfl
theorem fx_A_R (F : fx_F) (z : Nat) (x : List Int32) : (fx_A F z x).2.2.2.1 = F.2.2.2.1 := rfl
theorem fx_A_Q (F : fx_F) (z : Nat) (x : List Int32) : (fx_A F z x).2.2.2.2 = F.2.2.2.2 := rfl
theorem fx_L_1 (F : fx_F) (z : Nat) (x : List Int64) : (fx_L F z x).1 = F.1 := rfl
theorem fx_L_A (F : fx_F) (z : Nat) (x : List Int64) : (fx_L F z x).2.1 = F.2.1 := rfl
theorem fx_L_L (F : fx_F) (z j : Nat) (x : List Int64) : (fx_L F z x).2.2.1 j = if j = z then x else F.2.2.1 j := rfl
theorem fx_L_R (F : fx_F) (z : Nat) (x : List Int64) : (fx_L F z x).2.2.2.1 = F.2.2.2.1 := rfl
theorem fx_L_Q (F : fx_F) (z : Nat) (x : List Int64) : (fx_L F z x).2.2.2.2 = F.2.2.2.2 := rfl
theorem fx_R_1 (F : fx_F) (z : Nat) (x : Option Nat) : (fx_R F z x).1 = F.1 := rfl
theorem fx_R_A (F : fx_F) (z : Nat) (x : Option Nat) : (fx_R F z x).2.1 = F.2.1 := rfl
theorem fx_R_L (F : fx_F) (z : Nat) (x : Option Nat) : (fx_R F z x).2.2.1 = F.2.2.1 := rfl
theorem fx_R_R (F : fx_F) (z j : Nat) (x : Option Nat) : (fx_R F z x).2.2.2.1 j = if j = z then x else F.2.2.2.1 j := rfl
theorem fx_R_Q (F : fx_F) (z : Nat) (x : Option Nat) : (fx_R F z x).2.2.2.2 = F.2.2.2.2 := rfl
theorem fx_Q_1 (F : fx_F) (z : Nat) (x : List (Option Nat)) : (fx_Q F z x).1 = F.1 := rfl
theorem fx_Q_A (F : fx_F) (z : Nat) (x : List (Option Nat)) : (fx_Q F z x).2.1 = F.2.1 := rfl
theorem fx_Q_L (F : fx_F) (z : Nat) (x : List (Option Nat)) : (fx_Q F z x).2.2.1 = F.2.2.1 := rfl
theorem fx_Q_R (F : fx_F) (z : Nat) (x : List (Option Nat)) : (fx_Q F z x).2.2.2.1 = F.2.2.2.1 := rfl
theorem fx_Q_Q (F : fx_F) (z j : Nat) (x : List (Option Nat)) : (fx_Q F z x).2.2.2.2 j = if j = z then x else F.2.2.2.2 j := rfl
theorem fx_II (F : fx_F) (z : Nat) (x y : Int32) : fx_I (fx_I F z x) z y = fx_I F z y := by
  unfold fx_I
  simp only [Prod.mk.injEq, and_true]
  funext j
  split <;> rfl
theorem fx_AA (F : fx_F) (z : Nat) (x y : List Int32) : fx_A (fx_A F z x) z y = fx_A F z y := by
  unfold fx_A
  simp only [Prod.mk.injEq, and_true, true_and]
  funext j
  split <;> rfl
theorem fx_LL (F : fx_F) (z : Nat) (x y : List Int64) : fx_L (fx_L F z x) z y = fx_L F z y := by
  unfold fx_L
  simp only [Prod.mk.injEq, and_true, true_and]
  funext j
  split <;> rfl
def fx_cI (o : Nat) : Nat := match o with
  | 2 => 320
  | 9 => 8
  | 15 => 120
  | 17 => 121
  | 20 => 156
  | 22 => 61
  | 23 => 61
  | 27 => 400
  | 30 => 320
  | 33 => 16
  | 35 => 320
  | 37 => 32
  | 38 => 32
  | 39 => 32
  | 40 => 26
  | 41 => 416
  | 42 => 26
  | 43 => 26
  | 44 => 26
  | 45 => 26
  | 46 => 320
  | 47 => 321
  | 49 => 32
  | 50 => 32
  | 51 => 32
  | 52 => 32
  | 53 => 32
  | 54 => 80
  | 55 => 80
  | 56 => 30
  | 57 => 30
  | 58 => 30
  | 61 => 8
  | 62 => 120
  | 63 => 60
  | 64 => 60
  | 65 => 7
  | 66 => 7
  | 67 => 7
  | 68 => 7
  | 69 => 7
  | 70 => 7
  | 71 => 7
  | 72 => 32
  | 73 => 32
  | 74 => 32
  | 75 => 32
  | 76 => 32
  | 78 => 32
  | 79 => 32
  | 80 => 32
  | 81 => 81
  | 82 => 400
  | _ => 0
def fx_cL (o : Nat) : Nat := match o with
  | 36 => 32
  | 48 => 6
  | 59 => 8
  | 60 => 8
  | 77 => 32
  | _ => 0
def fx_cR (o : Nat) : Nat := match o with
  | 4 => 32
  | 6 => 6
  | 7 => 8
  | 8 => 8
  | 10 => 30
  | 11 => 80
  | 12 => 80
  | 18 => 26
  | 19 => 26
  | 24 => 61
  | _ => 0
/-- the rows have their lengths -/
def fx_ln (F : fx_F) : Prop := (∀ o, (F.2.1 o).length = fx_cI o) ∧ (∀ o, (F.2.2.1 o).length = fx_cL o) ∧ (∀ o, (F.2.2.2.2 o).length = fx_cR o)
theorem fx_lnI {F : fx_F} {z : Nat} {x : Int32} (h : fx_ln F) : fx_ln (fx_I F z x) := h
theorem fx_lnR {F : fx_F} {z : Nat} {x : Option Nat} (h : fx_ln F) : fx_ln (fx_R F z x) := h
theorem fx_lnA {F : fx_F} {z : Nat} {l : List Int32} (h : fx_ln F) (hl : l.length = fx_cI z) : fx_ln (fx_A F z l) := by
  refine ⟨fun o => ?_, h.2.1, h.2.2⟩
  rw [fx_A_A]
  split
  · rename_i e
    rw [hl, e]
  · exact h.1 o
theorem fx_lnL {F : fx_F} {z : Nat} {l : List Int64} (h : fx_ln F) (hl : l.length = fx_cL z) : fx_ln (fx_L F z l) := by
  refine ⟨h.1, fun o => ?_, h.2.2⟩
  rw [fx_L_L]
  split
  · rename_i e
    rw [hl, e]
  · exact h.2.1 o
theorem fx_lnQ {F : fx_F} {z : Nat} {l : List (Option Nat)} (h : fx_ln F) (hl : l.length = fx_cR z) : fx_ln (fx_Q F z l) := by
  refine ⟨h.1, h.2.1, fun o => ?_⟩
  rw [fx_Q_Q]
  split
  · rename_i e
    rw [hl, e]
  · exact h.2.2 o
/-- a row begins with these numbers -/
def rk (row : List Int32) (l : List Nat) : Prop := row.take l.length = l.map nI
theorem rk_len {row : List Int32} {l : List Nat} (h : rk row l) : l.length ≤ row.length := by
  have := congrArg List.length h
  simp at this
  omega
theorem rk_nil (row : List Int32) : rk row [] := by simp [rk]
theorem rk_get {row : List Int32} {l : List Nat} (h : rk row l) {i : Nat} (hi : i < l.length) : row[i]? = some (nI l[i]) := by
  have h2 : (row.take l.length)[i]? = (l.map nI)[i]? := by rw [h]
  rw [List.getElem?_take_of_lt hi, List.getElem?_map, List.getElem?_eq_getElem hi] at h2
  exact h2
theorem rk_getD {row : List Int32} {l : List Nat} (h : rk row l) {i : Nat} (hi : i < l.length) : row[i]? = some (nI (l.getD i 0)) := by
  rw [rk_get h hi]
  simp [List.getD, List.getElem?_eq_getElem hi]
theorem rk_of {row : List Int32} {l : List Nat} (hl : l.length ≤ row.length) (h : ∀ i, i < l.length → row[i]? = some (nI (l.getD i 0))) : rk row l := by
  apply List.ext_getElem?
  intro i
  by_cases hi : i < l.length
  · rw [List.getElem?_take_of_lt hi, h i hi, List.getElem?_map, List.getElem?_eq_getElem hi]
    simp [List.getD, List.getElem?_eq_getElem hi]
  · rw [List.getElem?_eq_none (by simp; omega), List.getElem?_eq_none (by simp; omega)]
theorem rk_push {row : List Int32} {l : List Nat} (h : rk row l) (hl : l.length < row.length) (c : Nat) : rk (row.set l.length (nI c)) (l ++ [c]) := by
  unfold rk at *
  rw [List.length_append, List.length_singleton, List.map_append, List.map_singleton, ← h, List.take_set]
  apply List.ext_getElem?
  intro i
  rw [List.getElem?_set, List.getElem?_append]
  by_cases hi : l.length = i
  · subst hi
    rw [if_pos rfl, if_pos (by simp; omega), if_neg (by simp; omega)]
    simp [Nat.min_eq_left (Nat.le_of_lt hl)]
  · rw [if_neg hi]
    by_cases h2 : i < l.length
    · rw [if_pos (by simp; omega), List.getElem?_take_of_lt (by omega), List.getElem?_take_of_lt h2]
    · rw [if_neg (by simp; omega), List.getElem?_eq_none (by simp; omega), List.getElem?_eq_none (by simp; omega)]
theorem rk_app {row : List Int32} {l m : List Nat} (h : rk row (l ++ m)) : rk row l := by
  unfold rk at *
  have := congrArg (List.take l.length) h
  rw [List.take_take, List.map_append, List.take_append_of_le_length (by simp)] at this
  rw [show min l.length (l ++ m).length = l.length by simp] at this
  rw [this, List.take_of_length_le (by simp)]
theorem rk_take {row : List Int32} {l : List Nat} (h : rk row l) (k : Nat) : rk row (l.take k) := by
  have : l.take k ++ l.drop k = l := List.take_append_drop k l
  rw [← this] at h
  exact rk_app h
