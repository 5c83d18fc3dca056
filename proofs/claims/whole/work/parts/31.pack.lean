/-! names as numbers: seven bits a character. The rows wb_ are those of the kit's laws (BITS.to-paste) -/
theorem wb_tb (n : Nat) : (lN n).toBitVec = BitVec.ofNat 64 n := rfl
theorem wb_inj {a b : Int64} (h : a.toBitVec = b.toBitVec) : a = b := Int64.toBitVec_inj.mp h
theorem wb_tn {n : Nat} (h : n < 2 ^ 64) : (lN n).toBitVec.toNat = n := by rw [wb_tb, BitVec.toNat_ofNat, Nat.mod_eq_of_lt h]
theorem wb_of (x : Int64) : ∃ n, n < 2 ^ 64 ∧ x = lN n := ⟨x.toBitVec.toNat, x.toBitVec.isLt, wb_inj (by rw [wb_tb]; simp)⟩
theorem wb_of32 (x : Int32) : ∃ n, n < 2 ^ 32 ∧ x = nI n := ⟨x.toBitVec.toNat, x.toBitVec.isLt, Int32.toBitVec_inj.mp (by show _ = BitVec.ofNat 32 _; simp)⟩
theorem wb_c : ∀ k, k < 64 → ((nI k).toInt64 &&& 63) = lN k := by decide +kernel
theorem wb_cu : ∀ k, k < 64 → ((nI k).toInt64.toUInt64 &&& Int64.toUInt64 63) = UInt64.ofNat k := by decide +kernel
theorem wb_sm : ∀ k, k < 64 → (BitVec.ofNat 64 k).smod 64 = BitVec.ofNat 64 k := by decide +kernel
theorem wb_pw {a b : Nat} (h : a ≤ b) : 2 ^ b = 2 ^ a * 2 ^ (b - a) := by rw [← Nat.pow_add]; congr 1; omega
theorem wb_lt2 {a b : Nat} (h : a < b) : 2 ^ a < 2 ^ b := Nat.pow_lt_pow_right (by decide) h
theorem wb_mod (n : Nat) : lN n = lN (n % 2 ^ 64) := wb_inj (by rw [wb_tb, wb_tb]; apply BitVec.eq_of_toNat_eq; rw [BitVec.toNat_ofNat, BitVec.toNat_ofNat, Nat.mod_mod])
theorem wb_shl (n : Nat) {k : Nat} (hk : k < 64) : lN n <<< ((nI k).toInt64 &&& 63) = lN (n * 2 ^ k) := by
  rw [wb_c k hk]
  apply wb_inj
  rw [Int64.toBitVec_shiftLeft, wb_tb, wb_tb, wb_tb, wb_sm k hk]
  apply BitVec.eq_of_toNat_eq
  rw [BitVec.shiftLeft_eq', BitVec.toNat_shiftLeft, BitVec.toNat_ofNat, BitVec.toNat_ofNat, BitVec.toNat_ofNat, Nat.mod_eq_of_lt (show k < 2 ^ 64 by omega), Nat.shiftLeft_eq, Nat.mul_mod, Nat.mod_mod, ← Nat.mul_mod]
theorem wb_and {a b : Nat} (ha : a < 2 ^ 64) (hb : b < 2 ^ 64) : lN a &&& lN b = lN (a &&& b) := by
  apply wb_inj
  rw [Int64.toBitVec_and, wb_tb, wb_tb, wb_tb]
  apply BitVec.eq_of_toNat_eq
  rw [BitVec.toNat_and, BitVec.toNat_ofNat, BitVec.toNat_ofNat, BitVec.toNat_ofNat, Nat.mod_eq_of_lt ha, Nat.mod_eq_of_lt hb, Nat.mod_eq_of_lt (Nat.and_lt_two_pow _ hb)]
theorem wb_or {a b : Nat} (ha : a < 2 ^ 64) (hb : b < 2 ^ 64) : lN a ||| lN b = lN (a ||| b) := by
  apply wb_inj
  rw [Int64.toBitVec_or, wb_tb, wb_tb, wb_tb]
  apply BitVec.eq_of_toNat_eq
  rw [BitVec.toNat_or, BitVec.toNat_ofNat, BitVec.toNat_ofNat, BitVec.toNat_ofNat, Nat.mod_eq_of_lt ha, Nat.mod_eq_of_lt hb, Nat.mod_eq_of_lt (Nat.or_lt_two_pow ha hb)]
theorem wb_mask {n k : Nat} (hn : n < 2 ^ 64) (hk : k < 64) : lN n &&& lN (2 ^ k - 1) = lN (n % 2 ^ k) := by
  rw [wb_and hn (by have := wb_lt2 hk; omega), Nat.and_two_pow_sub_one_eq_mod]
theorem rb_it_l {S α : Type} {body : S → Option (S ⊕ α)} {s s' : S} (h : body s = some (.inl s')) : rb_it body s = rb_it body s' := by rw [rb_it_eq, h]
theorem rb_it_r {S α : Type} {body : S → Option (S ⊕ α)} {s : S} {a : α} (h : body s = some (.inr a)) : rb_it body s = some a := by rw [rb_it_eq, h]
theorem pq_shr {n k : Nat} (h : n < 2 ^ 63) (hk : k < 64) : lN n >>> ((nI k).toInt64 &&& 63) = lN (n / 2 ^ k) := by
  rw [wb_c k hk]
  apply Int64.toInt_inj.mp
  have h2 : n / 2 ^ k ≤ n := Nat.div_le_self _ _
  have e : (lN n >>> lN k).toInt = (lN n).toInt >>> k := by
    show ((lN n).toBitVec.sshiftRight ((lN k).toBitVec.smod 64).toNat).toInt = _
    rw [wb_tb k, wb_sm k hk, BitVec.toNat_ofNat, Nat.mod_eq_of_lt (by omega), BitVec.toInt_sshiftRight]
    rfl
  rw [e, pk_lT h, pk_lT (by omega), Int.shiftRight_eq_div_pow]
  rfl
theorem pq_push {w c : Nat} (h : w * 128 + c < 2 ^ 63) (hc : c < 128) : (lN w <<< ((7 : Int32).toInt64 &&& 63)) ||| (nI c).toInt64 = lN (w * 128 + c) := by
  have e1 : lN w <<< ((7 : Int32).toInt64 &&& 63) = lN (w * 128) := wb_shl w (k := 7) (by decide)
  rw [e1, nI_l (by omega), wb_or (by omega) (by omega)]
  congr 1
  have := Nat.shiftLeft_add_eq_or_of_lt (i := 7) (b := c) (by omega) w
  rw [Nat.shiftLeft_eq] at this
  exact this.symm
theorem pq_low {w : Nat} (h : w < 2 ^ 63) : (lN w &&& (127 : Int64)).toInt32 = nI (w % 128) := by
  have e : lN w &&& (127 : Int64) = lN (w % 2 ^ 7) := wb_mask (n := w) (k := 7) (by omega) (by decide)
  rw [e, lN_i]
theorem pq_cmp0 {w : Nat} (h : w < 2 ^ 63) : lg_cmp (lN w) (0 : Int64) = 0 ↔ w = 0 := by
  have h0 : (0 : Int64) = lN 0 := rfl
  unfold lg_cmp
  rw [h0]
  simp only [gt_iff_lt, pk_lLT (by decide : 0 < 2 ^ 63) h, pk_lEQ h (by decide : 0 < 2 ^ 63)]
  by_cases hw : w = 0
  · subst hw; simp
  · have : 0 < w := by omega
    simp [this, hw]
theorem pq_cmp {a c : Nat} (ha : a < 2 ^ 63) (hc : c < 2 ^ 63) : lg_cmp (lN a) (lN c) = 0 ↔ a = c := by
  unfold lg_cmp
  simp only [gt_iff_lt, pk_lLT hc ha, pk_lEQ ha hc]
  by_cases h1 : c < a
  · have : a ≠ c := by omega
    simp [h1, this]
  · by_cases h2 : a = c
    · simp [h2]
    · simp [h1, h2]
/-- a text as a number -/
def pq (l : List Nat) : Nat := l.foldl (fun w c => w * 128 + c) 0
theorem pq_nil : pq [] = 0 := rfl
theorem pq_app (l : List Nat) (c : Nat) : pq (l ++ [c]) = pq l * 128 + c := by unfold pq; rw [List.foldl_append]; rfl
/-- characters that are packed: 1 to 127 -/
def pq_ok (l : List Nat) : Prop := ∀ c ∈ l, 0 < c ∧ c < 128
theorem pq_ok_app {l : List Nat} {c : Nat} (h : pq_ok (l ++ [c])) : pq_ok l ∧ 0 < c ∧ c < 128 := ⟨fun x hx => h x (List.mem_append_left _ hx), h c (by simp)⟩
theorem pq_cases (l : List Nat) : l = [] ∨ ∃ l' c, l = l' ++ [c] := by
  rcases List.eq_nil_or_concat l with h | ⟨l', c, h⟩
  · exact Or.inl h
  · exact Or.inr ⟨l', c, by rw [h, List.concat_eq_append]⟩
theorem pq_lt : ∀ (n : Nat) (l : List Nat), l.length = n → pq_ok l → pq l < 128 ^ n := by
  intro n
  induction n with
  | zero => intro l hl _; rw [List.length_eq_zero_iff.mp hl]; decide
  | succ n ih =>
    intro l hl hok
    rcases pq_cases l with rfl | ⟨l', c, rfl⟩
    · simp at hl
    · obtain ⟨h1, h2, h3⟩ := pq_ok_app hok
      have := ih l' (by simpa using hl) h1
      rw [pq_app, Nat.pow_succ]
      omega
theorem pq_lt63 {l : List Nat} (hl : l.length ≤ 9) (hok : pq_ok l) : pq l < 2 ^ 63 := by
  have h1 := pq_lt l.length l rfl hok
  have h2 : 128 ^ l.length ≤ 128 ^ 9 := Nat.pow_le_pow_right (by decide) hl
  have h3 : 128 ^ 9 = 2 ^ 63 := by decide
  omega
theorem pq_pos {l : List Nat} (hok : pq_ok l) : pq l = 0 ↔ l = [] := by
  rcases pq_cases l with rfl | ⟨l', c, rfl⟩
  · simp [pq_nil]
  · obtain ⟨h1, h2, h3⟩ := pq_ok_app hok
    rw [pq_app]
    constructor
    · intro h; omega
    · intro h; simp at h
theorem pq_inj : ∀ (n : Nat) (l1 l2 : List Nat), l1.length = n → pq_ok l1 → pq_ok l2 → pq l1 = pq l2 → l1 = l2 := by
  intro n
  induction n with
  | zero =>
    intro l1 l2 h1 _ h3 h4
    rw [List.length_eq_zero_iff.mp h1] at h4 ⊢
    exact ((pq_pos h3).mp h4.symm).symm
  | succ n ih =>
    intro l1 l2 h1 h2 h3 h4
    rcases pq_cases l1 with rfl | ⟨a, c, rfl⟩
    · simp at h1
    · rcases pq_cases l2 with rfl | ⟨a2, c2, rfl⟩
      · have := (pq_pos h2).mp h4
        simp at this
      · obtain ⟨g1, g2, g3⟩ := pq_ok_app h2
        obtain ⟨k1, k2, k3⟩ := pq_ok_app h3
        rw [pq_app, pq_app] at h4
        have e1 : pq a = pq a2 := by omega
        have e2 : c = c2 := by omega
        rw [ih a a2 (by simpa using h1) g1 k1 e1, e2]
theorem pq_eq {l1 l2 : List Nat} (h1 : pq_ok l1) (h2 : pq_ok l2) : pq l1 = pq l2 ↔ l1 = l2 := ⟨fun h => pq_inj _ l1 l2 rfl h1 h2 h, fun h => by rw [h]⟩
/-- M.length -/
theorem sp_M_length_it (σ : rb_St) : ∀ (n : Nat) (l : List Nat) (k : Nat), l.length = n → n ≤ 9 → pq_ok l → rb_it (fun z : (Int32 × Int64) => f_M_length_b4 (z.1) (z.2) σ) (nI k, lN (pq l)) = some (some (.int (nI (k + n))), σ) := by
  intro n
  induction n with
  | zero =>
    intro l k hl _ _
    have e : lg_cmp (lN (pq [])) (0 : Int64) = 0 := (pq_cmp0 (by decide)).mpr rfl
    rw [List.length_eq_zero_iff.mp hl]
    exact rb_it_r (by simp [f_M_length_b4, e])
  | succ n ih =>
    intro l k hl hn hok
    have hlt := pq_lt63 (by omega) hok
    rcases pq_cases l with rfl | ⟨l', c, rfl⟩
    · simp at hl
    · obtain ⟨h1, h2, h3⟩ := pq_ok_app hok
      have e : ¬ lg_cmp (lN (pq (l' ++ [c]))) (0 : Int64) = 0 := fun h => by
        have := (pq_cmp0 hlt).mp h
        rw [pq_app] at this
        omega
      have e2 : lN (pq (l' ++ [c])) >>> ((7 : Int32).toInt64 &&& 63) = lN (pq l') := by
        have := pq_shr (n := pq (l' ++ [c])) (k := 7) hlt (by decide)
        rw [show (nI 7) = (7 : Int32) from rfl] at this
        rw [this, pq_app]
        congr 1
        omega
      rw [rb_it_l (s' := (nI (k + 1), lN (pq l'))) (by simp only [f_M_length_b4, if_neg e, e2, nI_1]), ih l' (k + 1) (by simpa using hl) (by omega) h1, show k + 1 + n = k + (n + 1) by omega]
theorem sp_M_length (σ : rb_St) {l : List Nat} (hl : l.length ≤ 9) (hok : pq_ok l) : f_M_length (lN (pq l)) σ = some (some (.int (nI l.length)), σ) := by
  unfold f_M_length
  have := sp_M_length_it σ l.length l 0 rfl hl hok
  rw [Nat.zero_add] at this
  exact this
