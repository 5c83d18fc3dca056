/-! the reference's small methods: names -/
def sp_nc (c : Nat) : Bool := decide ((97 ≤ c ∧ c ≤ 122) ∨ (48 ≤ c ∧ c ≤ 57) ∨ c = 46 ∨ c = 95)
def sp_name (l : List Nat) : Bool := decide (1 ≤ l.length) && decide (l.length ≤ 8) && l.all sp_nc
theorem sp_name_ok {l : List Nat} (h : sp_name l = true) : pq_ok l ∧ 1 ≤ l.length ∧ l.length ≤ 8 := by
  simp only [sp_name, Bool.and_eq_true, decide_eq_true_eq] at h
  refine ⟨fun c hc => ?_, h.1.1, h.1.2⟩
  have := List.all_eq_true.mp h.2 c hc
  simp only [sp_nc, decide_eq_true_eq] at this
  omega
theorem pq_cmple {w : Nat} (h : w < 2 ^ 63) : lg_cmp (lN w) (0 : Int64) ≤ 0 ↔ w = 0 := by
  have h0 : (0 : Int64) = lN 0 := rfl
  unfold lg_cmp
  rw [h0]
  simp only [gt_iff_lt, pk_lLT (by decide : 0 < 2 ^ 63) h, pk_lEQ h (by decide : 0 < 2 ^ 63)]
  by_cases hw : w = 0
  · subst hw; simp
  · have : 0 < w := by omega
    simp only [this, if_true, hw, iff_false]
    decide
theorem sp_nI_lt {c : Nat} (hc : c < 128) (k : Nat) (hk : k < 1000) : (nI c < nI k) = (c < k) := propext (nI_ltI (by omega) (by omega))
theorem sp_nI_le {c : Nat} (hc : c < 128) (k : Nat) (hk : k < 1000) : (nI c ≤ nI k) = (c ≤ k) := propext (nI_leI (by omega) (by omega))
theorem sp_nI_eq {c : Nat} (hc : c < 128) (k : Nat) (hk : k < 1000) : (nI c = nI k) = (c = k) := propext (nI_eq (by omega) (by omega))
theorem sp_shr7 {l : List Nat} {c : Nat} (h : pq (l ++ [c]) < 2 ^ 63) (hc : c < 128) : lN (pq (l ++ [c])) >>> ((7 : Int32).toInt64 &&& 63) = lN (pq l) := by
  have := pq_shr (n := pq (l ++ [c])) (k := 7) h (by decide)
  rw [show (nI 7) = (7 : Int32) from rfl] at this
  rw [this, pq_app]
  congr 1
  omega
theorem sp_low {l : List Nat} {c : Nat} (h : pq (l ++ [c]) < 2 ^ 63) (hc : c < 128) : (lN (pq (l ++ [c])) &&& (127 : Int64)).toInt32 = nI c := by
  rw [pq_low h, pq_app]
  congr 1
  omega
theorem sp_M_isName_st (σ : rb_St) {l : List Nat} {c : Nat} (h : pq (l ++ [c]) < 2 ^ 63) (h0 : 0 < c) (hc : c < 128) {g : Int32} (hg : g = 0 ∨ g = 1) : f_M_isName_b23 g (lN (pq (l ++ [c]))) σ = some (.inl (if g = 1 ∧ sp_nc c = true then 1 else 0, lN (pq l))) := by
  have e : ¬ lg_cmp (lN (pq (l ++ [c]))) (0 : Int64) ≤ 0 := fun q => by
    have := (pq_cmple h).mp q
    rw [pq_app] at this
    omega
  unfold f_M_isName_b23
  rw [if_neg e]
  rcases hg with rfl | rfl
  · unfold f_M_isName_j87
    rw [if_pos rfl, sp_shr7 h hc]
    simp
  · rw [if_neg (by decide), sp_low h hc]
    unfold f_M_isName_j55 f_M_isName_j69 f_M_isName_j83 f_M_isName_j87
    rw [sp_shr7 h hc]
    rw [show (97 : Int32) = nI 97 from rfl, show (122 : Int32) = nI 122 from rfl, show (48 : Int32) = nI 48 from rfl, show (57 : Int32) = nI 57 from rfl, show (46 : Int32) = nI 46 from rfl, show (95 : Int32) = nI 95 from rfl]
    simp only [sp_nI_lt hc 97 (by decide), sp_nI_le hc 122 (by decide), sp_nI_lt hc 48 (by decide), sp_nI_le hc 57 (by decide), sp_nI_eq hc 46 (by decide), sp_nI_eq hc 95 (by decide), sp_nc, decide_eq_true_eq, true_and]
    repeat' split
    all_goals first | rfl | (exfalso; omega)
theorem sp_M_isName_it (σ : rb_St) : ∀ (n : Nat) (l : List Nat) (g : Int32), l.length = n → n ≤ 9 → pq_ok l → (g = 0 ∨ g = 1) → rb_it (fun z : (Int32 × Int64) => f_M_isName_b23 (z.1) (z.2) σ) (g, lN (pq l)) = some (some (.int (if g = 1 ∧ l.all sp_nc = true then 1 else 0)), σ) := by
  intro n
  induction n with
  | zero =>
    intro l g hl _ _ hg
    have e : lg_cmp (lN (pq [])) (0 : Int64) ≤ 0 := (pq_cmple (by decide)).mpr rfl
    rw [List.length_eq_zero_iff.mp hl]
    rcases hg with rfl | rfl <;> exact rb_it_r (by simp [f_M_isName_b23, e, rb_isZ])
  | succ n ih =>
    intro l g hl hn hok hg
    have hlt := pq_lt63 (by omega) hok
    rcases pq_cases l with rfl | ⟨l', c, rfl⟩
    · simp at hl
    · obtain ⟨h1, h2, h3⟩ := pq_ok_app hok
      rw [rb_it_l (sp_M_isName_st σ hlt h2 h3 hg), ih l' _ (by simpa using hl) (by omega) h1 (by split <;> simp)]
      congr 4
      rcases hg with rfl | rfl
      · simp
      · by_cases hc : sp_nc c = true
        · simp [hc]
        · simp [hc]
theorem sp_M_isName (σ : rb_St) {l : List Nat} (hl : l.length ≤ 9) (hok : pq_ok l) : f_M_isName (lN (pq l)) σ = some (some (.int (if sp_name l = true then 1 else 0)), σ) := by
  have hlt := pq_lt63 hl hok
  unfold f_M_isName
  by_cases h0 : l = []
  · subst h0
    rw [if_pos (show lg_cmp (lN (pq [])) (0 : Int64) ≤ 0 from (pq_cmple (by decide)).mpr rfl), sp_M_isName_it σ 0 [] 0 rfl (by decide) hok (Or.inl rfl)]
    simp [sp_name]
  · have hp : pq l ≠ 0 := fun h => h0 ((pq_pos hok).mp h)
    have h1 : 1 ≤ l.length := by
      cases l with
      | nil => exact absurd rfl h0
      | cons a b => simp
    rw [if_neg (fun h => hp ((pq_cmple hlt).mp h)), sp_M_length σ hl hok]
    simp only [rb_cI]
    rw [show (8 : Int32) = nI 8 from rfl]
    by_cases h8 : 8 < l.length
    · rw [if_pos (nI_lt h8 (by omega)), sp_M_isName_it σ _ l 0 rfl hl hok (Or.inl rfl)]
      have : ¬ l.length ≤ 8 := by omega
      simp [sp_name, this]
    · rw [if_neg (nI_nlt (by omega) (by omega)), sp_M_isName_it σ _ l 1 rfl hl hok (Or.inr rfl)]
      have : l.length ≤ 8 := by omega
      simp [sp_name, this, h1]
theorem sp_M_isName_m1 (σ : rb_St) : f_M_isName (-1) σ = some (some (.int 0), σ) := by
  unfold f_M_isName
  have e : lg_cmp (-1 : Int64) (0 : Int64) ≤ 0 := by decide
  rw [if_pos e]
  exact rb_it_r (by simp [f_M_isName_b23, e, rb_isZ])
