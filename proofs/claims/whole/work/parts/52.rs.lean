/-! the state of the rules -/
/-- names, suffixes, ending rules, commands, prerequisites, macros, own commands, flags (0 rule, 1 phony, 2 ignored, 3 silent, 4 latest target), (0 default commands, 1 first target, 2 latest ending), (0 all ignored, 1 all silent), (0 line, 1 kind) -/
abbrev RS : Type := (List (List Nat)) × (List (List Nat)) × (List ((List Nat × List Nat) × Option Nat)) × (List (Nat × List Nat)) × (List (Nat × Nat)) × (Nat → Option (List Nat)) × (Nat → Option Nat) × (Nat → Nat → Bool) × (Nat → Option Nat) × (Nat → Bool) × (Nat → Nat)
abbrev rN (R : RS) : List (List Nat) := R.1
abbrev rSf (R : RS) : List (List Nat) := R.2.1
abbrev rEn (R : RS) : List ((List Nat × List Nat) × Option Nat) := R.2.2.1
abbrev rCm (R : RS) : List (Nat × List Nat) := R.2.2.2.1
abbrev rPr (R : RS) : List (Nat × Nat) := R.2.2.2.2.1
abbrev rDf (R : RS) : Nat → Option (List Nat) := R.2.2.2.2.2.1
abbrev rOw (R : RS) : Nat → Option Nat := R.2.2.2.2.2.2.1
abbrev rFl (R : RS) : Nat → Nat → Bool := R.2.2.2.2.2.2.2.1
abbrev rOp (R : RS) : Nat → Option Nat := R.2.2.2.2.2.2.2.2.1
abbrev rBo (R : RS) : Nat → Bool := R.2.2.2.2.2.2.2.2.2.1
abbrev rNu (R : RS) : Nat → Nat := R.2.2.2.2.2.2.2.2.2.2
abbrev wN (R : RS) (x : List (List Nat)) : RS := (x, R.2.1, R.2.2.1, R.2.2.2.1, R.2.2.2.2.1, R.2.2.2.2.2.1, R.2.2.2.2.2.2.1, R.2.2.2.2.2.2.2.1, R.2.2.2.2.2.2.2.2.1, R.2.2.2.2.2.2.2.2.2.1, R.2.2.2.2.2.2.2.2.2.2)
abbrev wSf (R : RS) (x : List (List Nat)) : RS := (R.1, x, R.2.2.1, R.2.2.2.1, R.2.2.2.2.1, R.2.2.2.2.2.1, R.2.2.2.2.2.2.1, R.2.2.2.2.2.2.2.1, R.2.2.2.2.2.2.2.2.1, R.2.2.2.2.2.2.2.2.2.1, R.2.2.2.2.2.2.2.2.2.2)
abbrev wEn (R : RS) (x : List ((List Nat × List Nat) × Option Nat)) : RS := (R.1, R.2.1, x, R.2.2.2.1, R.2.2.2.2.1, R.2.2.2.2.2.1, R.2.2.2.2.2.2.1, R.2.2.2.2.2.2.2.1, R.2.2.2.2.2.2.2.2.1, R.2.2.2.2.2.2.2.2.2.1, R.2.2.2.2.2.2.2.2.2.2)
abbrev wCm (R : RS) (x : List (Nat × List Nat)) : RS := (R.1, R.2.1, R.2.2.1, x, R.2.2.2.2.1, R.2.2.2.2.2.1, R.2.2.2.2.2.2.1, R.2.2.2.2.2.2.2.1, R.2.2.2.2.2.2.2.2.1, R.2.2.2.2.2.2.2.2.2.1, R.2.2.2.2.2.2.2.2.2.2)
abbrev wPr (R : RS) (x : List (Nat × Nat)) : RS := (R.1, R.2.1, R.2.2.1, R.2.2.2.1, x, R.2.2.2.2.2.1, R.2.2.2.2.2.2.1, R.2.2.2.2.2.2.2.1, R.2.2.2.2.2.2.2.2.1, R.2.2.2.2.2.2.2.2.2.1, R.2.2.2.2.2.2.2.2.2.2)
abbrev wDf (R : RS) (x : Nat → Option (List Nat)) : RS := (R.1, R.2.1, R.2.2.1, R.2.2.2.1, R.2.2.2.2.1, x, R.2.2.2.2.2.2.1, R.2.2.2.2.2.2.2.1, R.2.2.2.2.2.2.2.2.1, R.2.2.2.2.2.2.2.2.2.1, R.2.2.2.2.2.2.2.2.2.2)
abbrev wOw (R : RS) (x : Nat → Option Nat) : RS := (R.1, R.2.1, R.2.2.1, R.2.2.2.1, R.2.2.2.2.1, R.2.2.2.2.2.1, x, R.2.2.2.2.2.2.2.1, R.2.2.2.2.2.2.2.2.1, R.2.2.2.2.2.2.2.2.2.1, R.2.2.2.2.2.2.2.2.2.2)
abbrev wFl (R : RS) (x : Nat → Nat → Bool) : RS := (R.1, R.2.1, R.2.2.1, R.2.2.2.1, R.2.2.2.2.1, R.2.2.2.2.2.1, R.2.2.2.2.2.2.1, x, R.2.2.2.2.2.2.2.2.1, R.2.2.2.2.2.2.2.2.2.1, R.2.2.2.2.2.2.2.2.2.2)
abbrev wOp (R : RS) (x : Nat → Option Nat) : RS := (R.1, R.2.1, R.2.2.1, R.2.2.2.1, R.2.2.2.2.1, R.2.2.2.2.2.1, R.2.2.2.2.2.2.1, R.2.2.2.2.2.2.2.1, x, R.2.2.2.2.2.2.2.2.2.1, R.2.2.2.2.2.2.2.2.2.2)
abbrev wBo (R : RS) (x : Nat → Bool) : RS := (R.1, R.2.1, R.2.2.1, R.2.2.2.1, R.2.2.2.2.1, R.2.2.2.2.2.1, R.2.2.2.2.2.2.1, R.2.2.2.2.2.2.2.1, R.2.2.2.2.2.2.2.2.1, x, R.2.2.2.2.2.2.2.2.2.2)
abbrev wNu (R : RS) (x : Nat → Nat) : RS := (R.1, R.2.1, R.2.2.1, R.2.2.2.1, R.2.2.2.2.1, R.2.2.2.2.2.1, R.2.2.2.2.2.2.1, R.2.2.2.2.2.2.2.1, R.2.2.2.2.2.2.2.2.1, R.2.2.2.2.2.2.2.2.2.1, x)
def b2 (x : Bool) : Nat := if x = true then 1 else 0
theorem b2_lt (x : Bool) : b2 x < 2 := by cases x <;> decide
theorem b2_0 (x : Bool) : (b2 x = 0) = (x = false) := by cases x <;> simp [b2]
def m_sf (F : fx_F) (l : List (List Nat)) : Prop := F.1 3418 = nI l.length ∧ ∀ k, k < l.length → (F.2.2.1 48)[k]? = some (lN (pq (l.getD k [])))
def m_en (F : fx_F) (l : List ((List Nat × List Nat) × Option Nat)) : Prop := F.1 3437 = nI l.length ∧ ∀ k, k < l.length → (F.2.2.1 59)[k]? = some (lN (pq (l.getD k (([], []), none)).1.1)) ∧ (F.2.2.1 60)[k]? = some (lN (pq (l.getD k (([], []), none)).1.2)) ∧ (F.2.1 61)[k]? = some (oi (l.getD k (([], []), none)).2)
def m_cm (F : fx_F) (T : List Nat) (l : List (Nat × List Nat)) : Prop := F.1 3433 = nI l.length ∧ ∀ k, k < l.length → ∃ p q, p ≤ q ∧ q ≤ T.length ∧ (F.2.1 56)[k]? = some (nI p) ∧ (F.2.1 57)[k]? = some (nI q) ∧ (F.2.1 58)[k]? = some (nI (l.getD k (0, [])).1) ∧ (l.getD k (0, [])).2 = slc T p q
def m_pr (F : fx_F) (l : List (Nat × Nat)) : Prop := F.1 3429 = nI l.length ∧ ∀ k, k < l.length → (F.2.1 54)[k]? = some (nI (l.getD k (0, 0)).1) ∧ (F.2.1 55)[k]? = some (nI (l.getD k (0, 0)).2)
def m_ow (F : fx_F) (g : Nat → Option Nat) : Prop := ∀ k, k < 32 → (F.2.1 53)[k]? = some (oi (g k))
def m_fl (F : fx_F) (g : Nat → Nat → Bool) : Prop := ∀ k, k < 32 → (F.2.1 52)[k]? = some (nI (b2 (g 0 k))) ∧ (F.2.1 49)[k]? = some (nI (b2 (g 1 k))) ∧ (F.2.1 50)[k]? = some (nI (b2 (g 2 k))) ∧ (F.2.1 51)[k]? = some (nI (b2 (g 3 k)))
def m_op (F : fx_F) (g : Nat → Option Nat) : Prop := F.1 3438 = oi (g 0) ∧ F.1 3426 = oi (g 1)
def m_bo (F : fx_F) (g : Nat → Bool) : Prop := F.1 3422 = nI (b2 (g 0)) ∧ F.1 3423 = nI (b2 (g 1))
def m_nu (F : fx_F) (g : Nat → Nat) : Prop := F.1 3439 = nI (g 0) ∧ F.1 3440 = nI (g 1)
/-- of the latest line: the ending rule, the targets -/
def m_cu (F : fx_F) (R : RS) : Prop := (rNu R 1 = 3 → ∃ e, rOp R 2 = some e ∧ e < (rEn R).length ∧ F.1 3442 = nI e) ∧ (rNu R 1 = 4 → ∀ k, k < 32 → ((F.1 3441 >>> (nI k &&& 31)) &&& 1 = 1) = (rFl R 4 k = true))
def m_rules (F : fx_F) (T : List Nat) (R : RS) : Prop := m_names F (rN R) ∧ m_sf F (rSf R) ∧ m_en F (rEn R) ∧ m_cm F T (rCm R) ∧ m_pr F (rPr R) ∧ m_defd F T (rDf R) ∧ m_ow F (rOw R) ∧ m_fl F (rFl R) ∧ m_op F (rOp R) ∧ m_bo F (rBo R) ∧ m_nu F (rNu R) ∧ m_cu F R
/-- how the rules may stand -/
def rok (R : RS) : Prop := nok (rN R) ∧ ((rSf R).length ≤ 6 ∧ ∀ k, k < (rSf R).length → sp_name ((rSf R).getD k []) = true ∧ 2 ≤ ((rSf R).getD k []).length ∧ ((rSf R).getD k []).getD 0 0 = 46) ∧ ((rEn R).length ≤ 8 ∧ ∀ k, k < (rEn R).length → sp_name ((rEn R).getD k (([], []), none)).1.1 = true ∧ (((rEn R).getD k (([], []), none)).1.2 = [] ∨ sp_name ((rEn R).getD k (([], []), none)).1.2 = true)) ∧ (rCm R).length ≤ 30 ∧ ((rPr R).length ≤ 80 ∧ ∀ k, k < (rPr R).length → ((rPr R).getD k (0, 0)).1 < (rN R).length ∧ ((rPr R).getD k (0, 0)).2 < (rN R).length) ∧ (∀ m v, rDf R m = some v → tk v ∧ v.length ≤ 320) ∧ (∀ k, rOp R 1 = some k → k < (rN R).length) ∧ rNu R 0 ≤ 1000 ∧ rNu R 1 ≤ 4 ∧ (∀ k, k < (rCm R).length → ((rCm R).getD k (0, [])).1 ≤ rNu R 0 ∧ 1 ≤ ((rCm R).getD k (0, [])).1 ∧ tk ((rCm R).getD k (0, [])).2) ∧ (∀ k g, rOw R k = some g → g ≤ rNu R 0 ∧ 1 ≤ g) ∧ (∀ g, rOp R 0 = some g → g ≤ rNu R 0 ∧ 1 ≤ g) ∧ (∀ k g, ((rEn R).getD k (([], []), none)).2 = some g → g ≤ rNu R 0 ∧ 1 ≤ g)
theorem m_names_fr {zi za zl : List Nat} {F F' : fx_F} {N : List (List Nat)} (h : m_names F N) (hf : fr zi za zl F F') (hd : 3402 ∉ zi ∧ 36 ∉ zl) : m_names F' N := by
  unfold m_names at *
  rw [hf.1 3402 (hd.1), hf.2.2.1 36 (hd.2)]
  exact h
theorem m_sf_fr {zi za zl : List Nat} {F F' : fx_F} {l : List (List Nat)} (h : m_sf F l) (hf : fr zi za zl F F') (hd : 3418 ∉ zi ∧ 48 ∉ zl) : m_sf F' l := by
  unfold m_sf at *
  rw [hf.1 3418 (hd.1), hf.2.2.1 48 (hd.2)]
  exact h
theorem m_en_fr {zi za zl : List Nat} {F F' : fx_F} {l : List ((List Nat × List Nat) × Option Nat)} (h : m_en F l) (hf : fr zi za zl F F') (hd : 3437 ∉ zi ∧ 61 ∉ za ∧ 59 ∉ zl ∧ 60 ∉ zl) : m_en F' l := by
  unfold m_en at *
  rw [hf.1 3437 (hd.1), hf.2.1 61 (hd.2.1), hf.2.2.1 59 (hd.2.2.1), hf.2.2.1 60 (hd.2.2.2)]
  exact h
theorem m_pr_fr {zi za zl : List Nat} {F F' : fx_F} {l : List (Nat × Nat)} (h : m_pr F l) (hf : fr zi za zl F F') (hd : 3429 ∉ zi ∧ 54 ∉ za ∧ 55 ∉ za) : m_pr F' l := by
  unfold m_pr at *
  rw [hf.1 3429 (hd.1), hf.2.1 54 (hd.2.1), hf.2.1 55 (hd.2.2)]
  exact h
theorem m_ow_fr {zi za zl : List Nat} {F F' : fx_F} {g : Nat → Option Nat} (h : m_ow F g) (hf : fr zi za zl F F') (hd : 53 ∉ za) : m_ow F' g := by
  unfold m_ow at *
  rw [hf.2.1 53 (hd)]
  exact h
theorem m_fl_fr {zi za zl : List Nat} {F F' : fx_F} {g : Nat → Nat → Bool} (h : m_fl F g) (hf : fr zi za zl F F') (hd : 52 ∉ za ∧ 49 ∉ za ∧ 50 ∉ za ∧ 51 ∉ za) : m_fl F' g := by
  unfold m_fl at *
  rw [hf.2.1 52 (hd.1), hf.2.1 49 (hd.2.1), hf.2.1 50 (hd.2.2.1), hf.2.1 51 (hd.2.2.2)]
  exact h
theorem m_op_fr {zi za zl : List Nat} {F F' : fx_F} {g : Nat → Option Nat} (h : m_op F g) (hf : fr zi za zl F F') (hd : 3438 ∉ zi ∧ 3426 ∉ zi) : m_op F' g := by
  unfold m_op at *
  rw [hf.1 3438 (hd.1), hf.1 3426 (hd.2)]
  exact h
theorem m_bo_fr {zi za zl : List Nat} {F F' : fx_F} {g : Nat → Bool} (h : m_bo F g) (hf : fr zi za zl F F') (hd : 3422 ∉ zi ∧ 3423 ∉ zi) : m_bo F' g := by
  unfold m_bo at *
  rw [hf.1 3422 (hd.1), hf.1 3423 (hd.2)]
  exact h
theorem m_nu_fr {zi za zl : List Nat} {F F' : fx_F} {g : Nat → Nat} (h : m_nu F g) (hf : fr zi za zl F F') (hd : 3439 ∉ zi ∧ 3440 ∉ zi) : m_nu F' g := by
  unfold m_nu at *
  rw [hf.1 3439 (hd.1), hf.1 3440 (hd.2)]
  exact h
theorem m_cu_fr {zi za zl : List Nat} {F F' : fx_F} {R : RS} (h : m_cu F R) (hf : fr zi za zl F F') (hd : 3442 ∉ zi ∧ 3441 ∉ zi) : m_cu F' R := by
  unfold m_cu at *
  rw [hf.1 3442 (hd.1), hf.1 3441 (hd.2)]
  exact h
theorem m_draft_fr {zi za zl : List Nat} {F F' : fx_F} {d : List Nat} (h : m_draft F d) (hf : fr zi za zl F F') (hd : 3401 ∉ zi ∧ 35 ∉ za) : m_draft F' d := by
  unfold m_draft at *
  rw [hf.1 3401 (hd.1), hf.2.1 35 (hd.2)]
  exact h
theorem m_given_fr {zi za zl : List Nat} {F F' : fx_F} {gv : Nat → Option (List Nat)} (h : m_given F gv) (hf : fr zi za zl F F') (hd : 40 ∉ za ∧ 41 ∉ za ∧ 42 ∉ za) : m_given F' gv := by
  unfold m_given at *
  rw [hf.2.1 40 (hd.1), hf.2.1 41 (hd.2.1), hf.2.1 42 (hd.2.2)]
  exact h
theorem m_text_fr {zi za zl : List Nat} {F F' : fx_F} {T : List Nat} (h : m_text F T) (hf : fr zi za zl F F') (hd : 46 ∉ za) : m_text F' T := by
  unfold m_text at *
  rw [hf.2.1 46 (hd)]
  exact h
theorem m_out_fr {zi za zl : List Nat} {F F' : fx_F} {o : List Nat} (h : m_out F o) (hf : fr zi za zl F F') (hd : 3444 ∉ zi ∧ 62 ∉ za) : m_out F' o := by
  unfold m_out at *
  rw [hf.1 3444 (hd.1), hf.2.1 62 (hd.2)]
  exact h
theorem m_words_fr {zi za zl : List Nat} {F F' : fx_F} {W : List (Nat × Nat)} (h : m_words F W) (hf : fr zi za zl F F') (hd : 3447 ∉ zi ∧ 63 ∉ za ∧ 64 ∉ za) : m_words F' W := by
  unfold m_words at *
  rw [hf.1 3447 (hd.1), hf.2.1 63 (hd.2.1), hf.2.1 64 (hd.2.2)]
  exact h
theorem m_fates_fr {zi za zl : List Nat} {F F' : fx_F} {g : Nat → Nat} (h : m_fates F g) (hf : fr zi za zl F F') (hd : 72 ∉ za) : m_fates F' g := by
  unfold m_fates at *
  rw [hf.2.1 72 (hd)]
  exact h
theorem m_print_fr {zi za zl : List Nat} {F F' : fx_F} {p : List Nat} (h : m_print F p) (hf : fr zi za zl F F') (hd : 3472 ∉ zi ∧ 82 ∉ za) : m_print F' p := by
  unfold m_print at *
  rw [hf.1 3472 (hd.1), hf.2.1 82 (hd.2)]
  exact h
theorem m_cm_fr {zi za zl : List Nat} {F F' : fx_F} {T : List Nat} {l : List (Nat × List Nat)} (h : m_cm F T l) (hf : fr zi za zl F F') (hd : 3433 ∉ zi ∧ 56 ∉ za ∧ 57 ∉ za ∧ 58 ∉ za) : m_cm F' T l := by
  unfold m_cm at *
  rw [hf.1 3433 (hd.1), hf.2.1 56 (hd.2.1), hf.2.1 57 (hd.2.2.1), hf.2.1 58 (hd.2.2.2)]
  exact h
theorem m_defd_fr {zi za zl : List Nat} {F F' : fx_F} {T : List Nat} {df : Nat → Option (List Nat)} (h : m_defd F T df) (hf : fr zi za zl F F') (hd : 43 ∉ za ∧ 44 ∉ za ∧ 45 ∉ za) : m_defd F' T df := by
  unfold m_defd at *
  rw [hf.2.1 43 (hd.1), hf.2.1 44 (hd.2.1), hf.2.1 45 (hd.2.2)]
  exact h
theorem m_files_fr {zi za zl : List Nat} {F F' : fx_F} {f : Nat → Nat × Int32} {ck : Nat} (h : m_files F f ck) (hf : fr zi za zl F F') (hd : 3407 ∉ zi ∧ 37 ∉ za ∧ 38 ∉ za ∧ 39 ∉ za) : m_files F' f ck := by
  unfold m_files at *
  rw [hf.1 3407 hd.1, hf.2.1 37 hd.2.1, hf.2.1 38 hd.2.2.1, hf.2.1 39 hd.2.2.2]
  exact h
theorem m_rules_fr {zi za zl : List Nat} {F F' : fx_F} {T : List Nat} {R : RS} (h : m_rules F T R) (hf : fr zi za zl F F') (h1 : ∀ z, z ∈ zi → z ∉ [3402, 3418, 3437, 3433, 3429, 3438, 3426, 3422, 3423, 3439, 3440, 3442, 3441]) (h2 : ∀ z, z ∈ za → z ∉ [61, 56, 57, 58, 54, 55, 43, 44, 45, 53, 52, 49, 50, 51]) (h3 : ∀ z, z ∈ zl → z ∉ [36, 48, 59, 60]) : m_rules F' T R := by
  obtain ⟨g1, g2, g3, g4, g5, g6, g7, g8, g9, g10, g11, g12⟩ := h
  have n1 : ∀ z, z ∈ [3402, 3418, 3437, 3433, 3429, 3438, 3426, 3422, 3423, 3439, 3440, 3442, 3441] → z ∉ zi := fun z a c => h1 z c a
  have n2 : ∀ z, z ∈ [61, 56, 57, 58, 54, 55, 43, 44, 45, 53, 52, 49, 50, 51] → z ∉ za := fun z a c => h2 z c a
  have n3 : ∀ z, z ∈ [36, 48, 59, 60] → z ∉ zl := fun z a c => h3 z c a
  refine ⟨m_names_fr g1 hf ⟨n1 _ (by decide), n3 _ (by decide)⟩, m_sf_fr g2 hf ⟨n1 _ (by decide), n3 _ (by decide)⟩, m_en_fr g3 hf ⟨n1 _ (by decide), n2 _ (by decide), n3 _ (by decide), n3 _ (by decide)⟩, m_cm_fr g4 hf ⟨n1 _ (by decide), n2 _ (by decide), n2 _ (by decide), n2 _ (by decide)⟩, m_pr_fr g5 hf ⟨n1 _ (by decide), n2 _ (by decide), n2 _ (by decide)⟩, m_defd_fr g6 hf ⟨n2 _ (by decide), n2 _ (by decide), n2 _ (by decide)⟩, m_ow_fr g7 hf (n2 _ (by decide)), m_fl_fr g8 hf ⟨n2 _ (by decide), n2 _ (by decide), n2 _ (by decide), n2 _ (by decide)⟩, m_op_fr g9 hf ⟨n1 _ (by decide), n1 _ (by decide)⟩, m_bo_fr g10 hf ⟨n1 _ (by decide), n1 _ (by decide)⟩, m_nu_fr g11 hf ⟨n1 _ (by decide), n1 _ (by decide)⟩, m_cu_fr g12 hf ⟨n1 _ (by decide), n1 _ (by decide)⟩⟩
