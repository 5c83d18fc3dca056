/-! the reference: the ends of the words of an expansion -/
theorem fx_AI (F : fx_F) (z o : Nat) (x : Int32) (l : List Int32) : fx_A (fx_I F z x) o l = fx_I (fx_A F o l) z x := (rfl)
theorem it_srm {α : Type} {body : Int32 → Option (Int32 ⊕ α)} {n : Nat} (P : Nat → Bool) (res : Nat → Option α) (en : Option α) (h : ∀ k, k < n → body (nI k) = if P k = true then (res k).map Sum.inr else some (.inl (nI (k + 1)))) (he : body (nI n) = en.map Sum.inr) : ∀ (m k : Nat), k + m = n → rb_it body (nI k) = match sr P m k with | some j => res j | none => en
  | 0, k, hk => by
    rw [show k = n by omega]
    exact rb_it_m he
  | m + 1, k, hk => by
    have hb := h k (by omega)
    by_cases hp : P k = true
    · rw [if_pos hp] at hb
      rw [sr_pos hp]
      exact rb_it_m hb
    · rw [if_neg hp] at hb
      rw [sr_neg (by simpa using hp), rb_it_l hb]
      exact it_srm P res en h he m (k + 1) (by omega)
/-- the first place from k on that has P, or n -/
def fi (P : Nat → Bool) (n k : Nat) : Nat := match sr P (n - k) k with | some j => j | none => n
theorem fi_le {P : Nat → Bool} {n k : Nat} (h : k ≤ n) : k ≤ fi P n k ∧ fi P n k ≤ n := by
  unfold fi
  cases hs : sr P (n - k) k with
  | none => exact ⟨h, Nat.le_refl _⟩
  | some j =>
    have := sr_some hs
    exact ⟨this.1, by simp only; omega⟩
theorem fi_P {P : Nat → Bool} {n k : Nat} (h : fi P n k < n) : P (fi P n k) = true := by
  unfold fi at *
  cases hs : sr P (n - k) k with
  | none => rw [hs] at h; simp at h
  | some j => exact (sr_some hs).2.2
theorem fi_no {P : Nat → Bool} {n k j : Nat} (h1 : k ≤ j) (h2 : j < fi P n k) (h3 : j < n) : P j = false := by
  unfold fi at *
  cases hs : sr P (n - k) k with
  | none => exact sr_none hs j h1 (by omega)
  | some i =>
    rw [hs] at h2
    simp only at h2
    -- below the first one
    have : ∀ (m k : Nat), sr P m k = some i → k ≤ j → j < i → P j = false := by
      intro m
      induction m with
      | zero => intro k h; cases h
      | succ m ih =>
        intro k h hk hj
        by_cases hp : P k = true
        · rw [sr_pos hp] at h
          cases h
          omega
        · have hp' : P k = false := by simpa using hp
          rw [sr_neg hp'] at h
          by_cases e : j = k
          · rw [e]; exact hp'
          · exact ih (k + 1) h (by omega) hj
    exact this _ k hs h1 h2
theorem fi_end {P : Nat → Bool} {n k : Nat} (h : n ≤ k) : fi P n k = n := by
  unfold fi
  rw [show n - k = 0 by omega]
  rfl
theorem it_fim {α : Type} {body : Int32 → Option (Int32 ⊕ α)} {n : Nat} (P : Nat → Bool) (res : Nat → Option α) (h : ∀ k, k < n → body (nI k) = if P k = true then (res k).map Sum.inr else some (.inl (nI (k + 1)))) (he : body (nI n) = (res n).map Sum.inr) {k : Nat} (hk : k ≤ n) : rb_it body (nI k) = res (fi P n k) := by
  rw [it_srm P res (res n) h he (n - k) k (by omega)]
  unfold fi
  cases sr P (n - k) k <;> rfl
/-- a word with its end changed -/
def fw (u v w : List Nat) : List Nat := if w ≠ [] ∧ sfx u w = true then w.take (w.length - u.length) ++ v else w
/-- the words of a text with their ends changed; w is the beginning of the first one -/
def rpF (u v : List Nat) : List Nat → List Nat → List Nat
  | w, [] => fw u v w
  | w, c :: t => if c = 32 then fw u v w ++ 32 :: rpF u v [] t else rpF u v (w ++ [c]) t
theorem fw_nil (u v : List Nat) : fw u v [] = [] := by simp [fw]
theorem rpF_sp (u v : List Nat) : ∀ (s y : List Nat), (∀ c ∈ s, c = 32) → rpF u v [] (s ++ y) = s ++ rpF u v [] y
  | [], _, _ => rfl
  | c :: s, y, h => by
    have hc : c = 32 := h c (by simp)
    subst hc
    show rpF u v [] (32 :: (s ++ y)) = _
    rw [rpF, if_pos rfl, fw_nil, List.nil_append, rpF_sp u v s y (fun c hc => h c (by simp [hc]))]
    rfl
theorem rpF_wd (u v : List Nat) : ∀ (x w y : List Nat), (∀ c ∈ x, c ≠ 32) → rpF u v w (x ++ y) = rpF u v (w ++ x) y
  | [], w, y, _ => by simp
  | c :: x, w, y, h => by
    have hc : c ≠ 32 := h c (by simp)
    show rpF u v w (c :: (x ++ y)) = _
    rw [rpF, if_neg hc, rpF_wd u v x _ y (fun c hc => h c (by simp [hc]))]
    simp
theorem rpF_end (u v w y : List Nat) (h : y = [] ∨ ∃ t, y = 32 :: t) : rpF u v w y = fw u v w ++ rpF u v [] y := by
  rcases h with rfl | ⟨t, rfl⟩
  · simp [rpF, fw_nil]
  · simp [rpF, fw_nil]
theorem slc_drop {o : List Nat} {p q : Nat} (h : p ≤ q) : o.drop p = slc o p q ++ o.drop q := by
  unfold slc
  rw [show o.drop q = (o.drop p).drop (q - p) by rw [List.drop_drop]; congr 1; omega]
  exact (List.take_append_drop _ _).symm
theorem slc_mem {o : List Nat} {p q c : Nat} (hq : q ≤ o.length) (h : c ∈ slc o p q) : ∃ i, p ≤ i ∧ i < q ∧ o.getD i 0 = c := by
  obtain ⟨i, hi, rfl⟩ := List.mem_iff_getElem.mp h
  rw [slc_len hq] at hi
  refine ⟨p + i, by omega, by omega, ?_⟩
  rw [← slc_get (q := q) (by omega), getD_get (by rw [slc_len hq]; exact hi)]
theorem rp_step (u v : List Nat) {o : List Nat} {p : Nat} (hp : p ≤ o.length) : rpF u v [] (o.drop p) = slc o p (fi (fun k => decide (¬ o.getD k 0 = 32)) o.length p) ++ fw u v (slc o (fi (fun k => decide (¬ o.getD k 0 = 32)) o.length p) (fi (fun k => decide (o.getD k 0 = 32)) o.length (fi (fun k => decide (¬ o.getD k 0 = 32)) o.length p))) ++ rpF u v [] (o.drop (fi (fun k => decide (o.getD k 0 = 32)) o.length (fi (fun k => decide (¬ o.getD k 0 = 32)) o.length p))) := by
  have h1 := fi_le (P := fun k => decide (¬ o.getD k 0 = 32)) hp
  generalize hq : fi (fun k => decide (¬ o.getD k 0 = 32)) o.length p = q at h1 ⊢
  have h2 := fi_le (P := fun k => decide (o.getD k 0 = 32)) h1.2
  generalize hr : fi (fun k => decide (o.getD k 0 = 32)) o.length q = r at h2 ⊢
  rw [slc_drop h1.1, rpF_sp, slc_drop h2.1, rpF_wd, List.nil_append, rpF_end, List.append_assoc]
  · by_cases e : r < o.length
    · right
      have := fi_P (P := fun k => decide (o.getD k 0 = 32)) (n := o.length) (k := q) (by rw [hr]; exact e)
      rw [hr] at this
      simp only [decide_eq_true_eq] at this
      refine ⟨o.drop (r + 1), ?_⟩
      rw [List.drop_eq_getElem_cons e, ← this, getD_get e]
    · left
      exact List.drop_eq_nil_of_le (by omega)
  · intro c hc
    obtain ⟨i, q1, q2, rfl⟩ := slc_mem h2.2 hc
    have := fi_no (P := fun k => decide (o.getD k 0 = 32)) (n := o.length) (k := q) (j := i) q1 (by rw [hr]; exact q2) (by omega)
    simpa using this
  · intro c hc
    obtain ⟨i, q1, q2, rfl⟩ := slc_mem h1.2 hc
    have := fi_no (P := fun k => decide (¬ o.getD k 0 = 32)) (n := o.length) (k := p) (j := i) q1 (by rw [hq]; exact q2) (by omega)
    simpa using this
theorem fw_len {u v w : List Nat} (h : u.length ≤ v.length) : w.length ≤ (fw u v w).length := by
  unfold fw
  split
  · rename_i hc
    have := hc.2
    unfold sfx at this
    simp only [Bool.and_eq_true, decide_eq_true_eq] at this
    simp
    omega
  · exact Nat.le_refl _
theorem rpF_len {u v : List Nat} (h : u.length ≤ v.length) : ∀ (y w : List Nat), w.length + y.length ≤ (rpF u v w y).length
  | [], w => by simpa [rpF] using fw_len h
  | c :: t, w => by
    unfold rpF
    split
    · have h1 := fw_len (w := w) h
      have h2 := rpF_len h t []
      simp at h2 ⊢
      omega
    · have := rpF_len h t (w ++ [c])
      simp at this ⊢
      omega
