/-! what an expansion is -/
abbrev xI : Type := (List Nat ⊕ (Nat × Option (List Nat × List Nat))) × List Nat
/-- what begins with a bracket, behind it -/
def brk (r : List Nat) : Option xI :=
  if r.length ≤ 1 ∨ cap (r.getD 0 0) = false then none
  else if r.getD 1 0 = 41 then some (.inr (r.getD 0 0 - 65, none), r.drop 2)
  else if r.getD 1 0 = 58 ∧ fi (fun k => decide (r.getD k 0 = 41)) r.length (fi (fun k => decide (r.getD k 0 = 61 ∨ r.getD k 0 = 41)) r.length 2) < r.length ∧ fi (fun k => decide (r.getD k 0 = 61 ∨ r.getD k 0 = 41)) r.length 2 ≠ fi (fun k => decide (r.getD k 0 = 41)) r.length (fi (fun k => decide (r.getD k 0 = 61 ∨ r.getD k 0 = 41)) r.length 2) then
    some (.inr (r.getD 0 0 - 65, some (slc r 2 (fi (fun k => decide (r.getD k 0 = 61 ∨ r.getD k 0 = 41)) r.length 2), slc r (fi (fun k => decide (r.getD k 0 = 61 ∨ r.getD k 0 = 41)) r.length 2 + 1) (fi (fun k => decide (r.getD k 0 = 41)) r.length (fi (fun k => decide (r.getD k 0 = 61 ∨ r.getD k 0 = 41)) r.length 2)))), r.drop (fi (fun k => decide (r.getD k 0 = 41)) r.length (fi (fun k => decide (r.getD k 0 = 61 ∨ r.getD k 0 = 41)) r.length 2) + 1))
  else none
/-- what begins with a dollar, behind it -/
def dlr (A : Nat → Option (List Nat)) : List Nat → Option xI
  | [] => none
  | d :: r => if d = 36 then some (.inl [36], r) else if cap d = true then some (.inr (d - 65, none), r) else if d = 40 then brk r else (A d).map (fun l => (.inl l, r))
/-- the first thing of a text, and what is behind it -/
def itm (A : Nat → Option (List Nat)) : List Nat → Option xI
  | [] => none
  | c :: r => if c = 36 then dlr A r else some (.inl [c], r)
theorem brk_lt {r : List Nat} {x : xI} (h : brk r = some x) : x.2.length < r.length := by
  unfold brk at h
  split at h
  · cases h
  · rename_i h1
    split at h
    · cases h
      simp
      omega
    · split at h
      · rename_i h3
        cases h
        simp
        omega
      · cases h
theorem dlr_le {A : Nat → Option (List Nat)} {r : List Nat} {x : xI} (h : dlr A r = some x) : x.2.length < r.length := by
  cases r with
  | nil => cases h
  | cons d r =>
    rw [dlr] at h
    split at h
    · cases h; simp
    · split at h
      · cases h; simp
      · split at h
        · have := brk_lt h
          simp; omega
        · cases hA : A d with
          | none => rw [hA] at h; cases h
          | some l => rw [hA] at h; cases h; simp
theorem itm_lt {A : Nat → Option (List Nat)} {t : List Nat} {x : xI} (h : itm A t = some x) : x.2.length < t.length := by
  cases t with
  | nil => cases h
  | cons c r =>
    rw [itm] at h
    split at h
    · have := dlr_le h
      simp; omega
    · cases h; simp
/-- an expansion with its ends changed, and how long it was meanwhile -/
def rpx (e : List Nat × Nat) (rp : Option (List Nat × List Nat)) : List Nat × Nat := match rp with
  | none => e
  | some q => (rpF q.1 q.2 [] e.1, max e.2 (rpF q.1 q.2 [] e.1).length)
/-- the expansion of a text, and how long it was meanwhile; mac: that of a macro's value -/
def xeF (A : Nat → Option (List Nat)) (mac : Nat → Option (List Nat × Nat)) : Nat → List Nat → Option (List Nat × Nat)
  | 0, _ => none
  | k + 1, t => if t = [] then some ([], 0) else match itm A t with
    | none => none
    | some (.inl l, r) => (xeF A mac k r).map (fun e => (l ++ e.1, l.length + e.2))
    | some (.inr q, r) => match mac q.1 with
      | none => none
      | some e1 => (xeF A mac k r).map (fun e => ((rpx e1 q.2).1 ++ e.1, max (rpx e1 q.2).2 ((rpx e1 q.2).1.length + e.2)))
theorem xeF_fuel {A : Nat → Option (List Nat)} {mac : Nat → Option (List Nat × Nat)} : ∀ (k : Nat) (t : List Nat), t.length < k → xeF A mac k t = xeF A mac (t.length + 1) t := by
  intro k
  induction k using Nat.strongRecOn with
  | ind k ih =>
    intro t ht
    cases k with
    | zero => omega
    | succ k =>
      by_cases e : k = t.length
      · rw [e]
      · unfold xeF
        split
        · rfl
        · cases hi : itm A t with
          | none => rfl
          | some x =>
            have hlt := itm_lt hi
            have h1 := ih k (by omega) x.2 (by omega)
            have h2 := ih t.length (by omega) x.2 (by omega)
            obtain ⟨y, r⟩ := x
            simp only at h1 h2
            cases y with
            | inl l => simp only [h1, h2]
            | inr q => simp only [h1, h2]
def xe (A : Nat → Option (List Nat)) (V : Nat → List Nat) : Nat → List Nat → Option (List Nat × Nat)
  | 0, t => xeF A (fun _ => none) (t.length + 1) t
  | n + 1, t => xeF A (fun m => xe A V n (V m)) (t.length + 1) t
/-- the expansion of a macro's value, with n levels left -/
def xm (A : Nat → Option (List Nat)) (V : Nat → List Nat) : Nat → Nat → Option (List Nat × Nat)
  | 0, _ => none
  | n + 1, m => xe A V n (V m)
theorem xe_eq (A : Nat → Option (List Nat)) (V : Nat → List Nat) (n : Nat) (t : List Nat) : xe A V n t = xeF A (xm A V n) (t.length + 1) t := by
  cases n <;> rfl
theorem xe_nil (A : Nat → Option (List Nat)) (V : Nat → List Nat) (n : Nat) : xe A V n [] = some ([], 0) := by
  rw [xe_eq]
  rfl
/-- the expansion of a text that is not empty -/
theorem xe_step (A : Nat → Option (List Nat)) (V : Nat → List Nat) (n : Nat) {t : List Nat} (h : t ≠ []) : xe A V n t = match itm A t with
    | none => none
    | some (.inl l, r) => (xe A V n r).map (fun e => (l ++ e.1, l.length + e.2))
    | some (.inr q, r) => match xm A V n q.1 with
      | none => none
      | some e1 => (xe A V n r).map (fun e => ((rpx e1 q.2).1 ++ e.1, max (rpx e1 q.2).2 ((rpx e1 q.2).1.length + e.2))) := by
  rw [xe_eq]
  conv => lhs; unfold xeF
  rw [if_neg h]
  cases hi : itm A t with
  | none => rfl
  | some x =>
    have hlt := itm_lt hi
    obtain ⟨y, r⟩ := x
    have hr : xeF A (xm A V n) t.length r = xe A V n r := by
      rw [xe_eq]
      exact xeF_fuel _ _ hlt
    cases y with
    | inl l => simp only [hr]
    | inr q => simp only [hr]
/-- the longest is no shorter than the expansion -/
theorem xeF_ge {A : Nat → Option (List Nat)} {mac : Nat → Option (List Nat × Nat)} (hm : ∀ m e, mac m = some e → e.1.length ≤ e.2) : ∀ (k : Nat) (t : List Nat) (e : List Nat × Nat), xeF A mac k t = some e → e.1.length ≤ e.2 := by
  intro k
  induction k with
  | zero => intro t e h; cases h
  | succ k ih =>
    intro t e h
    unfold xeF at h
    split at h
    · cases h; simp
    · cases hi : itm A t with
      | none => rw [hi] at h; cases h
      | some x =>
        rw [hi] at h
        obtain ⟨y, r⟩ := x
        cases y with
        | inl l =>
          simp only at h
          cases hx : xeF A mac k r with
          | none => rw [hx] at h; cases h
          | some e2 =>
            rw [hx] at h
            cases h
            have := ih r e2 hx
            simp
            omega
        | inr q =>
          simp only at h
          cases hq : mac q.1 with
          | none => rw [hq] at h; cases h
          | some e1 =>
            rw [hq] at h
            simp only at h
            cases hx : xeF A mac k r with
            | none => rw [hx] at h; cases h
            | some e2 =>
              rw [hx] at h
              cases h
              have := ih r e2 hx
              simp only [List.length_append]
              omega
theorem rpx_ge {e : List Nat × Nat} (h : e.1.length ≤ e.2) (rp : Option (List Nat × List Nat)) : (rpx e rp).1.length ≤ (rpx e rp).2 := by
  unfold rpx
  split
  · exact h
  · simp only
    omega
theorem xe_ge {A : Nat → Option (List Nat)} {V : Nat → List Nat} : ∀ (n : Nat) (t : List Nat) (e : List Nat × Nat), xe A V n t = some e → e.1.length ≤ e.2
  | 0, t, e, h => xeF_ge (fun m e h => by cases h) _ _ _ h
  | n + 1, t, e, h => xeF_ge (fun m e h => xe_ge n _ e h) _ _ _ h
theorem xm_ge {A : Nat → Option (List Nat)} {V : Nat → List Nat} : ∀ (n m : Nat) (e : List Nat × Nat), xm A V n m = some e → e.1.length ≤ e.2
  | 0, m, e, h => by cases h
  | n + 1, m, e, h => xe_ge n _ e h
/-- all that may be read -/
def vok (V : Nat → List Nat) : Prop := ∀ m, tk (V m)
def aok (A : Nat → Option (List Nat)) : Prop := ∀ d l, A d = some l → tk l
theorem rpF_tk {u v : List Nat} (hv : tk v) : ∀ (y w : List Nat), tk w → tk y → tk (rpF u v w y)
  | [], w, hw, _ => by
    unfold rpF fw
    split
    · exact tk_app (tk_take hw _) hv
    · exact hw
  | c :: t, w, hw, hy => by
    have ht : tk t := fun x hx => hy x (by simp [hx])
    unfold rpF
    split
    · rename_i hc
      refine tk_app ?_ ?_
      · unfold fw
        split
        · exact tk_app (tk_take hw _) hv
        · exact hw
      · intro x hx
        rcases List.mem_cons.mp hx with rfl | h2
        · decide
        · exact rpF_tk hv t [] (fun x hx => by simp at hx) ht x h2
    · exact rpF_tk hv t (w ++ [c]) (tk_app hw (fun x hx => by
        have : x = c := by simpa using hx
        rw [this]; exact hy c (by simp))) ht
def xtk (x : xI) : Prop := tk x.2 ∧ (∀ l, x.1 = .inl l → tk l) ∧ ∀ q u v, x.1 = .inr (q, some (u, v)) → tk u ∧ tk v
theorem tk_tail {c : Nat} {r : List Nat} (h : tk (c :: r)) : tk r := fun x hx => h x (by simp [hx])
theorem brk_tk {r : List Nat} (hr : tk r) {x : xI} (h : brk r = some x) : xtk x := by
  unfold brk at h
  split at h
  · cases h
  · split at h
    · cases h
      exact ⟨tk_drop hr _, fun l h => (by cases h), fun q u v h => (by cases h)⟩
    · split at h
      · cases h
        refine ⟨tk_drop hr _, fun l h => (by cases h), fun q u v h => ?_⟩
        cases h
        exact ⟨slc_tk hr _ _, slc_tk hr _ _⟩
      · cases h
theorem itm_tk {A : Nat → Option (List Nat)} (hA : aok A) {t : List Nat} (ht : tk t) {x : xI} (h : itm A t = some x) : xtk x := by
  cases t with
  | nil => cases h
  | cons c r =>
    have hr := tk_tail ht
    rw [itm] at h
    split at h
    · cases r with
      | nil => cases h
      | cons d r2 =>
        have hr2 := tk_tail hr
        rw [dlr] at h
        split at h
        · cases h
          refine ⟨hr2, fun l h => ?_, fun q u v h => (by cases h)⟩
          cases h
          intro x hx
          have : x = 36 := by simpa using hx
          rw [this]; decide
        · split at h
          · cases h
            exact ⟨hr2, fun l h => (by cases h), fun q u v h => (by cases h)⟩
          · split at h
            · exact brk_tk hr2 h
            · cases hd : A d with
              | none => rw [hd] at h; cases h
              | some l =>
                rw [hd] at h
                cases h
                refine ⟨hr2, fun l' h => ?_, fun q u v h => (by cases h)⟩
                cases h
                exact hA d l hd
    · cases h
      refine ⟨hr, fun l h => ?_, fun q u v h => (by cases h)⟩
      cases h
      intro x hx
      have : x = c := by simpa using hx
      rw [this]; exact ht c (by simp)
theorem xeF_tk {A : Nat → Option (List Nat)} (hA : aok A) {mac : Nat → Option (List Nat × Nat)} (hm : ∀ m e, mac m = some e → tk e.1) : ∀ (k : Nat) (t : List Nat) (e : List Nat × Nat), tk t → xeF A mac k t = some e → tk e.1 := by
  intro k
  induction k with
  | zero => intro t e _ h; cases h
  | succ k ih =>
    intro t e ht h
    unfold xeF at h
    split at h
    · cases h
      intro c hc
      simp at hc
    · cases hi : itm A t with
      | none => rw [hi] at h; cases h
      | some x =>
        rw [hi] at h
        have hx := itm_tk hA ht hi
        obtain ⟨y, r⟩ := x
        cases y with
        | inl l =>
          simp only at h
          cases hxe : xeF A mac k r with
          | none => rw [hxe] at h; cases h
          | some e2 =>
            rw [hxe] at h
            cases h
            exact tk_app (hx.2.1 l rfl) (ih r e2 hx.1 hxe)
        | inr q =>
          simp only at h
          cases hq : mac q.1 with
          | none => rw [hq] at h; cases h
          | some e1 =>
            rw [hq] at h
            simp only at h
            cases hxe : xeF A mac k r with
            | none => rw [hxe] at h; cases h
            | some e2 =>
              rw [hxe] at h
              cases h
              refine tk_app ?_ (ih r e2 hx.1 hxe)
              obtain ⟨m, rp⟩ := q
              cases rp with
              | none => exact hm m e1 hq
              | some uv =>
                obtain ⟨u, v⟩ := uv
                exact rpF_tk (hx.2.2 m u v rfl).2 _ _ (fun c hc => by simp at hc) (hm m e1 hq)
theorem xe_tk {A : Nat → Option (List Nat)} (hA : aok A) {V : Nat → List Nat} (hV : vok V) : ∀ (n : Nat) (t : List Nat) (e : List Nat × Nat), tk t → xe A V n t = some e → tk e.1
  | 0, t, e, ht, h => xeF_tk hA (fun m e h => by cases h) _ _ _ ht h
  | n + 1, t, e, ht, h => xeF_tk hA (fun m e h => xe_tk hA hV n _ e (hV m) h) _ _ _ ht h
