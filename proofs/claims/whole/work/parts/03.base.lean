/-! A heap as a function from addresses to (kind, contents); the state of the class and the law as such a heap, its first own address, its next address, how many places were made, and where the constant texts lie. -/
abbrev rb_Hp : Type := Nat → Nat × List Value
abbrev rb_St : Type := rb_Hp × Nat × Nat × Nat × (Nat → Nat)
abbrev rb_Rs : Type := Option Value × rb_St
abbrev rb_b (σ : rb_St) : Nat := σ.2.1
abbrev rb_n (σ : rb_St) : Nat := σ.2.2.1
abbrev rb_s (σ : rb_St) : Nat := σ.2.2.2.1
abbrev rb_k (σ : rb_St) : Nat → Nat := σ.2.2.2.2
/-- what is fixed for a run: the launch, the numbers of classes and of their places, of array classes, where the constant texts lie, the state at the start -/
abbrev rb_EV : Type := Launch × (Nat → ClassId) × (Nat → Nat → Nat) × (Nat → ClassId) × (Nat → Nat) × State
abbrev rb_El (E : rb_EV) : Launch := E.1
abbrev rb_dC (E : rb_EV) : Nat → ClassId := E.2.1
abbrev rb_dI (E : rb_EV) : Nat → Nat → Nat := E.2.2.1
abbrev rb_aC (E : rb_EV) : Nat → ClassId := E.2.2.2.1
abbrev rb_ad (E : rb_EV) : Nat → Nat := E.2.2.2.2.1
abbrev rb_S0 (E : rb_EV) : State := E.2.2.2.2.2
abbrev rb_H0 (E : rb_EV) : Heap := (rb_S0 E).heap
/-- a method: its name, its bytes, its locals, what it answers -/
abbrev rb_MK : Type := MethodName × ByteArray × Nat × Option FieldType
abbrev rb_y (K : rb_MK) : MethodName := K.1
abbrev rb_cc (K : rb_MK) : ByteArray := K.2.1
abbrev rb_nL (K : rb_MK) : Nat := K.2.2.1
abbrev rb_rt (K : rb_MK) : Option FieldType := K.2.2.2
def rb_ws (K : rb_MK) : List Cond := .code (rb_y K) (rb_cc K) (rb_nL K) (rb_rt K) :: rb_G
def rb_RM (d mc ms : Nat) : Room := { frames := d, cells := mc, slots := ms, locals := 40 * d + 20 }
def rb_nest : List Cond := [.methodLinkNest "RuleBuilder" 20 ⟨"RuleBuilder$Store", "<init>", "()V"⟩ "RuleBuilder", .methodLinkNest "RuleBuilder" 27 ⟨"RuleBuilder$Rules", "<init>", "()V"⟩ "RuleBuilder", .methodLinkNest "RuleBuilder" 34 ⟨"RuleBuilder$Expander", "<init>", "()V"⟩ "RuleBuilder"]
def rb_over : List String := ["RuleBuilder$Phrase", "RuleBuilder$Name", "RuleBuilder$Command"]
def rb_ys (E : rb_EV) : List (ClassId × FieldType) := rb_ats.map fun t => (rb_aC E t, rb_aty t)
/-- a static of the JDK's that holds null or something -/
def rb_sf (k : Nat → Nat) : Option Nat := if k 98 = 0 then none else some (k 99)
/-- what is known of the tables of a state -/
def rb_Kn (E : rb_EV) (U : State) : Prop :=
  va_K (fun c => rb_dC E (c + 1), fun c => rb_dI E (c + 1)) rb_ct (rb_ys E) U ∧ (∀ q ∈ rb_sr, vk_R q.1 q.2.1 (rb_tx.getD q.2.2 "") (rb_ad E q.2.2) U) ∧ (∀ w ∈ rb_nest, va_Nw w U) ∧ (∀ C ∈ rb_over, va_AO C U) ∧ va_Z "java/lang/String" "COMPACT_STRINGS" "Z" (.int 1) (fun q => (rb_H0 E).size ≤ q) U (rb_H0 E) ∧ va_Z "jdk/internal/util/Preconditions" "SIOOBE_FORMATTER" "Ljava/util/function/BiFunction;" (va_rf (rb_sf (rb_ad E))) (fun q => (rb_H0 E).size ≤ q) U (rb_H0 E) ∧ (rb_S0 E).vm.Alike U.vm
theorem rb_Kn.warm {E : rb_EV} {s U : State} (hW : s.WarmedH U.vm) (h : rb_Kn E s) : rb_Kn E U := by
  obtain ⟨h1, h2, h3, h4, h5, h6, h7⟩ := h
  refine ⟨va_K.moved hW.alike h1, fun q hq => (h2 q hq).warm hW, fun w hw => ?_, fun C hC => (h4 C hC).moved hW.alike, h5.moved hW.alike, h6.moved hW.alike, h7.trans hW.alike⟩
  have h3 := h3 w hw
  simp only [rb_nest, List.mem_cons, List.not_mem_nil, or_false] at hw
  rcases hw with rfl | rfl | rfl <;> exact va_Nw.warmM hW h3
theorem rb_Kn.same {E : rb_EV} {s U : State} (hv : U.vm = s.vm) (h : rb_Kn E s) : rb_Kn E U := by
  obtain ⟨h1, h2, h3, h4, h5, h6, h7⟩ := h
  have hA : s.vm.Alike U.vm := by rw [hv]; exact Vm.Alike.refl _
  refine ⟨va_K.moved hA h1, fun q hq => (h2 q hq).same hv, fun w hw => ?_, fun C hC => (h4 C hC).moved hA, h5.moved hA, h6.moved hA, h7.trans hA⟩
  have h3 := h3 w hw
  simp only [rb_nest, List.mem_cons, List.not_mem_nil, or_false] at hw
  rcases hw with rfl | rfl | rfl <;> exact va_Nw.same rfl hv.symm h3
/-- a cell of the heap holds what the function says of it -/
def rb_Ok (E : rb_EV) (c : Nat × List Value) (a : Nat) (H : Heap) : Prop :=
  c.1 = 0 ∨ ∃ cell : Cell, H[a]? = some cell ∧ cell.vm.isStatics = false ∧ cell.vm ≠ .unknown ∧ ((rb_H0 E).size ≤ a → cell.vm = .none) ∧
    ((c.1 < 100 ∧ cell.cls = rb_dC E c.1 ∧ (∃ q, rb_ct[c.1 - 1]? = some q ∧ c.2.length ≤ q.2.2) ∧ ∀ k v, c.2[k]? = some v → cell.slots[rb_dI E c.1 k]? = some v) ∨
     (c.1 ∈ rb_ats ∧ ((∀ U, rb_Kn E U → U.isArrayOf cell (rb_aty c.1)) ∧ (110 < c.1 → cell.cls = rb_aC E c.1)) ∧ cell.slots = c.2.toArray))
def rb_Rep (E : rb_EV) (σ : rb_St) (H : Heap) : Prop :=
  H.size = rb_n σ ∧ rb_b σ = (rb_H0 E).size ∧ rb_b σ ≤ rb_n σ ∧ (∀ q, q < rb_b σ → H[q]? = (rb_H0 E)[q]?) ∧ rb_k σ = rb_ad E ∧ ∀ a, rb_Ok E (σ.1 a) a H
/-- the locals by their places -/
def rb_as (lv : List (Option Value)) : List (Nat × Value) := (lv.zipIdx).filterMap fun q => q.1.map fun v => (q.2, v)
theorem rb_as_mem {lv : List (Option Value)} {i : Nat} {v : Value} : (i, v) ∈ rb_as lv ↔ lv[i]? = some (some v) := by
  simp only [rb_as, List.mem_filterMap, Prod.exists, Option.map_eq_some_iff, Prod.mk.injEq]
  constructor
  · rintro ⟨o, j, h, w, rfl, rfl, rfl⟩
    exact List.mem_zipIdx_iff_getElem?.mp h
  · intro h
    exact ⟨some v, i, List.mem_zipIdx_iff_getElem?.mpr h, v, rfl, rfl, rfl⟩
def rb_LH (ls : Array Slot) (n : Nat) (lv : List (Option Value)) : Prop := lv_has ls n (rb_as lv) ∧ lv.length = n
theorem rb_LH.at {ls : Array Slot} {n : Nat} {lv : List (Option Value)} (h : rb_LH ls n lv) {i : Nat} {v : Value} (hv : lv[i]? = some (some v)) : ls[i]? = some (.val v) := h.1.2.2 (i, v) (rb_as_mem.mpr hv)
/-- a word of the locals that takes one place -/
def rb_one (o : Option (Option Value)) : Prop := ∀ v, o = some (some v) → v.category = 1
theorem rb_LH.set1 {ls : Array Slot} {n : Nat} {lv : List (Option Value)} (hn : lv.length = n) {i : Nat} {v : Value} (h0 : 0 < i → rb_one lv[i - 1]?) (h : lv_has ls n ((i, v) :: (rb_as lv).filter (fun q => !(q.1 == i) && !(q.1 + 1 == i && q.2.category == 2)))) : rb_LH ls n (lv.set i (some v)) := by
  refine ⟨⟨h.1, h.2.1, fun q hq => ?_⟩, by rw [List.length_set]; exact hn⟩
  obtain ⟨j, w⟩ := q
  replace hq := rb_as_mem.mp hq
  rw [List.getElem?_set] at hq
  split at hq
  · rename_i e
    subst e
    split at hq
    · simp only [Option.some.injEq] at hq
      subst hq
      exact h.2.2 _ List.mem_cons_self
    · cases hq
  · rename_i e
    refine h.2.2 _ (List.mem_cons_of_mem _ (List.mem_filter.mpr ⟨rb_as_mem.mpr hq, ?_⟩))
    have e1 : (j == i) = false := by simpa using fun e' : j = i => e e'.symm
    simp only [e1, Bool.not_false, Bool.true_and]
    by_cases hj : j + 1 = i
    · have hi : 0 < i := by omega
      have := h0 hi w (by rw [show i - 1 = j by omega]; exact hq)
      simp [this]
    · simp [hj]
theorem rb_LH.set2 {ls : Array Slot} {n : Nat} {lv : List (Option Value)} (hn : lv.length = n) {i : Nat} {v : Value} (h0 : 0 < i → rb_one lv[i - 1]?) (h : lv_has ls n ((i, v) :: (rb_as lv).filter (fun q => !(q.1 == i) && (!(q.1 == i + 1) && !(q.1 + 1 == i && q.2.category == 2))))) : rb_LH ls n ((lv.set i (some v)).set (i + 1) none) := by
  refine ⟨⟨h.1, h.2.1, fun q hq => ?_⟩, by rw [List.length_set, List.length_set]; exact hn⟩
  obtain ⟨j, w⟩ := q
  replace hq := rb_as_mem.mp hq
  rw [List.getElem?_set] at hq
  split at hq
  · split at hq <;> cases hq
  · rename_i e2
    rw [List.getElem?_set] at hq
    split at hq
    · rename_i e
      subst e
      split at hq
      · simp only [Option.some.injEq] at hq
        subst hq
        exact h.2.2 _ List.mem_cons_self
      · cases hq
    · rename_i e
      refine h.2.2 _ (List.mem_cons_of_mem _ (List.mem_filter.mpr ⟨rb_as_mem.mpr hq, ?_⟩))
      have e1 : (j == i) = false := by simpa using fun e' : j = i => e e'.symm
      have e3 : (j == i + 1) = false := by simpa using fun e' : j = i + 1 => e2 e'.symm
      simp only [e1, e3, Bool.not_false, Bool.true_and]
      by_cases hj : j + 1 = i
      · have hi : 0 < i := by omega
        have := h0 hi w (by rw [show i - 1 = j by omega]; exact hq)
        simp [this]
      · simp [hj]
theorem rb_one_i {x : Int32} : rb_one (some (some (.int x))) := fun v h => by cases h; rfl
theorem rb_one_n : rb_one (some none) := fun v h => by cases h
theorem rb_cat_r (r : Option Nat) : (va_rf r).category = 1 := by cases r <;> rfl
theorem rb_one_r {r : Option Nat} : rb_one (some (some (va_rf r))) := fun v h => by cases h; exact rb_cat_r r
/-- what is fixed while a method runs -/
def rb_Cx (E : rb_EV) (K : rb_MK) (p : Program) (s : State) (m : MethodId) (args : Array Value) (meth : Method) (c : Code) : Prop :=
  p.tables.exec = Jvm.exec ∧ c.code = rb_cc K ∧ c.maxLocals = rb_nL K ∧ s.vm.findClass (rb_y K).cls = some m.cls ∧ (∀ w ∈ rb_ws K, w.before args s = true) ∧ meth.sig.returnType = rb_rt K ∧ meth.locks = false ∧ meth.name = (rb_y K).name ∧ rb_Kn E s
def rb_Q (E : rb_EV) (res : rb_Rs) : Array Value → State → Outcome → State → Prop := fun _ _ o t => o = .returned res.1 ∧ rb_Rep E res.2 t.heap
def rb_P (E : rb_EV) (av : List Value) (σ : rb_St) : Array Value → State → Prop := fun v U => v = av.toArray ∧ rb_Rep E σ U.heap ∧ rb_Kn E U
def rb_fr (E : rb_EV) : Nat → Prop := fun q => (rb_H0 E).size ≤ q
/-- the machine, standing at pc in the method K that was entered with σ0, comes to the method's end with res -/
def rb_WK (E : rb_EV) (K : rb_MK) (d : Nat) (σ0 : rb_St) (res : rb_Rs) (pc : Nat) (lv : List (Option Value)) (st : List Value) (σ : rb_St) : Prop :=
  (rb_n σ ≤ rb_n res.2 ∧ rb_s σ ≤ rb_s res.2) ∧ ∀ (p : Program) (e : Env) (s : State) (m : MethodId) (args : Array Value) (below : List Frame) (meth : Method) (c : Code) (H : Heap) (locs : List Loc) (ls : Array Slot),
    rb_Cx E K p s m args meth c → rb_LH ls (rb_nL K) lv → rb_Rep E σ H → (∀ q ∈ locs, rb_fr E q.base) → rb_n σ0 ≤ rb_n σ → rb_s σ0 ≤ rb_s σ →
    W p (rb_El E) e (rb_RM d (rb_n res.2 - rb_n σ0) (rb_s res.2 - rb_s σ0)) s m args below meth c H locs (rb_n σ - rb_n σ0) (rb_s σ - rb_s σ0) (MQ below (rb_Q E res) args s (rb_n res.2 - rb_n σ0) (rb_s res.2 - rb_s σ0) (rb_fr E)) (F0 m pc ls st)
/-- a method called with the values av at σ does what c says, its calls at most d deep -/
def rb_Does (E : rb_EV) (K : rb_MK) (d : Nat) (av : List Value) (σ : rb_St) (c : Option rb_Rs) : Prop :=
  ∀ res, c = some res → (rb_n σ ≤ rb_n res.2 ∧ rb_s σ ≤ rb_s res.2) ∧ Met (rb_El E) (rb_y K) (rb_ws K) (rb_RM d (rb_n res.2 - rb_n σ) (rb_s res.2 - rb_s σ)) (rb_P E av σ) (rb_Q E res) (rb_n res.2 - rb_n σ) (rb_s res.2 - rb_s σ) (rb_fr E)
/-- if c comes out, and its outcome is good by Z, then A -/
def rb_TC {α : Type} (c : Option α) (Z : α → Prop) (A : Prop) : Prop := ∀ r, c = some r → Z r → A
theorem rb_TC.mono {α : Type} {c : Option α} {Z : α → Prop} {A B : Prop} (h : A → B) (t : rb_TC c Z A) : rb_TC c Z B := fun r h1 h2 => h (t r h1 h2)
theorem rb_TC.none {α : Type} {Z : α → Prop} {A : Prop} : rb_TC (none : Option α) Z A := fun r h => by cases h
theorem rb_TC.ite {α : Type} {c1 c2 : Option α} {Z : α → Prop} {A : Prop} {q : Prop} {dq : Decidable q} (h1 : q → rb_TC c1 Z A) (h2 : ¬ q → rb_TC c2 Z A) : rb_TC (@ite _ q dq c1 c2) Z A := by
  by_cases h : q
  · rw [if_pos h]; exact h1 h
  · rw [if_neg h]; exact h2 h
/-- the machine is started: a method's contract out of its walk -/
theorem rb_start {E : rb_EV} {K : rb_MK} {d : Nat} {av : List Value} {lv : List (Option Value)} {σ : rb_St} {c : Option rb_Rs} (hy : plainName (rb_y K).cls = true) (hlv : (lg_sl av).length ≤ rb_nL K ∧ lv.length = rb_nL K ∧ ∀ q ∈ rb_as lv, q ∈ lv_args 0 av)
    (h : ∀ res, rb_TC c (fun r => r = res) (rb_WK E K d σ res 0 lv [] σ)) : rb_Does E K d av σ c := by
  intro res hc
  obtain ⟨hm, hw⟩ := h res res hc rfl
  refine ⟨hm, Met.ofW (cc := rb_cc K) (maxL := rb_nL K) (ret := rb_rt K) hy rfl ?_⟩
  intro p e s m args below meth cd s₁ B hml hv
  obtain ⟨rfl, hR, hK⟩ := hv
  have hl := lv_entry av (n := rb_nL K) hlv.1
  rw [lg_entry_eq]
  have hLH : rb_LH ((lg_sl av ++ List.replicate (rb_nL K - (lg_sl av).length) Slot.unset).toArray) (rb_nL K) lv := ⟨⟨hl.1, hl.2.1, fun q hq => hl.2.2 q (hlv.2.2 q hq)⟩, hlv.2.1⟩
  have := hw p e s m _ below meth cd s.heap [] _ ⟨B.exec, B.bytes, hml, findClass_of_methodNamed B.named, atoms_spec (ws := rb_ws K) B.pre, B.returns, B.notSynchronized, (name_of_methodNamed B.named B.method).1, hK⟩ hLH hR (fun q h => by cases h) (Nat.le_refl _) (Nat.le_refl _)
  simp only [Nat.sub_self] at this
  exact this
/-- loops: the limit of the runs with a bound -/
def rb_itN {S α : Type} (body : S → Option (S ⊕ α)) : Nat → S → Option α
  | 0, _ => none
  | n + 1, s => match body s with
    | none => none
    | some (.inl s') => rb_itN body n s'
    | some (.inr a) => some a
noncomputable def rb_it {S α : Type} (body : S → Option (S ⊕ α)) (s : S) : Option α := @dite _ (∃ a, ∃ n, rb_itN body n s = some a) (Classical.propDecidable _) (fun h => some (Classical.choose h)) (fun _ => none)
theorem rb_itN_mono {S α : Type} {body : S → Option (S ⊕ α)} {a : α} : ∀ (n k : Nat) (s : S), rb_itN body n s = some a → rb_itN body (n + k) s = some a := by
  intro n
  induction n with
  | zero => intro k s h; cases h
  | succ n ih =>
    intro k s h
    rw [show n + 1 + k = (n + k) + 1 by omega]
    unfold rb_itN at h ⊢
    cases hb : body s with
    | none => rw [hb] at h; cases h
    | some x =>
      rw [hb] at h
      cases x with
      | inl s' => exact ih k s' h
      | inr a' => exact h
theorem rb_it_iff {S α : Type} {body : S → Option (S ⊕ α)} {s : S} {a : α} : rb_it body s = some a ↔ ∃ n, rb_itN body n s = some a := by
  unfold rb_it
  constructor
  · intro h
    split at h
    · rename_i hx
      simp only [Option.some.injEq] at h
      rw [← h]
      exact Classical.choose_spec hx
    · cases h
  · rintro ⟨n, hn⟩
    have hx : ∃ a, ∃ n, rb_itN body n s = some a := ⟨a, n, hn⟩
    rw [dif_pos hx]
    obtain ⟨k, hk⟩ := Classical.choose_spec hx
    have h1 := rb_itN_mono n k s hn
    have h2 := rb_itN_mono k n s hk
    rw [Nat.add_comm] at h2
    rw [h1] at h2
    exact h2.symm
theorem rb_it_eq {S α : Type} (body : S → Option (S ⊕ α)) (s : S) : rb_it body s = match body s with
    | none => none
    | some (.inl s') => rb_it body s'
    | some (.inr a) => some a := by
  have key : ∀ a, rb_it body s = some a ↔ (match body s with
    | none => none
    | some (.inl s') => rb_it body s'
    | some (.inr a) => some a) = some a := by
    intro a
    rw [rb_it_iff]
    constructor
    · rintro ⟨n, hn⟩
      cases n with
      | zero => cases hn
      | succ n =>
        unfold rb_itN at hn
        cases hb : body s with
        | none => rw [hb] at hn; cases hn
        | some x =>
          rw [hb] at hn
          cases x with
          | inl s' => exact rb_it_iff.mpr ⟨n, hn⟩
          | inr a' => exact hn
    · intro h
      cases hb : body s with
      | none => rw [hb] at h; cases h
      | some x =>
        rw [hb] at h
        cases x with
        | inl s' =>
          obtain ⟨n, hn⟩ := rb_it_iff.mp h
          exact ⟨n + 1, by unfold rb_itN; rw [hb]; exact hn⟩
        | inr a' => exact ⟨1, by unfold rb_itN; rw [hb]; exact h⟩
  cases h : (match body s with
    | none => none
    | some (.inl s') => rb_it body s'
    | some (.inr a) => some a) with
  | some a => exact (key a).mpr h
  | none =>
    cases h2 : rb_it body s with
    | none => rfl
    | some a => rw [(key a).mp h2] at h; cases h
/-- a loop's head: its body comes back to it or goes out -/
theorem rb_TC.loop {S α : Type} {body : S → Option (S ⊕ α)} {Z : α → Prop} {A : S → Prop} (s0 : S) (h : ∀ s, rb_TC (body s) (fun r => match r with | .inl s' => A s' | .inr a => Z a) (A s)) : rb_TC (rb_it body s0) Z (A s0) := by
  intro a ha hz
  obtain ⟨n, hn⟩ := rb_it_iff.mp ha
  have key : ∀ (n : Nat) (s : S), rb_itN body n s = some a → A s := by
    intro n
    induction n with
    | zero => intro s h; cases h
    | succ n ih =>
      intro s hn
      unfold rb_itN at hn
      cases hb : body s with
      | none => rw [hb] at hn; cases hn
      | some x =>
        rw [hb] at hn
        cases x with
        | inl s' => exact h s _ hb (ih s' hn)
        | inr a' =>
          simp only [Option.some.injEq] at hn
          subst hn
          exact h s _ hb hz
  exact key n s0 hn
