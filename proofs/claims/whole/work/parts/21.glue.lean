/-! from what a run of the law as a function does to the law's walk -/
def rb_byt (i : Nat) : List Int32 := match i with
  | 0 => []
  | 1 => [46, 83, 85, 70, 70, 73, 88, 69, 83]
  | 2 => [46, 80, 72, 79, 78, 89]
  | 3 => [46, 73, 71, 78, 79, 82, 69]
  | 4 => [46, 83, 73, 76, 69, 78, 84]
  | 5 => [46, 68, 69, 70, 65, 85, 76, 84]
  | 6 => [116, 111, 117, 99, 104, 32]
  | 7 => [116, 114, 117, 101]
  | 8 => [101, 99, 104, 111]
  | 9 => [116, 111, 117, 99, 104]
  | 10 => [114, 109]
  | 11 => [99, 112]
  | 12 => [99, 97, 116]
  | _ => [62]
/-- the state at the law's entry -/
def rb_Init (σ : rb_St) (b : Nat) (xs : List Int32) : Prop := σ.1 b = (102, xs.map Value.int) ∧ b < rb_b σ ∧ rb_n σ = rb_b σ ∧ (∀ i, i < 14 → ∃ v, σ.1 (rb_k σ i) = (14, [.ref v, .int 0]) ∧ σ.1 v = (105, (rb_byt i).map Value.int) ∧ rb_k σ i < rb_b σ ∧ v < rb_b σ) ∧ ∀ a, rb_b σ ≤ a → (σ.1 a).1 = 0
/-- what remains to be shown: of functions alone -/
def rb_Pure : Prop := ∀ (σ : rb_St) (b : Nat) (xs : List Int32), xs.length ≤ 1536 → rb_Init σ b xs → ∃ σ', f_Law_law (some b) σ = some (some (.int 1), σ') ∧ rb_n σ' ≤ rb_n σ + 600000 ∧ rb_s σ' ≤ rb_s σ + 7302250
/-- a constant text: its object, its bytes -/
def rb_SC (s : State) (a v : Nat) (bs : List Int32) : Prop := (∃ cell : Cell, s.heap[a]? = some cell ∧ cell.vm.isStatics = false ∧ cell.vm ≠ .unknown ∧ s.vm.findClass "java/lang/String" = some cell.cls ∧ (∃ cf k i f, s.fieldFound? "java/lang/String" "value" "[B" = some (cf, k, i, f) ∧ cell.slots[f.slot]? = some (.ref v)) ∧ (∃ cf k i f, s.fieldFound? "java/lang/String" "coder" "B" = some (cf, k, i, f) ∧ cell.slots[f.slot]? = some (.int 0))) ∧ ∃ cell : Cell, s.heap[v]? = some cell ∧ s.isArrayOf cell .byte ∧ cell.vm ≠ .unknown ∧ cell.slots = (bs.map Value.int).toArray
theorem rb_fld {args : Array Value} {s : State} {tm : Term} {a : Nat} {n d : String} {v : Value} (ht : tm.eval args s none [] s = some (.ref a)) (h : (Term.field tm "java/lang/String" n d).eval args s none [] s = some v) : ∃ cf k i f cell, s.fieldFound? "java/lang/String" n d = some (cf, k, i, f) ∧ s.heap[a]? = some cell ∧ cell.vm ≠ .unknown ∧ cell.vm.isStatics = false ∧ cell.slots[f.slot]? = some v := by
  cases hfo : s.fieldFound? "java/lang/String" n d with
  | none =>
    rw [va_fe ht] at h
    simp [State.fieldOf?, State.fieldNamed?, hfo] at h
  | some x =>
    obtain ⟨cf, k, fi, f⟩ := x
    obtain ⟨g1, cell, g2, g3, g4, -, g6⟩ := Term.field_spec hfo ht h
    exact ⟨cf, k, fi, f, cell, rfl, g2, g3, g4, g6⟩
theorem rb_lenlt {args : Array Value} {s : State} {t : Term} {v : Value} {a : Nat} {cell : Cell} (hv : (Term.length t).eval args s none [] s = some v) (ht : t.eval args s none [] s = some (.ref a)) (harr : s.arrayAt? a = some cell) : cell.slots.size < 2 ^ 31 := by
  simp only [Term.eval, ht, harr, Option.bind_eq_bind, Option.bind_some] at hv
  by_cases hlt : cell.slots.size < 2147483648
  · exact hlt
  · simp [hlt] at hv
theorem rb_str {args : Array Value} {s : State} (tm : Term) (bs : List Int32) (h1 : (Cond.exactly tm "java/lang/String").before args s = true) (h2 : (Cond.eq (.field tm "java/lang/String" "coder" "B") (.int 0)).before args s = true) (h3 : (Cond.arrayOf (.field tm "java/lang/String" "value" "[B") .byte).before args s = true) (h4 : (Cond.eq (.length (.field tm "java/lang/String" "value" "[B")) (.int (Int32.ofNat bs.length))).before args s = true) (hb : bs.length < 2 ^ 31)
    (h5 : ∀ j, j < bs.length → (Cond.eq (.elem (.field tm "java/lang/String" "value" "[B") (.int (Int32.ofNat j))) (.int (bs.getD j 0))).before args s = true) : ∃ a v, tm.eval args s none [] s = some (.ref a) ∧ rb_SC s a v bs := by
  obtain ⟨a, c, cell, k, q1, q2, q3, q4, q5, q6, -⟩ := Cond.exactly_spec (args := args) (first := s) (o := none) (s := s) (idx := []) h1
  have hlen := va_eqt h4
  obtain ⟨v, cv, r1, r2, r3⟩ := Term.length_spec hlen
  have hsz : cv.slots.size < 2 ^ 31 := rb_lenlt hlen r1 r2
  obtain ⟨r4, r5, r6, -⟩ := State.arrayAt?_spec r2
  obtain ⟨r7, -⟩ := Cond.arrayOf_spec h3 r1 r4
  have hN : cv.slots.size = bs.length := by
    have e : Int32.ofNat bs.length = cv.slots.size.toInt32 := by injection r3
    exact ((nI_eq (a := bs.length) (b := cv.slots.size) hb hsz).mp e).symm
  have hsl : cv.slots = (bs.map Value.int).toArray := by
    apply Array.ext
    · simp [hN]
    · intro j hj1 hj2
      obtain ⟨a', i', c', g1, g2, g3, g4, g5⟩ := Term.elem_spec (va_eqt (h5 j (by omega)))
      cases r1.symm.trans g1
      cases r2.symm.trans g3
      have hi : i' = Int32.ofNat j := by
        have : (Term.int (Int32.ofNat j)).eval args s none [] s = some (.int (Int32.ofNat j)) := rfl
        rw [this] at g2
        cases g2
        rfl
      subst hi
      rw [show (Int32.ofNat j).toNatClampNeg = j from nI_clamp (n := j) (by omega)] at g5
      rw [Array.getElem?_eq_getElem hj1] at g5
      simp only [Option.some.injEq] at g5
      rw [g5]
      have hjl : j < bs.length := by omega
      simp [hjl]
  obtain ⟨cf, kf, fi, f, cell2, e1, e2, e3, e4, e5⟩ := rb_fld q1 r1
  obtain ⟨cf', kf', fi', f', cell3, e1', e2', e3', e4', e5'⟩ := rb_fld q1 (va_eqt h2)
  cases q3.symm.trans e2
  cases q3.symm.trans e2'
  exact ⟨a, v, q1, ⟨cell, q3, q5, e3, by rw [q6]; exact q2, ⟨cf, kf, fi, f, e1, e5⟩, ⟨cf', kf', fi', f', e1', e5'⟩⟩, ⟨cv, r4, r7, r5, hsl⟩⟩
theorem rb_eqR {args : Array Value} {s : State} {t u : Term} {a : Nat} (h : (Cond.eq t u).before args s = true) (ht : t.eval args s none [] s = some (.ref a)) : u.eval args s none [] s = some (.ref a) := by
  cases hu : u.eval args s none [] s with
  | none => simp [Cond.before, Cond.holds, Cond.value, ht, hu] at h
  | some w =>
    simp only [Cond.before, Cond.holds, Cond.value, ht, hu] at h
    cases w <;> simp_all
set_option maxRecDepth 20000 in
theorem rb_strs {args : Array Value} {s : State} (hs : ∀ c ∈ flatC (Jvm.Cond.and given_1 narrow_1), c.before args s = true) : ∃ adK adV : Nat → Nat, (∀ i, i < 14 → rb_SC s (adK i) (adV i) (rb_byt i)) ∧ ∀ q ∈ rb_sr, (Term.string q.1 q.2.1).eval args s none [] s = some (.ref (adK q.2.2)) := by
  obtain ⟨k0, v0, e0, h0⟩ := rb_str (args := args) (s := s) (Jvm.Term.string "RuleBuilder$Text" (43 : Nat)) [] (hs _ (List.mem_of_getElem? (i := 22) (by decide +kernel))) (hs _ (List.mem_of_getElem? (i := 23) (by decide +kernel))) (hs _ (List.mem_of_getElem? (i := 24) (by decide +kernel))) (hs _ (List.mem_of_getElem? (i := 25) (by decide +kernel))) (by decide) (fun j hj => absurd hj (by simp))
  obtain ⟨k1, v1, e1, h1⟩ := rb_str (args := args) (s := s) (Jvm.Term.string "RuleBuilder$Reader" (163 : Nat)) [46, 83, 85, 70, 70, 73, 88, 69, 83] (hs _ (List.mem_of_getElem? (i := 71) (by decide +kernel))) (hs _ (List.mem_of_getElem? (i := 72) (by decide +kernel))) (hs _ (List.mem_of_getElem? (i := 73) (by decide +kernel))) (hs _ (List.mem_of_getElem? (i := 74) (by decide +kernel))) (by decide) (fun j hj => match j, hj with | 0, _ => (hs _ (List.mem_of_getElem? (i := 75) (by decide +kernel))) | 1, _ => (hs _ (List.mem_of_getElem? (i := 76) (by decide +kernel))) | 2, _ => (hs _ (List.mem_of_getElem? (i := 77) (by decide +kernel))) | 3, _ => (hs _ (List.mem_of_getElem? (i := 78) (by decide +kernel))) | 4, _ => (hs _ (List.mem_of_getElem? (i := 79) (by decide +kernel))) | 5, _ => (hs _ (List.mem_of_getElem? (i := 80) (by decide +kernel))) | 6, _ => (hs _ (List.mem_of_getElem? (i := 81) (by decide +kernel))) | 7, _ => (hs _ (List.mem_of_getElem? (i := 82) (by decide +kernel))) | 8, _ => (hs _ (List.mem_of_getElem? (i := 83) (by decide +kernel))) | j + 9, hj => absurd hj (by simp))
  obtain ⟨k2, v2, e2, h2⟩ := rb_str (args := args) (s := s) (Jvm.Term.string "RuleBuilder$Reader" (187 : Nat)) [46, 80, 72, 79, 78, 89] (hs _ (List.mem_of_getElem? (i := 91) (by decide +kernel))) (hs _ (List.mem_of_getElem? (i := 92) (by decide +kernel))) (hs _ (List.mem_of_getElem? (i := 93) (by decide +kernel))) (hs _ (List.mem_of_getElem? (i := 94) (by decide +kernel))) (by decide) (fun j hj => match j, hj with | 0, _ => (hs _ (List.mem_of_getElem? (i := 95) (by decide +kernel))) | 1, _ => (hs _ (List.mem_of_getElem? (i := 96) (by decide +kernel))) | 2, _ => (hs _ (List.mem_of_getElem? (i := 97) (by decide +kernel))) | 3, _ => (hs _ (List.mem_of_getElem? (i := 98) (by decide +kernel))) | 4, _ => (hs _ (List.mem_of_getElem? (i := 99) (by decide +kernel))) | 5, _ => (hs _ (List.mem_of_getElem? (i := 100) (by decide +kernel))) | j + 6, hj => absurd hj (by simp))
  obtain ⟨k3, v3, e3, h3⟩ := rb_str (args := args) (s := s) (Jvm.Term.string "RuleBuilder$Reader" (189 : Nat)) [46, 73, 71, 78, 79, 82, 69] (hs _ (List.mem_of_getElem? (i := 109) (by decide +kernel))) (hs _ (List.mem_of_getElem? (i := 110) (by decide +kernel))) (hs _ (List.mem_of_getElem? (i := 111) (by decide +kernel))) (hs _ (List.mem_of_getElem? (i := 112) (by decide +kernel))) (by decide) (fun j hj => match j, hj with | 0, _ => (hs _ (List.mem_of_getElem? (i := 113) (by decide +kernel))) | 1, _ => (hs _ (List.mem_of_getElem? (i := 114) (by decide +kernel))) | 2, _ => (hs _ (List.mem_of_getElem? (i := 115) (by decide +kernel))) | 3, _ => (hs _ (List.mem_of_getElem? (i := 116) (by decide +kernel))) | 4, _ => (hs _ (List.mem_of_getElem? (i := 117) (by decide +kernel))) | 5, _ => (hs _ (List.mem_of_getElem? (i := 118) (by decide +kernel))) | 6, _ => (hs _ (List.mem_of_getElem? (i := 119) (by decide +kernel))) | j + 7, hj => absurd hj (by simp))
  obtain ⟨k4, v4, e4, h4⟩ := rb_str (args := args) (s := s) (Jvm.Term.string "RuleBuilder$Reader" (191 : Nat)) [46, 83, 73, 76, 69, 78, 84] (hs _ (List.mem_of_getElem? (i := 129) (by decide +kernel))) (hs _ (List.mem_of_getElem? (i := 130) (by decide +kernel))) (hs _ (List.mem_of_getElem? (i := 131) (by decide +kernel))) (hs _ (List.mem_of_getElem? (i := 132) (by decide +kernel))) (by decide) (fun j hj => match j, hj with | 0, _ => (hs _ (List.mem_of_getElem? (i := 133) (by decide +kernel))) | 1, _ => (hs _ (List.mem_of_getElem? (i := 134) (by decide +kernel))) | 2, _ => (hs _ (List.mem_of_getElem? (i := 135) (by decide +kernel))) | 3, _ => (hs _ (List.mem_of_getElem? (i := 136) (by decide +kernel))) | 4, _ => (hs _ (List.mem_of_getElem? (i := 137) (by decide +kernel))) | 5, _ => (hs _ (List.mem_of_getElem? (i := 138) (by decide +kernel))) | 6, _ => (hs _ (List.mem_of_getElem? (i := 139) (by decide +kernel))) | j + 7, hj => absurd hj (by simp))
  obtain ⟨k5, v5, e5, h5⟩ := rb_str (args := args) (s := s) (Jvm.Term.string "RuleBuilder$Reader" (193 : Nat)) [46, 68, 69, 70, 65, 85, 76, 84] (hs _ (List.mem_of_getElem? (i := 150) (by decide +kernel))) (hs _ (List.mem_of_getElem? (i := 151) (by decide +kernel))) (hs _ (List.mem_of_getElem? (i := 152) (by decide +kernel))) (hs _ (List.mem_of_getElem? (i := 153) (by decide +kernel))) (by decide) (fun j hj => match j, hj with | 0, _ => (hs _ (List.mem_of_getElem? (i := 154) (by decide +kernel))) | 1, _ => (hs _ (List.mem_of_getElem? (i := 155) (by decide +kernel))) | 2, _ => (hs _ (List.mem_of_getElem? (i := 156) (by decide +kernel))) | 3, _ => (hs _ (List.mem_of_getElem? (i := 157) (by decide +kernel))) | 4, _ => (hs _ (List.mem_of_getElem? (i := 158) (by decide +kernel))) | 5, _ => (hs _ (List.mem_of_getElem? (i := 159) (by decide +kernel))) | 6, _ => (hs _ (List.mem_of_getElem? (i := 160) (by decide +kernel))) | 7, _ => (hs _ (List.mem_of_getElem? (i := 161) (by decide +kernel))) | j + 8, hj => absurd hj (by simp))
  obtain ⟨k6, v6, e6, h6⟩ := rb_str (args := args) (s := s) (Jvm.Term.string "RuleBuilder$Shell" (26 : Nat)) [116, 111, 117, 99, 104, 32] (hs _ (List.mem_of_getElem? (i := 189) (by decide +kernel))) (hs _ (List.mem_of_getElem? (i := 190) (by decide +kernel))) (hs _ (List.mem_of_getElem? (i := 191) (by decide +kernel))) (hs _ (List.mem_of_getElem? (i := 192) (by decide +kernel))) (by decide) (fun j hj => match j, hj with | 0, _ => (hs _ (List.mem_of_getElem? (i := 193) (by decide +kernel))) | 1, _ => (hs _ (List.mem_of_getElem? (i := 194) (by decide +kernel))) | 2, _ => (hs _ (List.mem_of_getElem? (i := 195) (by decide +kernel))) | 3, _ => (hs _ (List.mem_of_getElem? (i := 196) (by decide +kernel))) | 4, _ => (hs _ (List.mem_of_getElem? (i := 197) (by decide +kernel))) | 5, _ => (hs _ (List.mem_of_getElem? (i := 198) (by decide +kernel))) | j + 6, hj => absurd hj (by simp))
  obtain ⟨k7, v7, e7, h7⟩ := rb_str (args := args) (s := s) (Jvm.Term.string "RuleBuilder$Shell" (59 : Nat)) [116, 114, 117, 101] (hs _ (List.mem_of_getElem? (i := 212) (by decide +kernel))) (hs _ (List.mem_of_getElem? (i := 213) (by decide +kernel))) (hs _ (List.mem_of_getElem? (i := 214) (by decide +kernel))) (hs _ (List.mem_of_getElem? (i := 215) (by decide +kernel))) (by decide) (fun j hj => match j, hj with | 0, _ => (hs _ (List.mem_of_getElem? (i := 216) (by decide +kernel))) | 1, _ => (hs _ (List.mem_of_getElem? (i := 217) (by decide +kernel))) | 2, _ => (hs _ (List.mem_of_getElem? (i := 218) (by decide +kernel))) | 3, _ => (hs _ (List.mem_of_getElem? (i := 219) (by decide +kernel))) | j + 4, hj => absurd hj (by simp))
  obtain ⟨k8, v8, e8, h8⟩ := rb_str (args := args) (s := s) (Jvm.Term.string "RuleBuilder$Shell" (65 : Nat)) [101, 99, 104, 111] (hs _ (List.mem_of_getElem? (i := 234) (by decide +kernel))) (hs _ (List.mem_of_getElem? (i := 235) (by decide +kernel))) (hs _ (List.mem_of_getElem? (i := 236) (by decide +kernel))) (hs _ (List.mem_of_getElem? (i := 237) (by decide +kernel))) (by decide) (fun j hj => match j, hj with | 0, _ => (hs _ (List.mem_of_getElem? (i := 238) (by decide +kernel))) | 1, _ => (hs _ (List.mem_of_getElem? (i := 239) (by decide +kernel))) | 2, _ => (hs _ (List.mem_of_getElem? (i := 240) (by decide +kernel))) | 3, _ => (hs _ (List.mem_of_getElem? (i := 241) (by decide +kernel))) | j + 4, hj => absurd hj (by simp))
  obtain ⟨k9, v9, e9, h9⟩ := rb_str (args := args) (s := s) (Jvm.Term.string "RuleBuilder$Shell" (70 : Nat)) [116, 111, 117, 99, 104] (hs _ (List.mem_of_getElem? (i := 257) (by decide +kernel))) (hs _ (List.mem_of_getElem? (i := 258) (by decide +kernel))) (hs _ (List.mem_of_getElem? (i := 259) (by decide +kernel))) (hs _ (List.mem_of_getElem? (i := 260) (by decide +kernel))) (by decide) (fun j hj => match j, hj with | 0, _ => (hs _ (List.mem_of_getElem? (i := 261) (by decide +kernel))) | 1, _ => (hs _ (List.mem_of_getElem? (i := 262) (by decide +kernel))) | 2, _ => (hs _ (List.mem_of_getElem? (i := 263) (by decide +kernel))) | 3, _ => (hs _ (List.mem_of_getElem? (i := 264) (by decide +kernel))) | 4, _ => (hs _ (List.mem_of_getElem? (i := 265) (by decide +kernel))) | j + 5, hj => absurd hj (by simp))
  obtain ⟨k10, v10, e10, h10⟩ := rb_str (args := args) (s := s) (Jvm.Term.string "RuleBuilder$Shell" (78 : Nat)) [114, 109] (hs _ (List.mem_of_getElem? (i := 282) (by decide +kernel))) (hs _ (List.mem_of_getElem? (i := 283) (by decide +kernel))) (hs _ (List.mem_of_getElem? (i := 284) (by decide +kernel))) (hs _ (List.mem_of_getElem? (i := 285) (by decide +kernel))) (by decide) (fun j hj => match j, hj with | 0, _ => (hs _ (List.mem_of_getElem? (i := 286) (by decide +kernel))) | 1, _ => (hs _ (List.mem_of_getElem? (i := 287) (by decide +kernel))) | j + 2, hj => absurd hj (by simp))
  obtain ⟨k11, v11, e11, h11⟩ := rb_str (args := args) (s := s) (Jvm.Term.string "RuleBuilder$Shell" (83 : Nat)) [99, 112] (hs _ (List.mem_of_getElem? (i := 305) (by decide +kernel))) (hs _ (List.mem_of_getElem? (i := 306) (by decide +kernel))) (hs _ (List.mem_of_getElem? (i := 307) (by decide +kernel))) (hs _ (List.mem_of_getElem? (i := 308) (by decide +kernel))) (by decide) (fun j hj => match j, hj with | 0, _ => (hs _ (List.mem_of_getElem? (i := 309) (by decide +kernel))) | 1, _ => (hs _ (List.mem_of_getElem? (i := 310) (by decide +kernel))) | j + 2, hj => absurd hj (by simp))
  obtain ⟨k12, v12, e12, h12⟩ := rb_str (args := args) (s := s) (Jvm.Term.string "RuleBuilder$Shell" (88 : Nat)) [99, 97, 116] (hs _ (List.mem_of_getElem? (i := 329) (by decide +kernel))) (hs _ (List.mem_of_getElem? (i := 330) (by decide +kernel))) (hs _ (List.mem_of_getElem? (i := 331) (by decide +kernel))) (hs _ (List.mem_of_getElem? (i := 332) (by decide +kernel))) (by decide) (fun j hj => match j, hj with | 0, _ => (hs _ (List.mem_of_getElem? (i := 333) (by decide +kernel))) | 1, _ => (hs _ (List.mem_of_getElem? (i := 334) (by decide +kernel))) | 2, _ => (hs _ (List.mem_of_getElem? (i := 335) (by decide +kernel))) | j + 3, hj => absurd hj (by simp))
  obtain ⟨k13, v13, e13, h13⟩ := rb_str (args := args) (s := s) (Jvm.Term.string "RuleBuilder$Shell" (90 : Nat)) [62] (hs _ (List.mem_of_getElem? (i := 355) (by decide +kernel))) (hs _ (List.mem_of_getElem? (i := 356) (by decide +kernel))) (hs _ (List.mem_of_getElem? (i := 357) (by decide +kernel))) (hs _ (List.mem_of_getElem? (i := 358) (by decide +kernel))) (by decide) (fun j hj => match j, hj with | 0, _ => (hs _ (List.mem_of_getElem? (i := 359) (by decide +kernel))) | j + 1, hj => absurd hj (by simp))
  refine ⟨fun i => match i with | 0 => k0 | 1 => k1 | 2 => k2 | 3 => k3 | 4 => k4 | 5 => k5 | 6 => k6 | 7 => k7 | 8 => k8 | 9 => k9 | 10 => k10 | 11 => k11 | 12 => k12 | _ => k13, fun i => match i with | 0 => v0 | 1 => v1 | 2 => v2 | 3 => v3 | 4 => v4 | 5 => v5 | 6 => v6 | 7 => v7 | 8 => v8 | 9 => v9 | 10 => v10 | 11 => v11 | 12 => v12 | _ => v13, fun i hi => ?_, fun q hq => ?_⟩
  · match i, hi with
    | 0, _ => exact h0
    | 1, _ => exact h1
    | 2, _ => exact h2
    | 3, _ => exact h3
    | 4, _ => exact h4
    | 5, _ => exact h5
    | 6, _ => exact h6
    | 7, _ => exact h7
    | 8, _ => exact h8
    | 9, _ => exact h9
    | 10, _ => exact h10
    | 11, _ => exact h11
    | 12, _ => exact h12
    | 13, _ => exact h13
    | i + 14, hi => exact absurd hi (by omega)
  · simp only [rb_sr, List.mem_cons, List.not_mem_nil, or_false] at hq
    rcases hq with rfl | rfl | rfl | rfl | rfl | rfl | rfl | rfl | rfl | rfl | rfl | rfl | rfl | rfl | rfl | rfl | rfl | rfl | rfl | rfl | rfl
    · exact e0
    · exact rb_eqR (hs _ (List.mem_of_getElem? (i := 30) (by decide +kernel))) e0
    · exact rb_eqR (hs _ (List.mem_of_getElem? (i := 35) (by decide +kernel))) e0
    · exact rb_eqR (hs _ (List.mem_of_getElem? (i := 41) (by decide +kernel))) e0
    · exact rb_eqR (hs _ (List.mem_of_getElem? (i := 48) (by decide +kernel))) e0
    · exact rb_eqR (hs _ (List.mem_of_getElem? (i := 56) (by decide +kernel))) e0
    · exact rb_eqR (hs _ (List.mem_of_getElem? (i := 65) (by decide +kernel))) e0
    · exact e1
    · exact e2
    · exact e3
    · exact e4
    · exact e5
    · exact rb_eqR (hs _ (List.mem_of_getElem? (i := 177) (by decide +kernel))) e0
    · exact e6
    · exact e7
    · exact e8
    · exact e9
    · exact e10
    · exact e11
    · exact e12
    · exact e13
