theorem rb_insq : ∀ (i : Nat) (q : vw_C), rb_ct[i]? = some q → ∃ n, Cond.instantiable q.1 n ∈ rb_G := by
  intro i q h
  match i, h with
  | 0, h => cases h; exact ⟨_, rb_ins1⟩
  | 1, h => cases h; exact ⟨_, rb_ins2⟩
  | 2, h => cases h; exact ⟨_, rb_ins3⟩
  | 3, h => cases h; exact ⟨_, rb_ins4⟩
  | 4, h => cases h; exact ⟨_, rb_ins5⟩
  | 5, h => cases h; exact ⟨_, rb_ins6⟩
  | 6, h => cases h; exact ⟨_, rb_ins7⟩
  | 7, h => cases h; exact ⟨_, rb_ins8⟩
  | 8, h => cases h; exact ⟨_, rb_ins9⟩
  | 9, h => cases h; exact ⟨_, rb_ins10⟩
  | 10, h => cases h; exact ⟨_, rb_ins11⟩
  | 11, h => cases h; exact ⟨_, rb_ins12⟩
  | 12, h => cases h; exact ⟨_, rb_ins13⟩
  | 13, h => cases h; exact ⟨_, rb_ins14⟩
  | i + 14, h => simp [rb_ct] at h
theorem rb_prim {args : Array Value} {s : State} {ty : FieldType} (h : (Cond.arrayClass ty).before args s = true) : ∃ cA, ArrOfT s cA ty ∧ s.vm.findClass ("[" ++ ty.toString) = some cA := by
  obtain ⟨c, k, comp, h1, h2, h3⟩ := Cond.arrayClass_spec h
  exact ⟨c, fun n z => ⟨fun _ h => (by cases h), k, h2, comp, h3⟩, h1⟩
theorem rb_objs {args : Array Value} {s : State} {C : String} (h : (Cond.arrayOver (.object C)).before args s = true) : ∃ cA, ArrOfT s cA (.object C) ∧ va_RA s cA (.object C) := by
  obtain ⟨comp, c, k, h1, h2, h3, h4, h5⟩ := Cond.arrayOver_spec h
  exact ⟨c, fun n z => ⟨fun _ h => (by cases h), k, h3, comp, h4⟩, k, comp, h3, h4, h1, h5⟩
theorem rb_find {p : Nat → Bool} {n i : Nat} (h : (List.range n).find? p = some i) : i < n ∧ p i = true := ⟨List.mem_range.mp (List.mem_of_find?_eq_some h), List.find?_some h⟩
theorem rb_find0 {p : Nat → Bool} {n i : Nat} (h : (List.range n).find? p = none) (hi : i < n) : p i = false := by
  have := List.find?_eq_none.mp h i (List.mem_range.mpr hi)
  simpa using this
/-- the heap at the start, as a function -/
def rb_f0 (b : Nat) (xs : List Int32) (adK adV : Nat → Nat) : rb_Hp := fun a => if a = b then (102, xs.map Value.int) else match (List.range 14).find? (fun i => adK i == a) with
  | some i => (14, [.ref (adV i), .int 0])
  | none => match (List.range 14).find? (fun i => adV i == a) with
    | some i => (105, (rb_byt i).map Value.int)
    | none => (0, [])
set_option maxHeartbeats 1000000 in
theorem rb_env {s : State} {b L : Nat} {xs : Nat → Int32} (l : Launch) (hts : ∀ w ∈ lw_tbl, w.before #[Value.ref b] s = true) (hX : va_X b L xs s s.heap) (hbl : b < s.heap.size) (hgv : (Jvm.Cond.and given_1 narrow_1).before #[Value.ref b] s = true) : ∃ (E : rb_EV) (σ : rb_St), rb_El E = l ∧ rb_S0 E = s ∧ rb_Kn E s ∧ rb_Rep E σ s.heap ∧ rb_Init σ b ((List.range L).map xs) := by
  have hG : ∀ w ∈ rb_G, w.before #[Value.ref b] s = true := fun w hw => hts w (List.mem_filter.mp hw).1
  have hs := flat_of_before _ hgv
  obtain ⟨adK, adV, hSC, hSR⟩ := rb_strs hs
  have hA : ∀ a : Nat, a < s.heap.size → ¬ (fun q : Nat => s.heap.size ≤ q) a := fun a ha => Nat.not_le.mpr ha
  have hZ1 : va_Z "java/lang/String" "COMPACT_STRINGS" "Z" (.int 1) (fun q : Nat => s.heap.size ≤ q) s s.heap := va_Zof (hts _ (List.mem_of_getElem? (i := 445) (by decide +kernel))) (hts _ (List.mem_of_getElem? (i := 96) (by decide +kernel))) (va_eqi (hs _ (List.mem_of_getElem? (i := 4) (by decide +kernel)))) hA
  have hZ2 : va_Zq "jdk/internal/util/Preconditions" "SIOOBE_FORMATTER" "Ljava/util/function/BiFunction;" (fun q : Nat => s.heap.size ≤ q) s s.heap := va_Zqof (hts _ (List.mem_of_getElem? (i := 487) (by decide +kernel))) (hts _ (List.mem_of_getElem? (i := 98) (by decide +kernel))) (hs _ (List.mem_of_getElem? (i := 8) (by decide +kernel))) hA
  obtain ⟨ad, had, hZ3⟩ : ∃ ad : Nat → Nat, (∀ i, i < 14 → ad i = adK i) ∧ va_Z "jdk/internal/util/Preconditions" "SIOOBE_FORMATTER" "Ljava/util/function/BiFunction;" (va_rf (rb_sf ad)) (fun q : Nat => s.heap.size ≤ q) s s.heap := by
    rcases hZ2 with h | ⟨t, h⟩
    · exact ⟨fun i => if i = 98 then 0 else adK i, fun i hi => by simp only; rw [if_neg (by omega)], h⟩
    · exact ⟨fun i => if i = 98 then 1 else if i = 99 then t else adK i, fun i hi => by simp only; rw [if_neg (by omega), if_neg (by omega)], h⟩
  have hcl : ∀ i : Nat, ∃ p : ClassId × (Nat → Nat), ∀ q, rb_ct[i]? = some q → u_Kn s q.1 q.2.1 q.2.2 p.1 p.2 := by
    intro i
    cases hq : rb_ct[i]? with
    | none => exact ⟨(0, fun _ => 0), fun q h => by cases h⟩
    | some q =>
      obtain ⟨n, hn⟩ := rb_insq i q hq
      obtain ⟨cC, iS, h⟩ := u_known hG (rb_inq i q hq).1 (hG _ hn)
      exact ⟨(cC, iS), fun q' h' => by cases h'; exact h⟩
  obtain ⟨D, hD⟩ := Classical.axiomOfChoice hcl
  have har : ∀ t : Nat, ∃ cA : ClassId, t ∈ rb_ats → ArrOfT s cA (rb_aty t) ∧ va_RA s cA (rb_aty t) := by
    intro t
    by_cases ht : t ∈ rb_ats
    · simp only [rb_ats, List.mem_cons, List.not_mem_nil, or_false] at ht
      rcases ht with rfl | rfl | rfl | rfl | rfl | rfl | rfl | rfl
      · obtain ⟨c, h1, h2⟩ := rb_prim (hG _ w_ac_char); exact ⟨c, fun _ => ⟨h1, h2⟩⟩
      · obtain ⟨c, h1, h2⟩ := rb_prim (hG _ w_ac_int); exact ⟨c, fun _ => ⟨h1, h2⟩⟩
      · obtain ⟨c, h1, h2⟩ := rb_prim (hG _ w_ac_long); exact ⟨c, fun _ => ⟨h1, h2⟩⟩
      · obtain ⟨c, h1, h2⟩ := rb_prim (hG _ w_ac_boolean); exact ⟨c, fun _ => ⟨h1, h2⟩⟩
      · obtain ⟨c, h1, h2⟩ := rb_prim (hG _ w_ac_byte); exact ⟨c, fun _ => ⟨h1, h2⟩⟩
      · obtain ⟨c, h1⟩ := rb_objs (C := "RuleBuilder$Phrase") (hts _ (List.mem_of_getElem? (i := 152) (by decide +kernel))); exact ⟨c, fun _ => h1⟩
      · obtain ⟨c, h1⟩ := rb_objs (C := "RuleBuilder$Name") (hts _ (List.mem_of_getElem? (i := 134) (by decide +kernel))); exact ⟨c, fun _ => h1⟩
      · obtain ⟨c, h1⟩ := rb_objs (C := "RuleBuilder$Command") (hts _ (List.mem_of_getElem? (i := 154) (by decide +kernel))); exact ⟨c, fun _ => h1⟩
    · exact ⟨0, fun h => absurd h ht⟩
  obtain ⟨aC, haC⟩ := Classical.axiomOfChoice har
  obtain ⟨E, hE⟩ : ∃ E : rb_EV, E = (l, fun t => (D (t - 1)).1, fun t => (D (t - 1)).2, aC, ad, s) := ⟨_, rfl⟩
  have hKn : rb_Kn E s := by
    subst hE
    refine ⟨⟨fun c q hq => hD c q hq, fun k q hq => ?_⟩, fun q hq => ?_, fun w hw => ?_, fun C hC => ?_, hZ1, hZ3, Vm.Alike.refl _⟩
    · rw [rb_ys, List.getElem?_map] at hq
      cases hk : rb_ats[k]? with
      | none => rw [hk] at hq; cases hq
      | some t =>
        rw [hk] at hq
        cases hq
        exact haC t (List.mem_of_getElem? hk)
    · have h1 := hSR q hq
      have hlt : q.2.2 < 14 := by
        simp only [rb_sr, List.mem_cons, List.not_mem_nil, or_false] at hq
        rcases hq with rfl | rfl | rfl | rfl | rfl | rfl | rfl | rfl | rfl | rfl | rfl | rfl | rfl | rfl | rfl | rfl | rfl | rfl | rfl | rfl | rfl <;> decide
      have h2 : (Cond.stringRef q.1 q.2.1 (rb_tx.getD q.2.2 "")).before #[Value.ref b] s = true := by
        simp only [rb_sr, List.mem_cons, List.not_mem_nil, or_false] at hq
        rcases hq with rfl | rfl | rfl | rfl | rfl | rfl | rfl | rfl | rfl | rfl | rfl | rfl | rfl | rfl | rfl | rfl | rfl | rfl | rfl | rfl | rfl
        · exact hts _ (List.mem_of_getElem? (i := 430) (by decide +kernel))
        · exact hts _ (List.mem_of_getElem? (i := 443) (by decide +kernel))
        · exact hts _ (List.mem_of_getElem? (i := 642) (by decide +kernel))
        · exact hts _ (List.mem_of_getElem? (i := 670) (by decide +kernel))
        · exact hts _ (List.mem_of_getElem? (i := 756) (by decide +kernel))
        · exact hts _ (List.mem_of_getElem? (i := 806) (by decide +kernel))
        · exact hts _ (List.mem_of_getElem? (i := 807) (by decide +kernel))
        · exact hts _ (List.mem_of_getElem? (i := 812) (by decide +kernel))
        · exact hts _ (List.mem_of_getElem? (i := 821) (by decide +kernel))
        · exact hts _ (List.mem_of_getElem? (i := 822) (by decide +kernel))
        · exact hts _ (List.mem_of_getElem? (i := 823) (by decide +kernel))
        · exact hts _ (List.mem_of_getElem? (i := 824) (by decide +kernel))
        · exact hts _ (List.mem_of_getElem? (i := 1062) (by decide +kernel))
        · exact hts _ (List.mem_of_getElem? (i := 1093) (by decide +kernel))
        · exact hts _ (List.mem_of_getElem? (i := 1121) (by decide +kernel))
        · exact hts _ (List.mem_of_getElem? (i := 1128) (by decide +kernel))
        · exact hts _ (List.mem_of_getElem? (i := 1138) (by decide +kernel))
        · exact hts _ (List.mem_of_getElem? (i := 1146) (by decide +kernel))
        · exact hts _ (List.mem_of_getElem? (i := 1152) (by decide +kernel))
        · exact hts _ (List.mem_of_getElem? (i := 1158) (by decide +kernel))
        · exact hts _ (List.mem_of_getElem? (i := 1159) (by decide +kernel))
      have h3 : vk_R q.1 q.2.1 (rb_tx.getD q.2.2 "") (adK q.2.2) s := vk_R.of h2 h1
      rw [← had _ hlt] at h3
      exact h3
    · simp only [rb_nest, List.mem_cons, List.not_mem_nil, or_false] at hw
      rcases hw with rfl | rfl | rfl
      · exact va_Nw.of rfl (hts _ (List.mem_of_getElem? (i := 129) (by decide +kernel)))
      · exact va_Nw.of rfl (hts _ (List.mem_of_getElem? (i := 147) (by decide +kernel)))
      · exact va_Nw.of rfl (hts _ (List.mem_of_getElem? (i := 219) (by decide +kernel)))
    · simp only [rb_over, List.mem_cons, List.not_mem_nil, or_false] at hC
      rcases hC with rfl | rfl | rfl
      · exact va_AO.of (hts _ (List.mem_of_getElem? (i := 152) (by decide +kernel)))
      · exact va_AO.of (hts _ (List.mem_of_getElem? (i := 134) (by decide +kernel)))
      · exact va_AO.of (hts _ (List.mem_of_getElem? (i := 154) (by decide +kernel)))
  obtain ⟨scr, x1, x2, x3, x4, x5⟩ := hX
  have hscr : scr.slots = (((List.range L).map xs).map Value.int).toArray := by
    apply Array.ext
    · simp [x4]
    · intro j hj1 hj2
      have hj : j < L := by omega
      have := x5 j hj
      rw [Array.getElem?_eq_getElem hj1] at this
      simp only [Option.some.injEq] at this
      rw [this]
      simp
  have hString : ∃ k : Class, ∀ c, s.vm.findClass "java/lang/String" = some c → s.vm.classes[c]? = some k ∧ k.kind = .ordinary := by
    have h := (hD 13 ("java/lang/String", rb_T14, 4) rfl).2
    obtain ⟨h1, k, h2, h3⟩ := h
    exact ⟨k, fun c hc => by cases h1.symm.trans hc; exact ⟨h2, h3⟩⟩
  obtain ⟨kS, hkS⟩ := hString
  have hKb : ∀ i, i < 14 → adK i ≠ b := by
    intro i hi e
    obtain ⟨⟨cell, c1, c2, c3, c4, c5, c6⟩, c7⟩ := hSC i hi
    rw [e, x1] at c1
    cases c1
    obtain ⟨-, k, hk, comp, hkd⟩ := x2
    obtain ⟨g1, g2⟩ := hkS _ c4
    rw [g1] at hk
    cases hk
    rw [g2] at hkd
    cases hkd
  have hVb : ∀ i, i < 14 → adV i ≠ b := by
    intro i hi e
    obtain ⟨c0, cell, c1, c2, c3, c4⟩ := hSC i hi
    rw [e, x1] at c1
    cases c1
    obtain ⟨-, k, hk, comp, hkd⟩ := x2
    obtain ⟨-, k', hk', comp', hkd'⟩ := c2
    rw [hk] at hk'
    cases hk'
    rw [hkd] at hkd'
    cases hkd'
  have hKV : ∀ i j, i < 14 → j < 14 → adK i ≠ adV j := by
    intro i j hi hj e
    obtain ⟨⟨cell, c1, c2, c3, c4, c5, c6⟩, c7⟩ := hSC i hi
    obtain ⟨d0, cell', d1, d2, d3, d4⟩ := hSC j hj
    rw [e, d1] at c1
    cases c1
    obtain ⟨-, k, hk, comp, hkd⟩ := d2
    obtain ⟨g1, g2⟩ := hkS _ c4
    rw [g1] at hk
    cases hk
    rw [g2] at hkd
    cases hkd
  have hfK : ∀ i, i < 14 → rb_f0 b ((List.range L).map xs) adK adV (adK i) = (14, [.ref (adV i), .int 0]) := by
    intro i hi
    unfold rb_f0
    rw [if_neg (hKb i hi)]
    cases hf : (List.range 14).find? (fun j => adK j == adK i) with
    | none => have := rb_find0 hf hi; simp at this
    | some j =>
      obtain ⟨h1, h2⟩ := rb_find hf
      have h2 : adK j = adK i := by simpa using h2
      obtain ⟨⟨cell, c1, c2, c3, c4, ⟨cf, k, ii, f, c5, c6⟩, c7⟩, c8⟩ := hSC i hi
      obtain ⟨⟨cell', d1, d2, d3, d4, ⟨cf', k', ii', f', d5, d6⟩, d7⟩, d8⟩ := hSC j h1
      rw [h2, c1] at d1
      cases d1
      cases c5.symm.trans d5
      rw [c6] at d6
      have e : adV i = adV j := by simpa using d6
      simp only [e]
  have hfV : ∀ i, i < 14 → rb_f0 b ((List.range L).map xs) adK adV (adV i) = (105, (rb_byt i).map Value.int) := by
    intro i hi
    unfold rb_f0
    rw [if_neg (hVb i hi)]
    cases hf : (List.range 14).find? (fun j => adK j == adV i) with
    | some j =>
      obtain ⟨h1, h2⟩ := rb_find hf
      exact absurd (by simpa using h2) (hKV j i h1 hi)
    | none =>
      cases hf2 : (List.range 14).find? (fun j => adV j == adV i) with
      | none => have := rb_find0 hf2 hi; simp at this
      | some j =>
        obtain ⟨h1, h2⟩ := rb_find hf2
        have h2 : adV j = adV i := by simpa using h2
        obtain ⟨c0, cell, c1, c2, c3, c4⟩ := hSC i hi
        obtain ⟨d0, cell', d1, d2, d3, d4⟩ := hSC j h1
        rw [h2, c1] at d1
        cases d1
        have e := c4.symm.trans d4
        have e2 : (rb_byt i).map Value.int = (rb_byt j).map Value.int := by simpa using e
        simp only [e2]
  refine ⟨E, (rb_f0 b ((List.range L).map xs) adK adV, s.heap.size, s.heap.size, 0, ad), by rw [hE], by rw [hE], hKn, ⟨rfl, by rw [hE], Nat.le_refl _, fun q _ => by rw [hE], by rw [hE], fun a => ?_⟩, ?_⟩
  · have hali : ∀ U, rb_Kn E U → s.vm.Alike U.vm := fun U hU => by
      have := hU.2.2.2.2.2.2
      rw [hE] at this
      exact this
    show rb_Ok E (rb_f0 b ((List.range L).map xs) adK adV a) a s.heap
    by_cases hab : a = b
    · subst hab
      have e : rb_f0 a ((List.range L).map xs) adK adV a = (102, ((List.range L).map xs).map Value.int) := by unfold rb_f0; rw [if_pos rfl]
      rw [e]
      exact Or.inr ⟨scr, x1, (by cases h : scr.vm <;> first | rfl | exact absurd h (x2.1 _)), x3, fun h => absurd hbl (by rw [hE] at h; exact Nat.not_lt.mpr h), Or.inr ⟨(show (102 : Nat) ∈ rb_ats by decide), ⟨fun U hU => State.isArrayOf_alike (hali U hU) x2, fun h => absurd h (show ¬ 110 < (102 : Nat) by decide)⟩, hscr⟩⟩
    · by_cases hk : ∃ i, i < 14 ∧ adK i = a
      · obtain ⟨i, hi, rfl⟩ := hk
        rw [hfK i hi]
        obtain ⟨⟨cell, c1, c2, c3, c4, ⟨cf, k, ii, f, c5, c6⟩, ⟨cf', k', ii', f', c5', c6'⟩⟩, c8⟩ := hSC i hi
        have hl : adK i < s.heap.size := (Array.getElem?_eq_some_iff.mp c1).1
        obtain ⟨hSl, hCA, -⟩ := hD 13 ("java/lang/String", rb_T14, 4) rfl
        refine Or.inr ⟨cell, c1, c2, c3, fun h => absurd hl (by rw [hE] at h; exact Nat.not_lt.mpr h), Or.inl ⟨(show (14 : Nat) < 100 by decide), ?_, ⟨("java/lang/String", rb_T14, 4), rfl, (show (2 : Nat) ≤ 4 by decide)⟩, fun k v hv => ?_⟩⟩
        · rw [hE]; exact (Option.some.inj (hCA.symm.trans c4)).symm
        · match k, hv with
          | 0, hv =>
            cases hv
            obtain ⟨_, _, _, fd, g1, g2⟩ := hSl 0 (by decide)
            cases g1.symm.trans c5
            rw [hE]
            show cell.slots[(D 13).2 0]? = _
            rw [← g2]; exact c6
          | 1, hv =>
            cases hv
            obtain ⟨_, _, _, fd, g1, g2⟩ := hSl 1 (by decide)
            cases g1.symm.trans c5'
            rw [hE]
            show cell.slots[(D 13).2 1]? = _
            rw [← g2]; exact c6'
          | k + 2, hv => simp at hv
      · by_cases hv : ∃ i, i < 14 ∧ adV i = a
        · obtain ⟨i, hi, rfl⟩ := hv
          rw [hfV i hi]
          obtain ⟨c0, cell, c1, c2, c3, c4⟩ := hSC i hi
          have hl : adV i < s.heap.size := (Array.getElem?_eq_some_iff.mp c1).1
          exact Or.inr ⟨cell, c1, (by cases h : cell.vm <;> first | rfl | exact absurd h (c2.1 _)), c3, fun h => absurd hl (by rw [hE] at h; exact Nat.not_lt.mpr h), Or.inr ⟨(show (105 : Nat) ∈ rb_ats by decide), ⟨fun U hU => State.isArrayOf_alike (hali U hU) c2, fun h => absurd h (show ¬ 110 < (105 : Nat) by decide)⟩, c4⟩⟩
        · left
          unfold rb_f0
          rw [if_neg hab]
          cases hf : (List.range 14).find? (fun j => adK j == a) with
          | some j => obtain ⟨h1, h2⟩ := rb_find hf; exact absurd ⟨j, h1, by simpa using h2⟩ hk
          | none =>
            cases hf2 : (List.range 14).find? (fun j => adV j == a) with
            | some j => obtain ⟨h1, h2⟩ := rb_find hf2; exact absurd ⟨j, h1, by simpa using h2⟩ hv
            | none => rfl
  · refine ⟨by show rb_f0 _ _ _ _ _ = _; unfold rb_f0; rw [if_pos rfl], hbl, rfl, fun i hi => ⟨adV i, ?_, hfV i hi, ?_, ?_⟩, fun a ha => ?_⟩
    · show rb_f0 _ _ _ _ (ad i) = _
      rw [had i hi]; exact hfK i hi
    · show ad i < s.heap.size
      rw [had i hi]
      obtain ⟨⟨cell, c1, -⟩, -⟩ := hSC i hi
      exact (Array.getElem?_eq_some_iff.mp c1).1
    · obtain ⟨-, cell, c1, -⟩ := hSC i hi
      exact (Array.getElem?_eq_some_iff.mp c1).1
    · have ha : s.heap.size ≤ a := ha
      show (rb_f0 b ((List.range L).map xs) adK adV a).1 = 0
      unfold rb_f0
      rw [if_neg (by omega)]
      cases hf : (List.range 14).find? (fun j => adK j == a) with
      | some j =>
        obtain ⟨h1, h2⟩ := rb_find hf
        have h2 : adK j = a := by simpa using h2
        obtain ⟨⟨cell, c1, -⟩, -⟩ := hSC j h1
        have := (Array.getElem?_eq_some_iff.mp c1).1
        omega
      | none =>
        cases hf2 : (List.range 14).find? (fun j => adV j == a) with
        | some j =>
          obtain ⟨h1, h2⟩ := rb_find hf2
          have h2 : adV j = a := by simpa using h2
          obtain ⟨-, cell, c1, -⟩ := hSC j h1
          have := (Array.getElem?_eq_some_iff.mp c1).1
          omega
        | none => rfl
