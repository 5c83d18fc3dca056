/-! rows that the walks use besides -/
theorem rb_TC.loop2 {S α : Type} {body : S → Option (S ⊕ α)} {Z : α → Prop} {A : S → Prop} (s0 : S) (h : ∀ s, rb_TC (body s) (Sum.elim A Z) (A s)) : rb_TC (rb_it body s0) Z (A s0) :=
  rb_TC.loop s0 fun s r hr hz => h s r hr (by cases r <;> exact hz)
theorem rb_TC.out {S α : Type} {c : Option α} {Z : α → Prop} {A : S → Prop} {P : Prop} (h : rb_TC c Z P) : rb_TC (c.map Sum.inr) (Sum.elim A Z) P := by
  intro r hr hz
  obtain ⟨x, hx, rfl⟩ := Option.map_eq_some_iff.mp hr
  exact h x hx hz
theorem rb_back {S α : Type} {Z : α → Prop} {A : S → Prop} {s : S} : rb_TC (some (Sum.inl s)) (Sum.elim A Z) (A s) := fun r hr hz => by cases hr; exact hz
def rb_Le (l1 l2 : List (Option Value)) : Prop := l1.length = l2.length ∧ ∀ (i : Nat) (v : Value), l1[i]? = some (some v) → l2[i]? = some (some v)
theorem rb_le0 : rb_Le [] [] := ⟨rfl, fun i v h => h⟩
theorem rb_leN {l1 l2 : List (Option Value)} {o : Option Value} (h : rb_Le l1 l2) : rb_Le (none :: l1) (o :: l2) := by
  refine ⟨by simp [h.1], fun i v hv => ?_⟩
  cases i with
  | zero => simp at hv
  | succ i => simp only [List.getElem?_cons_succ] at hv ⊢; exact h.2 i v hv
theorem rb_leS {l1 l2 : List (Option Value)} {o : Option Value} (h : rb_Le l1 l2) : rb_Le (o :: l1) (o :: l2) := by
  refine ⟨by simp [h.1], fun i v hv => ?_⟩
  cases i with
  | zero => exact hv
  | succ i => simp only [List.getElem?_cons_succ] at hv ⊢; exact h.2 i v hv
theorem rb_le_ok {l1 l2 : List (Option Value)} (h : rb_Le l1 l2) : l1.length = l2.length ∧ ∀ q ∈ rb_as l1, q ∈ rb_as l2 := rb_less_ok h.1 h.2
abbrev rb_isZ (x : Int32) : Prop := x = 0 ∨ x = 1
abbrev rb_isC (x : Int32) : Prop := 0 ≤ x ∧ x ≤ 65535
abbrev rb_isB (x : Int32) : Prop := x = 0 ∨ x = 1
theorem rb_nar_Z {x : Int32} (h : rb_isZ x) : narrow .boolean (.int x) = .int x := by rcases h with rfl | rfl <;> rfl
theorem rb_nar_B {x : Int32} (h : rb_isB x) : narrow .byte (.int x) = .int x := by rcases h with rfl | rfl <;> rfl
theorem rb_nar_C {x : Int32} (h : rb_isC x) : narrow .char (.int x) = .int x := by
  obtain ⟨j, hj, rfl⟩ := nI_of2 (M := 65535) (n := 65535) (by decide) (Int32.not_lt.mpr h.1) h.2
  exact (pk_charN (by omega)).1
section RBP
variable {E : rb_EV} {K : rb_MK} {d : Nat} {σ0 : rb_St} {res : rb_Rs} {pc : Nat} {lv : List (Option Value)} {st : List Value} {σ : rb_St} {α : Type} {Z : α → Prop}
theorem rt_pI {idx t k : Nat} {x : Int32} {c : rb_St → Option α} (r : Option Nat) (hF : rb_Fp K idx t k .int) (hd : decode (rb_cc K) pc = .ok (.putfield idx, 3)) (h : ∀ σ', rb_TC (c σ') Z (rb_WK E K d σ0 res (pc + 3) lv st σ')) : rb_TC ((rb_pI σ r t k x).bind c) Z (rb_WK E K d σ0 res pc lv (.int x :: va_rf r :: st) σ) := rt_put r hF rfl rfl hd h
theorem rt_pR {idx t k : Nat} {ty : FieldType} {r2 : Option Nat} {c : rb_St → Option α} (r : Option Nat) (hF : rb_Fp K idx t k ty ∧ ((∃ n, ty = .object n) ∨ ∃ t, ty = .array t)) (hd : decode (rb_cc K) pc = .ok (.putfield idx, 3)) (h : ∀ σ', rb_TC (c σ') Z (rb_WK E K d σ0 res (pc + 3) lv st σ')) : rb_TC ((rb_pR σ r t k r2).bind c) Z (rb_WK E K d σ0 res pc lv (va_rf r2 :: va_rf r :: st) σ) := by
  refine rt_put r hF.1 ?_ ?_ hd h
  · rcases hF.2 with ⟨n, rfl⟩ | ⟨n, rfl⟩ <;> rfl
  · rcases hF.2 with ⟨n, rfl⟩ | ⟨n, rfl⟩ <;> cases r2 <;> rfl
theorem rt_pZ {idx t k : Nat} {x : Int32} {c : rb_St → Option α} (r : Option Nat) (hF : rb_Fp K idx t k .boolean) (hd : decode (rb_cc K) pc = .ok (.putfield idx, 3)) (h : ∀ σ', rb_TC (c σ') Z (rb_WK E K d σ0 res (pc + 3) lv st σ')) : rb_TC ((rb_pZ σ r t k x).bind c) Z (rb_WK E K d σ0 res pc lv (.int x :: va_rf r :: st) σ) := by
  unfold rb_pZ
  by_cases hx : x = 0 ∨ x = 1
  · rw [if_pos hx]
    exact rt_put r hF (rb_nar_Z hx) (by rcases hx with rfl | rfl <;> rfl) hd h
  · rw [if_neg hx]; exact rb_TC.none
theorem rt_pB {idx t k : Nat} {x : Int32} {c : rb_St → Option α} (r : Option Nat) (hF : rb_Fp K idx t k .byte) (hd : decode (rb_cc K) pc = .ok (.putfield idx, 3)) (h : ∀ σ', rb_TC (c σ') Z (rb_WK E K d σ0 res (pc + 3) lv st σ')) : rb_TC ((rb_pB σ r t k x).bind c) Z (rb_WK E K d σ0 res pc lv (.int x :: va_rf r :: st) σ) := by
  unfold rb_pB
  by_cases hx : x = 0 ∨ x = 1
  · rw [if_pos hx]
    exact rt_put r hF (rb_nar_B hx) (by rcases hx with rfl | rfl <;> rfl) hd h
  · rw [if_neg hx]; exact rb_TC.none
end RBP
theorem rb_cat_i (x : Int32) : (Value.int x).category = 1 := rfl
theorem rb_cat_l (x : Int64) : (Value.long x).category = 2 := rfl
/-! Math.max, System.arraycopy -/
def rb_mx (x y : Int32) : Int32 := if x < y then y else x
def rb_Xw (own : String) (idx : Nat) : Prop := Cond.methodLink own idx Lib.Math.max.name ∈ rb_G ∧ Cond.static Lib.Math.max.name ∈ rb_G ∧ Cond.initialized "java/lang/Math" ∈ rb_G ∧ Cond.code Lib.Math.max.name Lib.Math.max.code 2 (some .int) ∈ rb_G
def rb_mn (x y : Int32) : Int32 := if y < x then y else x
def rb_Nw (own : String) (idx : Nat) : Prop := Cond.methodLink own idx Lib.Math.min.name ∈ rb_G ∧ Cond.static Lib.Math.min.name ∈ rb_G ∧ Cond.initialized "java/lang/Math" ∈ rb_G ∧ Cond.code Lib.Math.min.name Lib.Math.min.code 2 (some .int) ∈ rb_G
def rb_Yw (own : String) (idx : Nat) : Prop := Cond.methodLink own idx arraycopyName ∈ rb_G ∧ Cond.native arraycopyName ∈ rb_G ∧ Cond.static arraycopyName ∈ rb_G ∧ Cond.initialized "java/lang/System" ∈ rb_G
def rb_wr (l : List Value) (p : Nat) : List Value → List Value
  | [] => l
  | v :: vs => rb_wr (l.set p v) (p + 1) vs
theorem rb_wr_len (vs : List Value) : ∀ (l : List Value) (p : Nat), (rb_wr l p vs).length = l.length := by
  induction vs with
  | nil => intro l p; rfl
  | cons v vs ih => intro l p; rw [rb_wr, ih, List.length_set]
def rb_pick (l : List Value) (p n : Nat) : List Value := (List.range n).map fun i => l.getD (p + i) .null
def rb_cp (σ : rb_St) (rs rd : Option Nat) (t : Nat) (sp dp n : Int32) : Option rb_St := (rb_fc σ rs t).bind fun l0 => rd.bind fun a => if (σ.1 a).1 = t ∧ rb_b σ ≤ a ∧ ¬ sp < 0 ∧ ¬ dp < 0 ∧ ¬ n < 0 ∧ sp.toNatClampNeg + n.toNatClampNeg ≤ l0.length ∧ dp.toNatClampNeg + n.toNatClampNeg ≤ (σ.1 a).2.length ∧ (rb_pick l0 sp.toNatClampNeg n.toNatClampNeg).all (fun v => fits (rb_aty t) v) = true then some (rb_set σ a (rb_wr (σ.1 a).2 dp.toNatClampNeg (rb_pick l0 sp.toNatClampNeg n.toNatClampNeg))) else none
theorem rb_pairs (p : Nat) (vs : List Value) : ∀ (i : Nat) (cell : Cell) (l : List Value), cell.slots = l.toArray → (cell.storePairs p (vs.zipIdx i)).slots = (rb_wr l (p + i) vs).toArray := by
  induction vs with
  | nil => intro i cell l h; exact h
  | cons v vs ih =>
    intro i cell l h
    rw [List.zipIdx_cons]
    show ((cell.setSlot (p + i) v).storePairs p (vs.zipIdx (i + 1))).slots = _
    rw [ih (i + 1) _ (l.set (p + i) v) (rb_setl h _ _)]
    rfl
theorem rb_stretch {cell : Cell} {l : List Value} (h : cell.slots = l.toArray) (p n : Nat) : cell.stretch p n = rb_pick l p n := by
  unfold Cell.stretch rb_pick
  rw [h]
  simp
section RBX
variable {E : rb_EV} {K : rb_MK} {d : Nat} {σ0 : rb_St} {res : rb_Rs} {pc : Nat} {lv : List (Option Value)} {st : List Value} {σ : rb_St} {α : Type} {Z : α → Prop}
theorem rk_mmax {idx : Nat} {x y : Int32} (hX : rb_Xw (rb_y K).cls idx) (hd0 : 1 ≤ d) (hrest : (st.map fun v => v.category).sum ≤ 8) (hd : decode (rb_cc K) pc = .ok (.invokestatic idx, 3)) (h : rb_WK E K d σ0 res (pc + 3) lv (.int (rb_mx x y) :: st) σ) : rb_WK E K d σ0 res pc lv (.int y :: .int x :: st) σ := by
  refine ⟨h.1, fun p e s m args below meth c H locs ls hC hL hR hf g1 g2 => ?_⟩
  obtain ⟨hx, hb, hml, hown, hts, hrt, hlk, hnm, hK⟩ := id hC
  have hts' : ∀ w ∈ rb_G, w.before args s = true := fun w hw => hts w (List.mem_cons_of_mem _ hw)
  have m1 := h.1.1
  have m2 := h.1.2
  exact va_mmax hx hb (by rw [hml]; exact hL.1.1.symm) hown (hts' _ hX.1) (hts' _ hX.2.1) (hts' _ hX.2.2.1) (hts' _ hX.2.2.2) hd0 (by show _ ≤ 40 * d + 20; omega) (by show _ ≤ rb_n res.2 - rb_n σ0; omega) (by show _ ≤ rb_s res.2 - rb_s σ0; omega) hd (h.2 p e s m args below meth c H locs ls hC hL hR hf g1 g2)
theorem rk_mmin {idx : Nat} {x y : Int32} (hX : rb_Nw (rb_y K).cls idx) (hd0 : 1 ≤ d) (hrest : (st.map fun v => v.category).sum ≤ 8) (hd : decode (rb_cc K) pc = .ok (.invokestatic idx, 3)) (h : rb_WK E K d σ0 res (pc + 3) lv (.int (rb_mn x y) :: st) σ) : rb_WK E K d σ0 res pc lv (.int y :: .int x :: st) σ := by
  refine ⟨h.1, fun p e s m args below meth c H locs ls hC hL hR hf g1 g2 => ?_⟩
  obtain ⟨hx, hb, hml, hown, hts, hrt, hlk, hnm, hK⟩ := id hC
  have hts' : ∀ w ∈ rb_G, w.before args s = true := fun w hw => hts w (List.mem_cons_of_mem _ hw)
  have m1 := h.1.1
  have m2 := h.1.2
  exact va_mmin hx hb (by rw [hml]; exact hL.1.1.symm) hown (hts' _ hX.1) (hts' _ hX.2.1) (hts' _ hX.2.2.1) (hts' _ hX.2.2.2) hd0 (by show _ ≤ 40 * d + 20; omega) (by show _ ≤ rb_n res.2 - rb_n σ0; omega) (by show _ ≤ rb_s res.2 - rb_s σ0; omega) hd (h.2 p e s m args below meth c H locs ls hC hL hR hf g1 g2)
theorem rb_nn (z : Int32) (hz : ¬ z < 0) : z.toInt = (z.toNatClampNeg : Int) := by
  have hz0 : (0 : Int) ≤ z.toInt := by
    have := Int32.not_lt.mp hz
    simpa using Int32.le_iff_toInt_le.mp this
  show z.toInt = ((z.toInt.toNat : Nat) : Int)
  omega
theorem rt_acopy {idx t : Nat} {sp dp n : Int32} {c : rb_St → Option α} (rs rd : Option Nat) (hY : rb_Yw (rb_y K).cls idx) (ht : t ∈ [101, 102, 103, 104, 105]) (hd0 : 1 ≤ d) (hrest : (st.map fun v => v.category).sum ≤ 8) (hd : decode (rb_cc K) pc = .ok (.invokestatic idx, 3)) (h : ∀ σ', rb_TC (c σ') Z (rb_WK E K d σ0 res (pc + 3) lv st σ')) : rb_TC ((rb_cp σ rs rd t sp dp n).bind c) Z (rb_WK E K d σ0 res pc lv (.int n :: .int dp :: va_rf rd :: .int sp :: va_rf rs :: st) σ) := by
  intro z hz hZ
  obtain ⟨σ', h1, h2⟩ := Option.bind_eq_some_iff.mp hz
  obtain ⟨l0, h3, h4⟩ := Option.bind_eq_some_iff.mp h1
  obtain ⟨b0, rfl, hb0⟩ := rb_fc_s h3
  obtain ⟨a, rfl, h5⟩ := Option.bind_eq_some_iff.mp h4
  split at h5
  · rename_i hc
    obtain ⟨ha, hab, s0, d0, n0, hsl, hdl, hfit⟩ := hc
    simp only [Option.some.injEq] at h5
    subst h5
    have hw := h _ z h2 hZ
    refine ⟨hw.1, fun p e s m args below meth c H locs ls hC hL hR hf g1 g2 => ?_⟩
    have hta : t ∈ rb_ats := by
      simp only [List.mem_cons, List.not_mem_nil, or_false] at ht
      rcases ht with rfl | rfl | rfl | rfl | rfl <;> decide
    have hnr : refKind (rb_aty t) = false := by
      simp only [List.mem_cons, List.not_mem_nil, or_false] at ht
      rcases ht with rfl | rfl | rfl | rfl | rfl <;> rfl
    obtain ⟨hx, hb, hml, hown, hts, hrt, hlk, hnm, hK⟩ := id hC
    have hts' : ∀ w ∈ rb_G, w.before args s = true := fun w hw => hts w (List.mem_cons_of_mem _ hw)
    obtain ⟨cs, e1, e2, e3, e4, e5, e6⟩ := rb_arr hR (show (σ.1 b0).1 = t by rw [hb0]) hta
    rw [hb0] at e6
    obtain ⟨cd, f1, f2, f3, f4, f5, f6⟩ := rb_arr hR ha hta
    obtain ⟨i1, ks, i2, cm1, i3⟩ := rb_isArr hK hta e5 e2
    obtain ⟨j1, kd, j2, cm2, j3⟩ := rb_isArr hK hta f5 f2
    intro T hT X
    have hvals : ∀ i, i < n.toNatClampNeg → fits (rb_aty t) (cs.slots.getD (sp.toNatClampNeg + i) .null) = true := by
      intro i hi
      have := List.all_eq_true.mp hfit (l0.getD (sp.toNatClampNeg + i) .null) (List.mem_map.mpr ⟨i, List.mem_range.mpr hi, rfl⟩)
      rw [e6]
      simpa using this
    obtain ⟨vm', X', step⟩ := X.arraycopy hx hown (hts' _ hY.1) (hts' _ hY.2.1) (hts' _ hY.2.2.1) (hts' _ hY.2.2.2) (src := b0) (dst := a) (cs := cs) (cd := cd) (srcPos := sp) (destPos := dp) (n := n) (by rw [hT]; exact e1) (by rw [hT]; exact f1)
      i1 j1 e3 f3 i2 j2 i3 j3 (by simp [hnr]) s0 d0 n0
      (by rw [rb_nn sp s0, rb_nn n n0, e6]; simp only [List.size_toArray]; omega)
      (by rw [rb_nn dp d0, rb_nn n n0, f6]; simp only [List.size_toArray]; omega)
      (fun vm₁ _ i hi => ⟨hvals i hi, by
        have := hvals i hi
        have hnref : ∀ q, cs.slots.getD (sp.toNatClampNeg + i) .null ≠ .ref q := by
          intro q hq
          rw [hq] at this
          simp only [List.mem_cons, List.not_mem_nil, or_false] at ht
          rcases ht with rfl | rfl | rfl | rfl | rfl <;> cases this
        cases hv : cs.slots.getD (sp.toNatClampNeg + i) .null <;> first | exact absurd hv (hnref _) | exact trivial⟩)
      (g := F0 m pc ls (.int n :: .int dp :: .ref a :: .int sp :: .ref b0 :: st)) rfl (by rw [hml]; exact hL.1.1) (rest := st) rfl (by rw [hb]; exact hd) hd0 (by show 2 * 0 + _ + (7 + 11) ≤ 40 * d + 20; omega)
    have hsl2 : (copied cs cd sp dp n).slots = (rb_wr (σ.1 a).2 dp.toNatClampNeg (rb_pick l0 sp.toNatClampNeg n.toNatClampNeg)).toArray := by
      show (cd.storePairs _ _).slots = _
      rw [rb_stretch e6]
      exact rb_pairs _ _ 0 cd _ f6
    have hfc := Cell.storePairs_facts cd dp.toNatClampNeg ((cs.stretch sp.toNatClampNeg n.toNatClampNeg).zipIdx)
    have hl : a < H.size := (Array.getElem?_eq_some_iff.mp f1).1
    have hheap : ((T.setVm vm').setCell a (copied cs cd sp dp n)).heap = H.setIfInBounds a (copied cs cd sp dp n) := by rw [← hT]; rfl
    have hR' : rb_Rep E (rb_set σ a (rb_wr (σ.1 a).2 dp.toNatClampNeg (rb_pick l0 sp.toNatClampNeg n.toNatClampNeg))) (H.setIfInBounds a (copied cs cd sp dp n)) := by
      refine hR.upd hab (by simp) (fun q hq => by simp [Array.getElem?_setIfInBounds, Ne.symm hq]) (Or.inr ⟨copied cs cd sp dp n, by simp [Array.getElem?_setIfInBounds, hl], ?_, ?_, ?_, Or.inr ⟨by rw [ha]; exact hta, ?_, hsl2⟩⟩)
      · show (cd.storePairs _ _).vm.isStatics = false; rw [hfc.2.1]; exact f2
      · show (cd.storePairs _ _).vm ≠ _; rw [hfc.2.1]; exact f3
      · intro hq; show (cd.storePairs _ _).vm = _; rw [hfc.2.1]; exact f4 hq
      · rw [ha]
        refine ⟨fun U hU => ?_, fun h9 => ?_⟩
        · have h8 := f5.1 U hU
          refine ⟨fun k hk => h8.1 k (hfc.2.1 ▸ hk), ?_⟩
          show ∃ k, U.vm.classes[(cd.storePairs _ _).cls]? = some k ∧ _
          rw [hfc.1]
          exact h8.2
        · show (cd.storePairs _ _).cls = _; rw [hfc.1]; exact f5.2 h9
    have hlocs : ∀ q ∈ locs ++ (cs.stretch sp.toNatClampNeg n.toNatClampNeg).zipIdx.map (fun q => (⟨a, dp.toNatClampNeg + q.2⟩ : Loc)), rb_fr E q.base := by
      intro q hq
      rcases List.mem_append.mp hq with hq | hq
      · exact hf q hq
      · obtain ⟨w, -, rfl⟩ := List.mem_map.mp hq
        show (rb_H0 E).size ≤ a
        rw [← hR.2.1]; exact hab
    obtain ⟨t2, b1, b2⟩ := hw.2 p e s m args below meth c _ _ ls hC hL hR' hlocs g1 g2 _ hheap X'
    exact ⟨t2, step t2 b1, b2⟩
  · cases h5
end RBX
/-! switches -/
section RBS
variable {E : rb_EV} {K : rb_MK} {d : Nat} {σ0 : rb_St} {res : rb_Rs} {pc : Nat} {lv : List (Option Value)} {st : List Value} {σ : rb_St}
theorem rk_tabIn {dflt lo hi : Int} {offs : Array Int} {len : Nat} {x : Int32} {off : Int} (tgt : Nat) (hd : decode (rb_cc K) pc = .ok (.tableswitch dflt lo hi offs, len)) (h1 : ¬ x.toInt < lo) (h2 : ¬ hi < x.toInt) (ho : offs[(x.toInt - lo).toNat]? = some off) (ht : (pc : Int) + off = (tgt : Int)) (h : rb_WK E K d σ0 res tgt lv st σ) : rb_WK E K d σ0 res pc lv (.int x :: st) σ := ⟨h.1, fun p e s m args below meth c H locs ls hC hL hR hf g1 g2 => lv_tableIn hC.1 hC.2.1 hd h1 h2 ho ht (h.2 p e s m args below meth c H locs ls hC hL hR hf g1 g2)⟩
theorem rk_tabOut {dflt lo hi : Int} {offs : Array Int} {len : Nat} {x : Int32} (tgt : Nat) (hd : decode (rb_cc K) pc = .ok (.tableswitch dflt lo hi offs, len)) (h1 : x.toInt < lo ∨ hi < x.toInt) (ht : (pc : Int) + dflt = (tgt : Int)) (h : rb_WK E K d σ0 res tgt lv st σ) : rb_WK E K d σ0 res pc lv (.int x :: st) σ := ⟨h.1, fun p e s m args below meth c H locs ls hC hL hR hf g1 g2 => lv_tableOut hC.1 hC.2.1 hd h1 ht (h.2 p e s m args below meth c H locs ls hC hL hR hf g1 g2)⟩
theorem rk_look {dflt : Int} {ps : Array (Int × Int)} {len : Nat} {x : Int32} {off : Int} (tgt : Nat) (hd : decode (rb_cc K) pc = .ok (.lookupswitch dflt ps, len)) (hp : (ps.toList.zip (ps.toList.drop 1)).all (fun (a, next) => a.1 < next.1) = true) (ho : Op.lookupswitch.offset ps.toList dflt x.toInt = off) (ht : (pc : Int) + off = (tgt : Int)) (h : rb_WK E K d σ0 res tgt lv st σ) : rb_WK E K d σ0 res pc lv (.int x :: st) σ := ⟨h.1, fun p e s m args below meth c H locs ls hC hL hR hf g1 g2 => lv_lookup hC.1 hC.2.1 hd hp ho ht (h.2 p e s m args below meth c H locs ls hC hL hR hf g1 g2)⟩
theorem rb_neI {x k : Int32} (h : ¬ x = k) : ¬ x.toInt = k.toInt := fun e => h (Int32.toInt_inj.mp e)
end RBS
