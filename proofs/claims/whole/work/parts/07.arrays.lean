/-! rows: arrays, new cells, constants, answers -/
theorem rb_setl {cell : Cell} {l : List Value} (h : cell.slots = l.toArray) (j : Nat) (v : Value) : (cell.setSlot j v).slots = (l.set j v).toArray := by
  simp [Cell.setSlot, h]
section RBA
variable {E : rb_EV} {K : rb_MK} {d : Nat} {σ0 : rb_St} {res : rb_Rs} {pc : Nat} {lv : List (Option Value)} {st : List Value} {σ : rb_St} {α : Type} {Z : α → Prop}
theorem rb_inb {l : List Value} {cell : Cell} (h : cell.slots = l.toArray) {i : Int32} {v : Value} (hv : rb_ix l i = some v) : ¬ (i < 0 ∨ cell.slots.size ≤ i.toNatClampNeg) ∧ cell.slots[i.toNatClampNeg]? = some v := by
  unfold rb_ix at hv
  split at hv
  · cases hv
  · rename_i h0
    have hl := (List.getElem?_eq_some_iff.mp hv).1
    refine ⟨fun q => ?_, ?_⟩
    · rcases q with q | q
      · exact h0 q
      · rw [h] at q
        simp at q
        omega
    · rw [h]
      simpa using hv
theorem rt_len {t : Nat} {c : Int32 → Option α} (r : Option Nat) (ht : t ∈ rb_ats) (hd : decode (rb_cc K) pc = .ok (.arraylength, 1)) (h : ∀ x, rb_TC (c x) Z (rb_WK E K d σ0 res (pc + 1) lv (.int x :: st) σ)) : rb_TC ((rb_len σ r t).bind c) Z (rb_WK E K d σ0 res pc lv (va_rf r :: st) σ) := by
  intro z hz hZ
  obtain ⟨x, h1, h2⟩ := Option.bind_eq_some_iff.mp hz
  obtain ⟨l, h3, h4⟩ := Option.map_eq_some_iff.mp h1
  obtain ⟨a, rfl, ha⟩ := rb_fc_s h3
  have hw := h x z h2 hZ
  refine ⟨hw.1, fun p e s m args below meth c H locs ls hC hL hR hf g1 g2 => ?_⟩
  obtain ⟨cell, e1, e2, e3, e4, e5, e6⟩ := rb_arr hR (show (σ.1 a).1 = t by rw [ha]) ht
  exact W.alen hC.1 hC.2.1 e1 (rb_isArr hC.2.2.2.2.2.2.2.2 ht e5 e2) (n := x) (by rw [e6, ha, ← h4]; simp [nI]) rfl rfl hd (hw.2 p e s m args below meth c H locs ls hC hL hR hf g1 g2)
theorem rt_iald {c : Int32 → Option α} (r : Option Nat) {i : Int32} (hd : decode (rb_cc K) pc = .ok (.iaload, 1)) (h : ∀ x, rb_TC (c x) Z (rb_WK E K d σ0 res (pc + 1) lv (.int x :: st) σ)) : rb_TC ((rb_aI σ r 102 i).bind c) Z (rb_WK E K d σ0 res pc lv (.int i :: va_rf r :: st) σ) := by
  intro z hz hZ
  obtain ⟨x, h1, h2⟩ := Option.bind_eq_some_iff.mp hz
  obtain ⟨l, h3, h4⟩ := Option.bind_eq_some_iff.mp h1
  obtain ⟨a, rfl, ha⟩ := rb_fc_s h3
  have hw := h x z h2 hZ
  refine ⟨hw.1, fun p e s m args below meth c H locs ls hC hL hR hf g1 g2 => ?_⟩
  obtain ⟨cell, e1, e2, e3, e4, e5, e6⟩ := rb_arr hR (show (σ.1 a).1 = 102 by rw [ha]) (by decide)
  rw [ha] at e6
  have hb := rb_inb e6 (rb_int_s h4)
  exact W.iald hC.1 hC.2.1 e1 (rb_isArr hC.2.2.2.2.2.2.2.2 (t := 102) (by decide) e5 e2) e3 hb.1 hb.2 rfl rfl hd (hw.2 p e s m args below meth c H locs ls hC hL hR hf g1 g2)
theorem rt_cald {c : Int32 → Option α} (r : Option Nat) {i : Int32} (hd : decode (rb_cc K) pc = .ok (.caload, 1)) (h : ∀ x, rb_TC (c x) Z (rb_WK E K d σ0 res (pc + 1) lv (.int x :: st) σ)) : rb_TC ((rb_aI σ r 101 i).bind c) Z (rb_WK E K d σ0 res pc lv (.int i :: va_rf r :: st) σ) := by
  intro z hz hZ
  obtain ⟨x, h1, h2⟩ := Option.bind_eq_some_iff.mp hz
  obtain ⟨l, h3, h4⟩ := Option.bind_eq_some_iff.mp h1
  obtain ⟨a, rfl, ha⟩ := rb_fc_s h3
  have hw := h x z h2 hZ
  refine ⟨hw.1, fun p e s m args below meth c H locs ls hC hL hR hf g1 g2 => ?_⟩
  obtain ⟨cell, e1, e2, e3, e4, e5, e6⟩ := rb_arr hR (show (σ.1 a).1 = 101 by rw [ha]) (by decide)
  rw [ha] at e6
  have hb := rb_inb e6 (rb_int_s h4)
  exact W.cald hC.1 hC.2.1 e1 (rb_isArr hC.2.2.2.2.2.2.2.2 (t := 101) (by decide) e5 e2) e3 hb.1 hb.2 rfl rfl hd (hw.2 p e s m args below meth c H locs ls hC hL hR hf g1 g2)
theorem rt_bald {c : Int32 → Option α} (r : Option Nat) {i : Int32} (hd : decode (rb_cc K) pc = .ok (.baload, 1)) (h : ∀ x, rb_TC (c x) Z (rb_WK E K d σ0 res (pc + 1) lv (.int x :: st) σ)) : rb_TC ((rb_aI σ r 105 i).bind c) Z (rb_WK E K d σ0 res pc lv (.int i :: va_rf r :: st) σ) := by
  intro z hz hZ
  obtain ⟨x, h1, h2⟩ := Option.bind_eq_some_iff.mp hz
  obtain ⟨l, h3, h4⟩ := Option.bind_eq_some_iff.mp h1
  obtain ⟨a, rfl, ha⟩ := rb_fc_s h3
  have hw := h x z h2 hZ
  refine ⟨hw.1, fun p e s m args below meth c H locs ls hC hL hR hf g1 g2 => ?_⟩
  obtain ⟨cell, e1, e2, e3, e4, e5, e6⟩ := rb_arr hR (show (σ.1 a).1 = 105 by rw [ha]) (by decide)
  rw [ha] at e6
  have hb := rb_inb e6 (rb_int_s h4)
  exact W.bald hC.1 hC.2.1 e1 (rb_isArr hC.2.2.2.2.2.2.2.2 (t := 105) (by decide) e5 e2) e3 hb.1 hb.2 rfl rfl hd (hw.2 p e s m args below meth c H locs ls hC hL hR hf g1 g2)
theorem rt_zald {c : Int32 → Option α} (r : Option Nat) {i : Int32} (hd : decode (rb_cc K) pc = .ok (.baload, 1)) (h : ∀ x, rb_TC (c x) Z (rb_WK E K d σ0 res (pc + 1) lv (.int x :: st) σ)) : rb_TC ((rb_aI σ r 104 i).bind c) Z (rb_WK E K d σ0 res pc lv (.int i :: va_rf r :: st) σ) := by
  intro z hz hZ
  obtain ⟨x, h1, h2⟩ := Option.bind_eq_some_iff.mp hz
  obtain ⟨l, h3, h4⟩ := Option.bind_eq_some_iff.mp h1
  obtain ⟨a, rfl, ha⟩ := rb_fc_s h3
  have hw := h x z h2 hZ
  refine ⟨hw.1, fun p e s m args below meth c H locs ls hC hL hR hf g1 g2 => ?_⟩
  obtain ⟨cell, e1, e2, e3, e4, e5, e6⟩ := rb_arr hR (show (σ.1 a).1 = 104 by rw [ha]) (by decide)
  rw [ha] at e6
  have hb := rb_inb e6 (rb_int_s h4)
  exact W.zald hC.1 hC.2.1 e1 (rb_isArr hC.2.2.2.2.2.2.2.2 (t := 104) (by decide) e5 e2) e3 hb.1 hb.2 rfl rfl hd (hw.2 p e s m args below meth c H locs ls hC hL hR hf g1 g2)
theorem rt_lald {c : Int64 → Option α} (r : Option Nat) {i : Int32} (hd : decode (rb_cc K) pc = .ok (.laload, 1)) (h : ∀ x, rb_TC (c x) Z (rb_WK E K d σ0 res (pc + 1) lv (.long x :: st) σ)) : rb_TC ((rb_aL σ r 103 i).bind c) Z (rb_WK E K d σ0 res pc lv (.int i :: va_rf r :: st) σ) := by
  intro z hz hZ
  obtain ⟨x, h1, h2⟩ := Option.bind_eq_some_iff.mp hz
  obtain ⟨l, h3, h4⟩ := Option.bind_eq_some_iff.mp h1
  obtain ⟨a, rfl, ha⟩ := rb_fc_s h3
  have hw := h x z h2 hZ
  refine ⟨hw.1, fun p e s m args below meth c H locs ls hC hL hR hf g1 g2 => ?_⟩
  obtain ⟨cell, e1, e2, e3, e4, e5, e6⟩ := rb_arr hR (show (σ.1 a).1 = 103 by rw [ha]) (by decide)
  rw [ha] at e6
  have hb := rb_inb e6 (rb_lng_s h4)
  exact W.lald hC.1 hC.2.1 e1 (rb_isArr hC.2.2.2.2.2.2.2.2 (t := 103) (by decide) e5 e2) e3 hb.1 hb.2 rfl rfl hd (hw.2 p e s m args below meth c H locs ls hC hL hR hf g1 g2)
theorem rt_aald {t : Nat} {c : Option Nat → Option α} (r : Option Nat) {i : Int32} (ht : t ∈ rb_ats ∧ (rb_aty t).isReference = true) (hd : decode (rb_cc K) pc = .ok (.aaload, 1)) (h : ∀ x, rb_TC (c x) Z (rb_WK E K d σ0 res (pc + 1) lv (va_rf x :: st) σ)) : rb_TC ((rb_aR σ r t i).bind c) Z (rb_WK E K d σ0 res pc lv (.int i :: va_rf r :: st) σ) := by
  intro z hz hZ
  obtain ⟨x, h1, h2⟩ := Option.bind_eq_some_iff.mp hz
  obtain ⟨l, h3, h4⟩ := Option.bind_eq_some_iff.mp h1
  obtain ⟨a, rfl, ha⟩ := rb_fc_s h3
  have hw := h x z h2 hZ
  refine ⟨hw.1, fun p e s m args below meth c H locs ls hC hL hR hf g1 g2 => ?_⟩
  obtain ⟨cell, e1, e2, e3, e4, e5, e6⟩ := rb_arr hR (show (σ.1 a).1 = t by rw [ha]) ht.1
  rw [ha] at e6
  have hb := rb_inb e6 (rb_rfo_s h4)
  exact W.aald hC.1 hC.2.1 e1 (rb_isArr hC.2.2.2.2.2.2.2.2 ht.1 e5 e2) ht.2 e3 hb.1 hb.2 rfl rfl hd (hw.2 p e s m args below meth c H locs ls hC hL hR hf g1 g2)
/-- what every store into an array gives -/
theorem rb_stored {H : Heap} (hR : rb_Rep E σ H) {a t : Nat} {cell : Cell} {j : Nat} {v : Value} (ha : (σ.1 a).1 = t) (ht : t ∈ rb_ats) (hb0 : rb_b σ ≤ a) (e2 : cell.vm.isStatics = false) (e3 : cell.vm ≠ .unknown) (e4 : (rb_H0 E).size ≤ a → cell.vm = .none) (e5 : (∀ U, rb_Kn E U → U.isArrayOf cell (rb_aty t)) ∧ (110 < t → cell.cls = rb_aC E t)) (e6 : cell.slots = (σ.1 a).2.toArray) : ∀ H' : Heap, H'[a]? = some (cell.setSlot j v) → H'.size = H.size → (∀ q, q ≠ a → H'[q]? = H[q]?) → rb_Rep E (rb_set σ a ((σ.1 a).2.set j v)) H' := by
  intro H' w1 w2 w3
  exact hR.upd hb0 w2 w3 (Or.inr ⟨_, w1, e2, e3, e4, Or.inr ⟨by rw [ha]; exact ht, by rw [ha]; exact ⟨fun U hU => e5.1 U hU, fun h => e5.2 h⟩, rb_setl e6 j v⟩⟩)
theorem rb_locs {H : Heap} (hR : rb_Rep E σ H) {locs : List Loc} (hf : ∀ q ∈ locs, rb_fr E q.base) {a j : Nat} (hb0 : rb_b σ ≤ a) : ∀ q ∈ locs ++ [⟨a, j⟩], rb_fr E q.base := by
  intro q hq
  rcases List.mem_append.mp hq with hq | hq
  · exact hf q hq
  · rw [List.mem_singleton.mp hq]
    show (rb_H0 E).size ≤ a
    rw [← hR.2.1]; exact hb0
theorem rb_inb2 {l : List Value} {cell : Cell} (h : cell.slots = l.toArray) {i : Int32} (h0 : ¬ i < 0) (h1 : i.toNatClampNeg < l.length) : ¬ (i < 0 ∨ cell.slots.size ≤ i.toNatClampNeg) := by
  intro q
  rcases q with q | q
  · exact h0 q
  · rw [h] at q
    simp at q
    omega
theorem rt_iast {c : rb_St → Option α} (r : Option Nat) {i : Int32} {x : Int32} (hd : decode (rb_cc K) pc = .ok (.iastore, 1)) (h : ∀ σ', rb_TC (c σ') Z (rb_WK E K d σ0 res (pc + 1) lv st σ')) : rb_TC ((rb_sI σ r 102 i x).bind c) Z (rb_WK E K d σ0 res pc lv (.int x :: .int i :: va_rf r :: st) σ) := by
  intro z hz hZ
  obtain ⟨σ', h1, h2⟩ := Option.bind_eq_some_iff.mp hz
  obtain ⟨a, rfl, ha, hb0, hi0, hil, rfl⟩ := rb_sV_s h1
  have hw := h _ z h2 hZ
  refine ⟨hw.1, fun p e s m args below meth c H locs ls hC hL hR hf g1 g2 => ?_⟩
  obtain ⟨cell, e1, e2, e3, e4, e5, e6⟩ := rb_arr hR ha (by decide)
  exact W.iast hC.1 hC.2.1 e1 (rb_isArr hC.2.2.2.2.2.2.2.2 (t := 102) (by decide) e5 e2) e3 (rb_inb2 e6 hi0 hil) rfl rfl hd fun H' w1 w2 w3 => hw.2 p e s m args below meth c H' _ ls hC hL (rb_stored hR ha (by decide) hb0 e2 e3 e4 e5 e6 H' w1 w2 w3) (rb_locs hR hf hb0) g1 g2
theorem rt_cast {c : rb_St → Option α} (r : Option Nat) {i : Int32} {x : Int32} (hd : decode (rb_cc K) pc = .ok (.castore, 1)) (h : ∀ σ', rb_TC (c σ') Z (rb_WK E K d σ0 res (pc + 1) lv st σ')) : rb_TC ((rb_sI σ r 101 i x).bind c) Z (rb_WK E K d σ0 res pc lv (.int x :: .int i :: va_rf r :: st) σ) := by
  intro z hz hZ
  obtain ⟨σ', h1, h2⟩ := Option.bind_eq_some_iff.mp hz
  obtain ⟨a, rfl, ha, hb0, hi0, hil, rfl⟩ := rb_sV_s h1
  have hw := h _ z h2 hZ
  refine ⟨hw.1, fun p e s m args below meth c H locs ls hC hL hR hf g1 g2 => ?_⟩
  obtain ⟨cell, e1, e2, e3, e4, e5, e6⟩ := rb_arr hR ha (by decide)
  exact W.cast hC.1 hC.2.1 e1 (rb_isArr hC.2.2.2.2.2.2.2.2 (t := 101) (by decide) e5 e2) e3 (rb_inb2 e6 hi0 hil) rfl rfl hd fun H' w1 w2 w3 => hw.2 p e s m args below meth c H' _ ls hC hL (rb_stored hR ha (by decide) hb0 e2 e3 e4 e5 e6 H' w1 w2 w3) (rb_locs hR hf hb0) g1 g2
theorem rt_bast {c : rb_St → Option α} (r : Option Nat) {i : Int32} {x : Int32} (hd : decode (rb_cc K) pc = .ok (.bastore, 1)) (h : ∀ σ', rb_TC (c σ') Z (rb_WK E K d σ0 res (pc + 1) lv st σ')) : rb_TC ((rb_sI σ r 105 i x).bind c) Z (rb_WK E K d σ0 res pc lv (.int x :: .int i :: va_rf r :: st) σ) := by
  intro z hz hZ
  obtain ⟨σ', h1, h2⟩ := Option.bind_eq_some_iff.mp hz
  obtain ⟨a, rfl, ha, hb0, hi0, hil, rfl⟩ := rb_sV_s h1
  have hw := h _ z h2 hZ
  refine ⟨hw.1, fun p e s m args below meth c H locs ls hC hL hR hf g1 g2 => ?_⟩
  obtain ⟨cell, e1, e2, e3, e4, e5, e6⟩ := rb_arr hR ha (by decide)
  exact W.bast hC.1 hC.2.1 e1 (rb_isArr hC.2.2.2.2.2.2.2.2 (t := 105) (by decide) e5 e2) e3 (rb_inb2 e6 hi0 hil) rfl rfl hd fun H' w1 w2 w3 => hw.2 p e s m args below meth c H' _ ls hC hL (rb_stored hR ha (by decide) hb0 e2 e3 e4 e5 e6 H' w1 w2 w3) (rb_locs hR hf hb0) g1 g2
theorem rt_zast {c : rb_St → Option α} (r : Option Nat) {i : Int32} {x : Int32} (hd : decode (rb_cc K) pc = .ok (.bastore, 1)) (h : ∀ σ', rb_TC (c σ') Z (rb_WK E K d σ0 res (pc + 1) lv st σ')) : rb_TC ((rb_sI σ r 104 i x).bind c) Z (rb_WK E K d σ0 res pc lv (.int x :: .int i :: va_rf r :: st) σ) := by
  intro z hz hZ
  obtain ⟨σ', h1, h2⟩ := Option.bind_eq_some_iff.mp hz
  obtain ⟨a, rfl, ha, hb0, hi0, hil, rfl⟩ := rb_sV_s h1
  have hw := h _ z h2 hZ
  refine ⟨hw.1, fun p e s m args below meth c H locs ls hC hL hR hf g1 g2 => ?_⟩
  obtain ⟨cell, e1, e2, e3, e4, e5, e6⟩ := rb_arr hR ha (by decide)
  exact W.zast hC.1 hC.2.1 e1 (rb_isArr hC.2.2.2.2.2.2.2.2 (t := 104) (by decide) e5 e2) e3 (rb_inb2 e6 hi0 hil) rfl rfl hd fun H' w1 w2 w3 => hw.2 p e s m args below meth c H' _ ls hC hL (rb_stored hR ha (by decide) hb0 e2 e3 e4 e5 e6 H' w1 w2 w3) (rb_locs hR hf hb0) g1 g2
theorem rt_last {c : rb_St → Option α} (r : Option Nat) {i : Int32} {x : Int64} (hd : decode (rb_cc K) pc = .ok (.lastore, 1)) (h : ∀ σ', rb_TC (c σ') Z (rb_WK E K d σ0 res (pc + 1) lv st σ')) : rb_TC ((rb_sL σ r 103 i x).bind c) Z (rb_WK E K d σ0 res pc lv (.long x :: .int i :: va_rf r :: st) σ) := by
  intro z hz hZ
  obtain ⟨σ', h1, h2⟩ := Option.bind_eq_some_iff.mp hz
  obtain ⟨a, rfl, ha, hb0, hi0, hil, rfl⟩ := rb_sV_s h1
  have hw := h _ z h2 hZ
  refine ⟨hw.1, fun p e s m args below meth c H locs ls hC hL hR hf g1 g2 => ?_⟩
  obtain ⟨cell, e1, e2, e3, e4, e5, e6⟩ := rb_arr hR ha (by decide)
  exact W.last hC.1 hC.2.1 e1 (rb_isArr hC.2.2.2.2.2.2.2.2 (t := 103) (by decide) e5 e2) e3 (rb_inb2 e6 hi0 hil) rfl rfl hd fun H' w1 w2 w3 => hw.2 p e s m args below meth c H' _ ls hC hL (rb_stored hR ha (by decide) hb0 e2 e3 e4 e5 e6 H' w1 w2 w3) (rb_locs hR hf hb0) g1 g2
theorem rt_aast {t : Nat} {c : rb_St → Option α} (r r2 : Option Nat) {i : Int32} (ht : t = 111 ∨ t = 112 ∨ t = 113) (hd : decode (rb_cc K) pc = .ok (.aastore, 1)) (h : ∀ σ', rb_TC (c σ') Z (rb_WK E K d σ0 res (pc + 1) lv st σ')) : rb_TC ((rb_sR σ r t i r2).bind c) Z (rb_WK E K d σ0 res pc lv (va_rf r2 :: .int i :: va_rf r :: st) σ) := by
  intro z hz hZ
  obtain ⟨σ', h1, h2⟩ := Option.bind_eq_some_iff.mp hz
  have ht1 : t ∈ rb_ats := by rcases ht with rfl | rfl | rfl <;> decide
  obtain ⟨Cn, hCn⟩ : ∃ C, rb_aty t = .object C := by rcases ht with rfl | rfl | rfl <;> exact ⟨_, rfl⟩
  cases r2 with
  | none =>
    obtain ⟨a, rfl, ha, hb0, hi0, hil, rfl⟩ := rb_sV_s h1
    have hw := h _ z h2 hZ
    refine ⟨hw.1, fun p e s m args below meth c H locs ls hC hL hR hf g1 g2 => ?_⟩
    obtain ⟨cell, e1, e2, e3, e4, e5, e6⟩ := rb_arr hR ha ht1
    have hia := rb_isArr hC.2.2.2.2.2.2.2.2 ht1 e5 e2
    rw [hCn] at hia
    exact va_WaastN hC.1 hC.2.1 e1 hia e3 (rb_inb2 e6 hi0 hil) rfl rfl hd fun H' w1 w2 w3 => hw.2 p e s m args below meth c H' _ ls hC hL (rb_stored hR ha ht1 hb0 e2 e3 e4 e5 e6 H' w1 w2 w3) (rb_locs hR hf hb0) g1 g2
  | some b =>
    simp only [rb_sR] at h1
    split at h1
    · rename_i hbt
      obtain ⟨a, rfl, ha, hb0, hi0, hil, rfl⟩ := rb_sV_s h1
      have hw := h _ z h2 hZ
      refine ⟨hw.1, fun p e s m args below meth c H locs ls hC hL hR hf g1 g2 => ?_⟩
      obtain ⟨cell, e1, e2, e3, e4, e5, e6⟩ := rb_arr hR ha ht1
      have hce : rb_ce t ≠ 0 ∧ rb_ce t < 100 := by rcases ht with rfl | rfl | rfl <;> decide
      obtain ⟨cv, f1, f2, f3, f4, f5, ⟨q, f6, f7⟩, f8⟩ := rb_obj hR hbt hce.1 hce.2
      have hK := hC.2.2.2.2.2.2.2.2
      obtain ⟨j, hj⟩ := List.getElem?_of_mem ht1
      have hra := (hK.1.2 j (rb_aC E t, rb_aty t) (by rw [rb_ys, List.getElem?_map, hj]; rfl)).2
      rw [hCn] at hra
      obtain ⟨kA, comp, k1, k2, k3, -⟩ := hra
      have hcls := (hK.1.1 (rb_ce t - 1) q f6).2
      have hq1 : q.1 = Cn := by
        rcases ht with rfl | rfl | rfl <;> (cases f6; cases hCn; rfl)
      have hcomp : comp = rb_dC E (rb_ce t) := by
        have := hcls.1
        simp only [show rb_ce t - 1 + 1 = rb_ce t by omega] at this
        rw [hq1] at this
        exact Option.some.inj (k3.symm.trans this)
      simp only [show rb_ce t - 1 + 1 = rb_ce t by omega] at hcls
      subst hcomp
      obtain ⟨kC, hkC, -⟩ := hcls.2
      exact W.aast hC.1 hC.2.1 e1 (fun q h => by rw [h] at e2; cases e2) e3 (by rw [e5.2 (by omega)]; exact k1) k2 rfl hkC ⟨hi0, by rw [e6]; simpa using hil⟩ f1 (fun q h => by rw [h] at f2; cases f2) (by rw [f5]; exact hkC) (by rw [f5]; exact va_assign hcls) rfl rfl hd fun H' w1 w2 w3 => hw.2 p e s m args below meth c H' _ ls hC hL (rb_stored hR ha ht1 hb0 e2 e3 e4 e5 e6 H' w1 w2 w3) (rb_locs hR hf hb0) g1 g2
    · cases h1
end RBA
