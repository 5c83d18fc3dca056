/-! rows for the instructions that touch the heap -/
theorem rb_inq : ∀ (i : Nat) (q : vw_C), rb_ct[i]? = some q → (∀ w ∈ u_ws q.1 q.2.1 q.2.2, w ∈ rb_G) ∧ (∀ a, a < q.2.2 → ∀ b, b < q.2.2 → a ≠ b → (q.2.1 a).2.1 ≠ (q.2.1 b).2.1) ∧ (∀ k, k < q.2.2 → parseFieldDescriptor (q.2.1 k).2.2.1 = some (rb_fty (i + 1) k)) := by
  intro i q h
  match i, h with
  | 0, h => cases h; exact ⟨rb_in1, rb_nm1, rb_tyk1⟩
  | 1, h => cases h; exact ⟨rb_in2, rb_nm2, rb_tyk2⟩
  | 2, h => cases h; exact ⟨rb_in3, rb_nm3, rb_tyk3⟩
  | 3, h => cases h; exact ⟨rb_in4, rb_nm4, rb_tyk4⟩
  | 4, h => cases h; exact ⟨rb_in5, rb_nm5, rb_tyk5⟩
  | 5, h => cases h; exact ⟨rb_in6, rb_nm6, rb_tyk6⟩
  | 6, h => cases h; exact ⟨rb_in7, rb_nm7, rb_tyk7⟩
  | 7, h => cases h; exact ⟨rb_in8, rb_nm8, rb_tyk8⟩
  | 8, h => cases h; exact ⟨rb_in9, rb_nm9, rb_tyk9⟩
  | 9, h => cases h; exact ⟨rb_in10, rb_nm10, rb_tyk10⟩
  | 10, h => cases h; exact ⟨rb_in11, rb_nm11, rb_tyk11⟩
  | 11, h => cases h; exact ⟨rb_in12, rb_nm12, rb_tyk12⟩
  | 12, h => cases h; exact ⟨rb_in13, rb_nm13, rb_tyk13⟩
  | 13, h => cases h; exact ⟨rb_in14, rb_nm14, rb_tyk14⟩
  | i + 14, h => simp [rb_ct] at h
/-- a field's word: place k of the class of kind t -/
def rb_Fw (own : String) (idx t k : Nat) : Prop := ∃ q, rb_ct[t - 1]? = some q ∧ t ≠ 0 ∧ t < 100 ∧ k < q.2.2 ∧ (q.2.1 k).1 = q.1 ∧ Cond.fieldLink own idx q.1 (q.2.1 k).2.1 (q.2.1 k).2.2.1 ∈ rb_G
/-- the same for one that may be written: not final, or in its class's constructor -/
def rb_Fp (K : rb_MK) (idx t k : Nat) (ty : FieldType) : Prop := rb_Fw (rb_y K).cls idx t k ∧ rb_fty t k = ty ∧ ∀ q, rb_ct[t - 1]? = some q → (q.2.1 k).2.2.2 = false ∨ ((q.2.1 k).2.2.2 = true ∧ (rb_y K).name = "<init>" ∧ q.1 = (rb_y K).cls)
theorem rb_setself {cell : Cell} {i : Nat} (h : i < cell.slots.size) (v : Value) : (cell.setSlot i v).slots[i]? = some v := by
  simp [Cell.setSlot, h]
section RBH
variable {E : rb_EV} {K : rb_MK} {d : Nat} {σ0 : rb_St} {res : rb_Rs} {pc : Nat} {lv : List (Option Value)} {st : List Value} {σ : rb_St} {α : Type} {Z : α → Prop}
theorem rb_getf {p : Program} {e : Env} {s : State} {m : MethodId} {args : Array Value} {below : List Frame} {meth : Method} {c : Code} {H : Heap} {locs : List Loc} {ls : Array Slot} {R : Room} {cells slots : Nat} {Q : State → Prop} (hC : rb_Cx E K p s m args meth c) (hR : rb_Rep E σ H) {idx t k a : Nat} {v : Value} (hF : rb_Fw (rb_y K).cls idx t k) (hd : decode (rb_cc K) pc = .ok (.getfield idx, 3)) (ha : (σ.1 a).1 = t) (hv : (σ.1 a).2[k]? = some v) (h : W p (rb_El E) e R s m args below meth c H locs cells slots Q (F0 m (pc + 3) ls (v :: st))) : W p (rb_El E) e R s m args below meth c H locs cells slots Q (F0 m pc ls (.ref a :: st)) := by
  obtain ⟨q, q1, q2, q3, q4, q5, q6⟩ := hF
  obtain ⟨hx, hb, hml, hown, hts, hrt, hlk, hnm, hK⟩ := hC
  obtain ⟨cell, g1, g2, g3, g4, g5, g6, g7⟩ := rb_obj hR ha q2 q3
  have hts' : ∀ w ∈ rb_G, w.before args s = true := fun w hw => hts w (List.mem_cons_of_mem _ hw)
  obtain ⟨hS, hfc, kC, hkC, hkind⟩ := hK.1.1 (t - 1) q q1
  obtain ⟨cf, kf, fi, f, hi, hsl⟩ := hS k q4
  refine W.getf hx hb hown (hts' _ q6) (by rw [q5] at hi; exact hi) (u_facts hfc hkC (u_lays hts' (rb_inq _ _ q1).1 q4) hi).1 g1 g3 (v := v) ?_ rfl rfl hd h
  rw [hsl]
  have := g7 k v hv
  simp only [show t - 1 + 1 = t by omega]
  exact this
theorem rt_gI {idx t k : Nat} {c : Int32 → Option α} (r : Option Nat) (hF : rb_Fw (rb_y K).cls idx t k) (hd : decode (rb_cc K) pc = .ok (.getfield idx, 3)) (h : ∀ x, rb_TC (c x) Z (rb_WK E K d σ0 res (pc + 3) lv (.int x :: st) σ)) : rb_TC ((rb_gI σ r t k).bind c) Z (rb_WK E K d σ0 res pc lv (va_rf r :: st) σ) := by
  intro z hz hZ
  obtain ⟨x, h1, h2⟩ := Option.bind_eq_some_iff.mp hz
  obtain ⟨l, h3, h4⟩ := Option.bind_eq_some_iff.mp h1
  obtain ⟨a, rfl, ha⟩ := rb_fc_s h3
  have hw := h x z h2 hZ
  exact ⟨hw.1, fun p e s m args below meth c H locs ls hC hL hR hf g1 g2 => rb_getf hC hR hF hd (by rw [ha]) (by rw [ha]; exact rb_int_s h4) (hw.2 p e s m args below meth c H locs ls hC hL hR hf g1 g2)⟩
theorem rt_gR {idx t k : Nat} {c : Option Nat → Option α} (r : Option Nat) (hF : rb_Fw (rb_y K).cls idx t k) (hd : decode (rb_cc K) pc = .ok (.getfield idx, 3)) (h : ∀ x, rb_TC (c x) Z (rb_WK E K d σ0 res (pc + 3) lv (va_rf x :: st) σ)) : rb_TC ((rb_gR σ r t k).bind c) Z (rb_WK E K d σ0 res pc lv (va_rf r :: st) σ) := by
  intro z hz hZ
  obtain ⟨x, h1, h2⟩ := Option.bind_eq_some_iff.mp hz
  obtain ⟨l, h3, h4⟩ := Option.bind_eq_some_iff.mp h1
  obtain ⟨a, rfl, ha⟩ := rb_fc_s h3
  have hw := h x z h2 hZ
  exact ⟨hw.1, fun p e s m args below meth c H locs ls hC hL hR hf g1 g2 => rb_getf hC hR hF hd (by rw [ha]) (by rw [ha]; exact rb_rfo_s h4) (hw.2 p e s m args below meth c H locs ls hC hL hR hf g1 g2)⟩
theorem rt_put {idx t k : Nat} {ty : FieldType} {v : Value} {c : rb_St → Option α} (r : Option Nat) (hF : rb_Fp K idx t k ty) (hn : narrow ty v = v) (hfi : fits ty v = true) (hd : decode (rb_cc K) pc = .ok (.putfield idx, 3)) (h : ∀ σ', rb_TC (c σ') Z (rb_WK E K d σ0 res (pc + 3) lv st σ')) : rb_TC ((rb_pV σ r t k v).bind c) Z (rb_WK E K d σ0 res pc lv (v :: va_rf r :: st) σ) := by
  intro z hz hZ
  obtain ⟨σ', h1, h2⟩ := Option.bind_eq_some_iff.mp hz
  obtain ⟨a, rfl, ha, hb0, hkl, rfl⟩ := rb_pV_s h1
  have hw := h _ z h2 hZ
  refine ⟨hw.1, fun p e s m args below meth c H locs ls hC hL hR hf g1 g2 => ?_⟩
  obtain ⟨⟨q, q1, q2, q3, q4, q5, q6⟩, hty, hfin⟩ := hF
  obtain ⟨cell, e1, e2, e3, e4, e5, ⟨q', e6, e7⟩, e8⟩ := rb_obj hR ha q2 q3
  have hqq : q' = q := Option.some.inj (e6.symm.trans q1)
  subst hqq
  obtain ⟨hx, hb, hml, hown, hts, hrt, hlk, hnm, hK⟩ := id hC
  have hts' : ∀ w ∈ rb_G, w.before args s = true := fun w hw => hts w (List.mem_cons_of_mem _ hw)
  obtain ⟨hS, hfc, kC, hkC, hkind⟩ := hK.1.1 (t - 1) q' q1
  have ht1 : t - 1 + 1 = t := by omega
  obtain ⟨hin, hnms, htys⟩ := rb_inq _ _ q1
  have hap := va_apart (own := (rb_y K).cls) hts' hin (rb_fty (t - 1 + 1)) htys hnms hK.1 q1
  obtain ⟨cf, kf, fi, f, hi, hsl⟩ := hS k q4
  simp only [ht1] at hsl hap hfc hkC
  have hdsc : parseFieldDescriptor (q'.2.1 k).2.2.1 = some ty := by rw [htys k q4, ht1, hty]
  have hst := (u_facts hfc hkC (u_lays hts' hin q4) hi).1
  have hvm : cell.vm = .none := e4 (by rw [← hR.2.1]; exact hb0)
  have hold : ∃ v0, cell.slots[rb_dI E t k]? = some v0 := by
    obtain ⟨v0, hv0⟩ : ∃ v0, (σ.1 a).2[k]? = some v0 := ⟨_, List.getElem?_eq_getElem hkl⟩
    exact ⟨v0, e8 k v0 hv0⟩
  have hlt : f.slot < cell.slots.size := by
    obtain ⟨v0, hv0⟩ := hold
    rw [hsl]
    exact (Array.getElem?_eq_some_iff.mp hv0).1
  have hres : ∀ H' : Heap, H'[a]? = some (cell.setSlot f.slot v) → H'.size = H.size → (∀ q, q ≠ a → H'[q]? = H[q]?) → rb_Rep E (rb_set σ a ((σ.1 a).2.set k v)) H' := by
    intro H' w1 w2 w3
    refine hR.upd hb0 w2 w3 (Or.inr ⟨_, w1, e2, e3, e4, Or.inl ⟨by rw [ha]; exact q3, by rw [ha]; exact e5, ⟨q', by rw [ha]; exact q1, by rw [List.length_set]; exact e7⟩, fun j w hj => ?_⟩⟩)
    simp only at hj ⊢
    rw [ha]
    rw [List.getElem?_set] at hj
    by_cases hkj : k = j
    · subst hkj
      rw [if_pos rfl, if_pos hkl] at hj
      cases hj
      rw [← hsl]
      exact rb_setself hlt v
    · rw [if_neg hkj] at hj
      have hjl : j < (σ.1 a).2.length := (List.getElem?_eq_some_iff.mp hj).1
      rw [slot_ne cell v (by rw [hsl]; exact hap k j q4 (Nat.lt_of_lt_of_le hjl e7) hkj)]
      exact e8 j w hj
  have hlocs : ∀ q ∈ locs ++ [⟨a, f.slot⟩], rb_fr E q.base := by
    intro q hq
    rcases List.mem_append.mp hq with hq | hq
    · exact hf q hq
    · rw [List.mem_singleton.mp hq]
      show (rb_H0 E).size ≤ a
      rw [← hR.2.1]; exact hb0
  have hlay := hts' _ (hin _ (u_in_lay q4))
  unfold u_lay at hlay
  rcases hfin q' q1 with hff | ⟨hff, hini, hcls⟩
  · rw [if_neg (by rw [hff]; decide)] at hlay
    have h6 := u_store hfc hkC hkind hlay hi hdsc hn hfi
    exact W.putK hx hb (f := f) ⟨hown, hts' _ q6, ⟨_, _, _, by rw [q5] at hi; exact hi⟩, hst⟩ (by rw [e5]; exact h6) e1 hvm hlt rfl rfl hd fun H' w1 w2 w3 => hw.2 p e s m args below meth c H' _ ls hC hL (hres H' w1 w2 w3) hlocs g1 g2
  · rw [if_pos hff] at hlay
    have hcf : m.cls = cf := by
      obtain ⟨_, _, c', _, _, _, -, -, hf', -, -, -, hown2, -⟩ := Cond.laysFinal_spec hlay
      have e1 : c' = cf := by have := hi.symm.trans hf'; simp at this; exact this.1.symm
      rw [q5, hcls] at hown2
      rw [← e1]; exact Option.some.inj (hown.symm.trans hown2)
    have h6 := u_fits hfc hkC hkind (Or.inr hlay) hi hdsc hn hfi
    exact W.putFinK hx hb hown (hts' _ q6) (by rw [q5] at hi; exact hi) hst hcf (hnm.trans hini) (by rw [e5]; exact h6) e1 hvm hlt rfl rfl hd fun H' w1 w2 w3 => hw.2 p e s m args below meth c H' _ ls hC hL (hres H' w1 w2 w3) hlocs g1 g2
end RBH
