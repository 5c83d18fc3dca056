/-! rows: new cells, constant texts, statics, answers, calls -/
def rb_Ow (own : String) (idx t : Nat) : Prop := ∃ q, rb_ct[t - 1]? = some q ∧ t ≠ 0 ∧ t < 100 ∧ Cond.classLink own idx q.1 ∈ rb_G ∧ Cond.instantiable q.1 (rb_nS t) ∈ rb_G ∧ Cond.initialized q.1 ∈ rb_G ∧ (rb_df t).length = q.2.2 ∧ ∀ k, k < q.2.2 → (rb_df t)[k]? = some (defaultValue (rb_fty t k))
section RBN
variable {E : rb_EV} {K : rb_MK} {d : Nat} {σ0 : rb_St} {res : rb_Rs} {pc : Nat} {lv : List (Option Value)} {st : List Value} {σ : rb_St} {α : Type} {Z : α → Prop}
theorem rk_new {idx t : Nat} (hO : rb_Ow (rb_y K).cls idx t) (hd : decode (rb_cc K) pc = .ok (.new idx, 3)) (h : rb_WK E K d σ0 res (pc + 3) lv (va_rf (some (rb_n σ)) :: st) (rb_nO σ t)) : rb_WK E K d σ0 res pc lv st σ := by
  obtain ⟨hm, hw⟩ := h
  have hm1 : rb_n σ + 1 ≤ rb_n res.2 := hm.1
  have hm2 : rb_s σ + rb_nS t ≤ rb_s res.2 := hm.2
  refine ⟨⟨by omega, by omega⟩, fun p e s m args below meth c H locs ls hC hL hR hf g1 g2 => ?_⟩
  obtain ⟨q, q1, q2, q3, q4, q5, q6, q7, q8⟩ := hO
  obtain ⟨hx, hb, hml, hown, hts, hrt, hlk, hnm, hK⟩ := id hC
  have hts' : ∀ w ∈ rb_G, w.before args s = true := fun w hw => hts w (List.mem_cons_of_mem _ hw)
  have hKn := hK.1.1 (t - 1) q q1
  obtain ⟨hin, hnms, htys⟩ := rb_inq _ _ q1
  have ht1 : t - 1 + 1 = t := by omega
  simp only [ht1] at hKn htys
  refine W.newcK hx hb hown (hts' _ q4) (hts' _ q5) (hts' _ q6) rfl hd (by show _ ≤ rb_n res.2 - rb_n σ0; omega) (by show _ ≤ rb_s res.2 - rb_s σ0; omega) hKn.2.1 hR.1 fun H1 kC hkC e1 z1 o1 => ?_
  have hborn := u_born (rb_fty t) hts' hin hKn hkC e1 htys
  obtain ⟨cell, c1, c2, c3, c4⟩ := hborn
  have hR' : rb_Rep E (rb_nO σ t) H1 := by
    refine hR.new (n := rb_nS t) z1 o1 (Or.inr ⟨cell, c1, by rw [c3]; rfl, (by rw [c3]; exact fun h => (by cases h)), fun _ => c3, Or.inl ⟨q3, c2, ⟨q, q1, Nat.le_of_eq q7⟩, fun k v hv => ?_⟩⟩)
    simp only at hv ⊢
    have hk : k < q.2.2 := by rw [← q7]; exact (List.getElem?_eq_some_iff.mp hv).1
    rw [c4 k hk, ← q8 k hk, hv]
  have := hw p e s m args below meth c H1 locs ls hC hL hR' hf (Nat.le_succ_of_le g1) (Nat.le_add_right_of_le g2)
  have a1 : rb_n (rb_nO σ t) - rb_n σ0 = rb_n σ - rb_n σ0 + 1 := by show rb_n σ + 1 - rb_n σ0 = _; omega
  have a2 : rb_s (rb_nO σ t) - rb_s σ0 = rb_s σ - rb_s σ0 + rb_nS t := by show rb_s σ + rb_nS t - rb_s σ0 = _; omega
  rw [a1, a2] at this
  exact this
theorem rb_fresh {E : rb_EV} {σ : rb_St} {H H1 : Heap} (hR : rb_Rep E σ H) {t n : Nat} {v : Value} {cA : ClassId} (ht : t ∈ rb_ats) (hA : cA = rb_aC E t) (hH : H1 = H.push { cls := cA, slots := Array.replicate n v, vm := .none }) : rb_Rep E (rb_push σ t (List.replicate n v) n) H1 := by
  subst hH
  refine hR.new (by simp [hR.1]) (fun q hq => ?_) (Or.inr ⟨{ cls := cA, slots := Array.replicate n v, vm := .none }, ?_, rfl, fun h => (by cases h), fun _ => rfl, Or.inr ⟨ht, ⟨fun U hU => rb_isArr0 hU ht hA rfl, fun _ => hA⟩, by simp⟩⟩)
  · rw [Array.getElem?_push, if_neg (by rw [hR.1]; omega)]
  · rw [← hR.1]; simp
theorem rb_nA_s {σ σ' : rb_St} {t : Nat} {n : Int32} (h : rb_nA σ t n = some σ') : ¬ n < 0 ∧ n.toNatClampNeg ≤ 100000 ∧ σ' = rb_push σ t (List.replicate n.toNatClampNeg (defaultValue (rb_aty t))) n.toNatClampNeg := by
  unfold rb_nA at h
  split at h
  · rename_i e
    simp only [Option.some.injEq] at h
    exact ⟨e.1, e.2, h.symm⟩
  · cases h
theorem rt_newa {t : Nat} {aty : ArrayType} {n : Int32} {c : rb_St → Option α} (ht : t ∈ [101, 102, 103, 104, 105] ∧ newarray.typeOf aty = rb_aty t ∧ Cond.arrayClass (newarray.typeOf aty) ∈ rb_G) (hd : decode (rb_cc K) pc = .ok (.newarray aty, 2)) (h : ∀ σ', rb_TC (c σ') Z (rb_WK E K d σ0 res (pc + 2) lv (va_rf (some (rb_n σ)) :: st) σ')) : rb_TC ((rb_nA σ t n).bind c) Z (rb_WK E K d σ0 res pc lv (.int n :: st) σ) := by
  intro z hz hZ
  obtain ⟨σ', h1, h2⟩ := Option.bind_eq_some_iff.mp hz
  obtain ⟨n0, n1, rfl⟩ := rb_nA_s h1
  obtain ⟨hm, hw⟩ := h _ z h2 hZ
  have hm1 : rb_n σ + 1 ≤ rb_n res.2 := hm.1
  have hm2 : rb_s σ + n.toNatClampNeg ≤ rb_s res.2 := hm.2
  refine ⟨⟨by omega, by omega⟩, fun p e s m args below meth c H locs ls hC hL hR hf g1 g2 => ?_⟩
  obtain ⟨ht0, ht2, ht3⟩ := ht
  have hta : t ∈ rb_ats := by
    simp only [List.mem_cons, List.not_mem_nil, or_false] at ht0
    rcases ht0 with rfl | rfl | rfl | rfl | rfl <;> decide
  have hcb : componentBytes (rb_aty t) ≤ 8 := by
    simp only [List.mem_cons, List.not_mem_nil, or_false] at ht0
    rcases ht0 with rfl | rfl | rfl | rfl | rfl <;> decide
  obtain ⟨hx, hb, hml, hown, hts, hrt, hlk, hnm, hK⟩ := id hC
  have hts' : ∀ w ∈ rb_G, w.before args s = true := fun w hw => hts w (List.mem_cons_of_mem _ hw)
  refine W.newa hx hb (hts' _ ht3) rfl hd (rest := st) rfl n0 (by rw [ht2]; exact Nat.le_trans (Nat.mul_le_mul n1 hcb) (by decide)) (by show _ ≤ rb_n res.2 - rb_n σ0; omega) (by show _ ≤ rb_s res.2 - rb_s σ0; omega) fun cA kA comp w1 w2 w3 => ?_
  have hcA : cA = rb_aC E t := by
    obtain ⟨j, hj⟩ := List.getElem?_of_mem hta
    have hra := (hK.1.2 j (rb_aC E t, rb_aty t) (by rw [rb_ys, List.getElem?_map, hj]; rfl)).2
    rw [ht2] at w1
    have hra' : s.vm.findClass ("[" ++ (rb_aty t).toString) = some (rb_aC E t) := by
      simp only [List.mem_cons, List.not_mem_nil, or_false] at ht0
      rcases ht0 with rfl | rfl | rfl | rfl | rfl <;> exact hra
    exact Option.some.inj (w1.symm.trans hra')
  have hR' := rb_fresh hR (v := defaultValue (newarray.typeOf aty)) (n := n.toNatClampNeg) hta hcA rfl
  rw [ht2] at hR' ⊢
  have := hw p e s m args below meth c _ locs ls hC hL hR' hf (Nat.le_succ_of_le g1) (Nat.le_add_right_of_le g2)
  have a1 : rb_n (rb_push σ t (List.replicate n.toNatClampNeg (defaultValue (rb_aty t))) n.toNatClampNeg) - rb_n σ0 = rb_n σ - rb_n σ0 + 1 := by show rb_n σ + 1 - rb_n σ0 = _; omega
  have a2 : rb_s (rb_push σ t (List.replicate n.toNatClampNeg (defaultValue (rb_aty t))) n.toNatClampNeg) - rb_s σ0 = rb_s σ - rb_s σ0 + n.toNatClampNeg := by show rb_s σ + n.toNatClampNeg - rb_s σ0 = _; omega
  rw [a1, a2] at this
  rw [hR.1]
  exact this
theorem rt_anew {t idx : Nat} {C : String} {n : Int32} {c : rb_St → Option α} (ht : t ∈ [111, 112, 113] ∧ rb_aty t = .object C ∧ C ∈ rb_over ∧ Cond.classLink (rb_y K).cls idx C ∈ rb_G) (hd : decode (rb_cc K) pc = .ok (.anewarray idx, 3)) (h : ∀ σ', rb_TC (c σ') Z (rb_WK E K d σ0 res (pc + 3) lv (va_rf (some (rb_n σ)) :: st) σ')) : rb_TC ((rb_nA σ t n).bind c) Z (rb_WK E K d σ0 res pc lv (.int n :: st) σ) := by
  intro z hz hZ
  obtain ⟨σ', h1, h2⟩ := Option.bind_eq_some_iff.mp hz
  obtain ⟨n0, n1, rfl⟩ := rb_nA_s h1
  obtain ⟨hm, hw⟩ := h _ z h2 hZ
  have hm1 : rb_n σ + 1 ≤ rb_n res.2 := hm.1
  have hm2 : rb_s σ + n.toNatClampNeg ≤ rb_s res.2 := hm.2
  refine ⟨⟨by omega, by omega⟩, fun p e s m args below meth c H locs ls hC hL hR hf g1 g2 => ?_⟩
  obtain ⟨ht0, ht2, ht3, ht4⟩ := ht
  have hta : t ∈ rb_ats := by
    simp only [List.mem_cons, List.not_mem_nil, or_false] at ht0
    rcases ht0 with rfl | rfl | rfl <;> decide
  obtain ⟨hx, hb, hml, hown, hts, hrt, hlk, hnm, hK⟩ := id hC
  have hts' : ∀ w ∈ rb_G, w.before args s = true := fun w hw => hts w (List.mem_cons_of_mem _ hw)
  refine W.anew hx hb hown (hts' _ ht4) (va_AO.use (hK.2.2.2.1 C ht3)) rfl hd (rest := st) rfl n0 (by omega) (by show _ ≤ rb_n res.2 - rb_n σ0; omega) (by show _ ≤ rb_s res.2 - rb_s σ0; omega) fun cA kA comp w1 w2 w3 w4 => ?_
  have hcA : cA = rb_aC E t := by
    obtain ⟨j, hj⟩ := List.getElem?_of_mem hta
    have hra := (hK.1.2 j (rb_aC E t, rb_aty t) (by rw [rb_ys, List.getElem?_map, hj]; rfl)).2
    rw [ht2] at hra
    obtain ⟨kA', comp', k1, k2, k3, k4⟩ := hra
    exact Option.some.inj (w1.symm.trans k4)
  have hR' := rb_fresh hR (v := .null) (n := n.toNatClampNeg) hta hcA rfl
  have hdv : defaultValue (rb_aty t) = .null := by rw [ht2]; rfl
  rw [hdv] at hw
  have := hw p e s m args below meth c _ locs ls hC hL hR' hf (Nat.le_succ_of_le g1) (Nat.le_add_right_of_le g2)
  have a1 : rb_n (rb_push σ t (List.replicate n.toNatClampNeg Value.null) n.toNatClampNeg) - rb_n σ0 = rb_n σ - rb_n σ0 + 1 := by show rb_n σ + 1 - rb_n σ0 = _; omega
  have a2 : rb_s (rb_push σ t (List.replicate n.toNatClampNeg Value.null) n.toNatClampNeg) - rb_s σ0 = rb_s σ - rb_s σ0 + n.toNatClampNeg := by show rb_s σ + n.toNatClampNeg - rb_s σ0 = _; omega
  rw [a1, a2] at this
  rw [hR.1]
  exact this
theorem rk_ldcs {idx no : Nat} (hq : ((rb_y K).cls, idx, no) ∈ rb_sr) (hd : decode (rb_cc K) pc = .ok (.ldc idx, 2)) (h : rb_WK E K d σ0 res (pc + 2) lv (va_rf (some (rb_k σ no)) :: st) σ) : rb_WK E K d σ0 res pc lv st σ := by
  refine ⟨h.1, fun p e s m args below meth c H locs ls hC hL hR hf g1 g2 => ?_⟩
  have := h.2 p e s m args below meth c H locs ls hC hL hR hf g1 g2
  rw [hR.2.2.2.2.1] at this
  exact va_ldcS hC.1 hC.2.1 hC.2.2.2.1 (hC.2.2.2.2.2.2.2.2.2.1 _ hq) hd this
theorem rk_compact {idx : Nat} (hw : Cond.fieldLink (rb_y K).cls idx "java/lang/String" "COMPACT_STRINGS" "Z" ∈ rb_G) (hd : decode (rb_cc K) pc = .ok (.getstatic idx, 3)) (h : rb_WK E K d σ0 res (pc + 3) lv (.int 1 :: st) σ) : rb_WK E K d σ0 res pc lv st σ := by
  refine ⟨h.1, fun p e s m args below meth c H locs ls hC hL hR hf g1 g2 => ?_⟩
  obtain ⟨hx, hb, hml, hown, hts, hrt, hlk, hnm, hK⟩ := id hC
  have hZ := va_Z.kept hK.2.2.2.2.1 (H1 := H) (fun a ha _ => hR.2.2.2.1 a (by rw [hR.2.1]; exact ha))
  obtain ⟨cf, kf, fi, f, a, cell, h1, h2, h3, h4, h5, h6, h7, h8⟩ := hZ
  exact W.gets hx hb hown (hts _ (List.mem_cons_of_mem _ hw)) h1 h2 h3 h4 h5 (fun e => by rw [e] at h6; cases h6) h7 rfl hd (h.2 p e s m args below meth c H locs ls hC hL hR hf g1 g2)
theorem rk_sioobe {idx : Nat} (hw : Cond.fieldLink (rb_y K).cls idx "jdk/internal/util/Preconditions" "SIOOBE_FORMATTER" "Ljava/util/function/BiFunction;" ∈ rb_G) (hd : decode (rb_cc K) pc = .ok (.getstatic idx, 3)) (h : rb_WK E K d σ0 res (pc + 3) lv (va_rf (rb_sf (rb_k σ)) :: st) σ) : rb_WK E K d σ0 res pc lv st σ := by
  refine ⟨h.1, fun p e s m args below meth c H locs ls hC hL hR hf g1 g2 => ?_⟩
  obtain ⟨hx, hb, hml, hown, hts, hrt, hlk, hnm, hK⟩ := id hC
  have hZ := va_Z.kept hK.2.2.2.2.2.1 (H1 := H) (fun a ha _ => hR.2.2.2.1 a (by rw [hR.2.1]; exact ha))
  obtain ⟨cf, kf, fi, f, a, cell, h1, h2, h3, h4, h5, h6, h7, h8⟩ := hZ
  have := h.2 p e s m args below meth c H locs ls hC hL hR hf g1 g2
  rw [hR.2.2.2.2.1] at this
  exact W.gets hx hb hown (hts _ (List.mem_cons_of_mem _ hw)) h1 h2 h3 h4 h5 (fun e => by rw [e] at h6; cases h6) h7 rfl hd this
theorem rb_recv {s : State} {H : Heap} (hK : rb_Kn E s) (hR : rb_Rep E σ H) {a t : Nat} {q : vw_C} (ha : (σ.1 a).1 = t) (h0 : t ≠ 0) (h1 : t < 100) (hq : rb_ct[t - 1]? = some q) : ∃ cell : Cell, H[a]? = some cell ∧ cell.vm.isStatics = false ∧ s.vm.findClass q.1 = some cell.cls := by
  obtain ⟨cell, e1, e2, e3, e4, e5, e6, e7⟩ := rb_obj hR ha h0 h1
  have := (hK.1.1 (t - 1) q hq).2.1
  simp only [show t - 1 + 1 = t by omega] at this
  exact ⟨cell, e1, e2, by rw [this, e5]⟩
theorem rt_instS {idx : Nat} {c : Option α} (r : Option Nat) (hw : Cond.classLink (rb_y K).cls idx "java/lang/String" ∈ rb_G) (hd : decode (rb_cc K) pc = .ok (.instanceof idx, 3)) (h : rb_TC c Z (rb_WK E K d σ0 res (pc + 3) lv (.int 1 :: st) σ)) : rb_TC ((rb_fc σ r 14).bind fun _ => c) Z (rb_WK E K d σ0 res pc lv (va_rf r :: st) σ) := by
  intro z hz hZ
  obtain ⟨l, h1, h2⟩ := Option.bind_eq_some_iff.mp hz
  obtain ⟨a, rfl, ha⟩ := rb_fc_s h1
  have hw2 := h z h2 hZ
  exact ⟨hw2.1, fun p e s m args below meth c H locs ls hC hL hR hf g1 g2 => va_instE hC.1 hC.2.1 hC.2.2.2.1 (hC.2.2.2.2.1 _ (List.mem_cons_of_mem _ hw)) (rb_recv (q := ("java/lang/String", rb_T14, 4)) hC.2.2.2.2.2.2.2.2 hR (show (σ.1 a).1 = 14 by rw [ha]) (by decide) (by decide) rfl) hd (hw2.2 p e s m args below meth c H locs ls hC hL hR hf g1 g2)⟩
theorem rt_castS {idx : Nat} {c : Option α} (r : Option Nat) (hw : Cond.classLink (rb_y K).cls idx "java/lang/String" ∈ rb_G) (hd : decode (rb_cc K) pc = .ok (.checkcast idx, 3)) (h : rb_TC c Z (rb_WK E K d σ0 res (pc + 3) lv (va_rf r :: st) σ)) : rb_TC ((rb_fc σ r 14).bind fun _ => c) Z (rb_WK E K d σ0 res pc lv (va_rf r :: st) σ) := by
  intro z hz hZ
  obtain ⟨l, h1, h2⟩ := Option.bind_eq_some_iff.mp hz
  obtain ⟨a, rfl, ha⟩ := rb_fc_s h1
  have hw2 := h z h2 hZ
  exact ⟨hw2.1, fun p e s m args below meth c H locs ls hC hL hR hf g1 g2 => va_castE hC.1 hC.2.1 hC.2.2.2.1 (hC.2.2.2.2.1 _ (List.mem_cons_of_mem _ hw)) (rb_recv (q := ("java/lang/String", rb_T14, 4)) hC.2.2.2.2.2.2.2.2 hR (show (σ.1 a).1 = 14 by rw [ha]) (by decide) (by decide) rfl) hd (hw2.2 p e s m args below meth c H locs ls hC hL hR hf g1 g2)⟩
/-- answers -/
theorem rt_iret {x : Int32} {ty : FieldType} {y : α} (hrt : rb_rt K = some ty) (hn : narrow ty (.int x) = .int x) (hZ : Z y → (some (.int x), σ) = res) (hd : decode (rb_cc K) pc = .ok (.ireturn, 1)) : rb_TC (some y) Z (rb_WK E K d σ0 res pc lv [.int x] σ) := by
  intro z hz hz2
  cases hz
  have := hZ hz2
  subst this
  exact ⟨⟨Nat.le_refl _, Nat.le_refl _⟩, fun p e s m args below meth c H locs ls hC hL hR hf g1 g2 => W.zret hC.1 hC.2.1 (by rw [hC.2.2.2.2.2.1]; exact hrt) hn (fun t ht hW => ⟨rfl, by rw [ht]; exact hR⟩) hf hd hC.2.2.2.2.2.2.1⟩
theorem rt_lret {x : Int64} {y : α} (hrt : rb_rt K = some .long) (hZ : Z y → (some (.long x), σ) = res) (hd : decode (rb_cc K) pc = .ok (.lreturn, 1)) : rb_TC (some y) Z (rb_WK E K d σ0 res pc lv [.long x] σ) := by
  intro z hz hz2
  cases hz
  have := hZ hz2
  subst this
  exact ⟨⟨Nat.le_refl _, Nat.le_refl _⟩, fun p e s m args below meth c H locs ls hC hL hR hf g1 g2 => W.lret hC.1 hC.2.1 (by rw [hC.2.2.2.2.2.1]; exact hrt) (fun t ht hW => ⟨rfl, by rw [ht]; exact hR⟩) hf hd hC.2.2.2.2.2.2.1⟩
theorem rt_aret {r : Option Nat} {ty : FieldType} {y : α} (hrt : rb_rt K = some ty) (hty : (∃ n, ty = .object n) ∨ ∃ t, ty = .array t) (hZ : Z y → (some (va_rf r), σ) = res) (hd : decode (rb_cc K) pc = .ok (.areturn, 1)) : rb_TC (some y) Z (rb_WK E K d σ0 res pc lv [va_rf r] σ) := by
  intro z hz hz2
  cases hz
  have := hZ hz2
  subst this
  exact ⟨⟨Nat.le_refl _, Nat.le_refl _⟩, fun p e s m args below meth c H locs ls hC hL hR hf g1 g2 => W.aret hC.1 hC.2.1 (by rw [hC.2.2.2.2.2.1]; exact hrt) hty (va_rf_or r) (fun t ht hW => ⟨rfl, by rw [ht]; exact hR⟩) hf hd hC.2.2.2.2.2.2.1⟩
theorem rt_vret {y : α} (hrt : rb_rt K = none) (hZ : Z y → (none, σ) = res) (hd : decode (rb_cc K) pc = .ok (.return_, 1)) : rb_TC (some y) Z (rb_WK E K d σ0 res pc lv [] σ) := by
  intro z hz hz2
  cases hz
  have := hZ hz2
  subst this
  exact ⟨⟨Nat.le_refl _, Nat.le_refl _⟩, fun p e s m args below meth c H locs ls hC hL hR hf g1 g2 => W.vret hC.1 hC.2.1 (by rw [hC.2.2.2.2.2.1]; exact hrt) (fun t ht hW => ⟨rfl, by rw [ht]; exact hR⟩) hf hd hC.2.2.2.2.2.2.1⟩
end RBN
