/-! rows: calls -/
theorem rb_goodIn {K K' : rb_MK} (hc : Cond.code (rb_y K') (rb_cc K') (rb_nL K') (rb_rt K') ∈ rb_G) : GoodIn (rb_ws K) (rb_ws K') := by
  intro w hw
  have hG : w ∈ rb_G := by
    rcases List.mem_cons.mp hw with rfl | h
    · exact hc
    · exact h
  exact ⟨List.mem_cons_of_mem _ hG, good_of_word (List.mem_filter.mp hG).2⟩
/-- what a call of K' needs of the words -/
def rb_Mw (K' : rb_MK) (n : Nat) : Prop := Cond.code (rb_y K') (rb_cc K') (rb_nL K') (rb_rt K') ∈ rb_G ∧ Cond.initialized (rb_y K').cls ∈ rb_G ∧ ((rb_y K').cls ≠ "java/lang/invoke/MethodHandle" ∧ (rb_y K').cls ≠ "java/lang/invoke/VarHandle" ∧ (parseMethodDescriptor (rb_y K').desc).map (fun d => d.parameters.length) = some n) ∧ rb_nL K' ≤ 20
def rb_Vw (own : String) (idx : Nat) (K' : rb_MK) (t n : Nat) : Prop := rb_Mw K' n ∧ Cond.methodLink own idx (rb_y K') ∈ rb_G ∧ Cond.instanceMethod (rb_y K') ∈ rb_G ∧ Cond.selects (rb_y K').cls (rb_y K') (rb_y K') ∈ rb_G ∧ t ≠ 0 ∧ t < 100 ∧ ∃ q, rb_ct[t - 1]? = some q ∧ q.1 = (rb_y K').cls
def rb_Sw (own : String) (idx : Nat) (K' : rb_MK) (n : Nat) : Prop := rb_Mw K' n ∧ Cond.methodLink own idx (rb_y K') ∈ rb_G ∧ Cond.static (rb_y K') ∈ rb_G
def rb_Iw (own : String) (idx : Nat) (K' : rb_MK) (n : Nat) : Prop := rb_Mw K' n ∧ rb_rt K' = none ∧ (rb_y K').name = "<init>" ∧ Cond.instanceMethod (rb_y K') ∈ rb_G ∧ (Cond.methodLink own idx (rb_y K') ∈ rb_G ∨ ∃ host, Cond.methodLinkNest own idx (rb_y K') host ∈ rb_nest)
section RBC
variable {E : rb_EV} {K K' : rb_MK} {d d' : Nat} {σ0 : rb_St} {res res' : rb_Rs} {pc : Nat} {lv : List (Option Value)} {st : List Value} {σ : rb_St} {α : Type} {Z : α → Prop}
theorem rb_blind {av : List Value} : FrameBlind (rb_P E av σ) := fun a U g mk h => ⟨h.1, h.2.1, rb_Kn.same (s := U) rfl h.2.2⟩
/-- the end of every call: what the callee gives, and what the caller does with it -/
theorem rb_after {p : Program} {e : Env} {s : State} {m : MethodId} {args : Array Value} {below : List Frame} {meth : Method} {c : Code} {H : Heap} {locs : List Loc} {ls : Array Slot} {stk rest : List Value} {a : Array Value} (hC : rb_Cx E K p s m args meth c) (hL : rb_LH ls (rb_nL K) lv) (hf : ∀ q ∈ locs, rb_fr E q.base) (g1 : rb_n σ0 ≤ rb_n σ) (g2 : rb_s σ0 ≤ rb_s σ) (hm : rb_n σ ≤ rb_n res'.2 ∧ rb_s σ ≤ rb_s res'.2)
    (hr : va_Run p (rb_El E) e (rb_RM d (rb_n res.2 - rb_n σ0) (rb_s res.2 - rb_s σ0)) s m args below meth c H locs (rb_n σ - rb_n σ0) (rb_s σ - rb_s σ0) (rb_n res'.2 - rb_n σ) (rb_s res'.2 - rb_s σ) (F0 m pc ls stk) rest (rb_Q E res' a) (rb_fr E))
    (hw : rb_WK E K d σ0 res (pc + 3) lv (res'.1.toList ++ rest) res'.2) : W p (rb_El E) e (rb_RM d (rb_n res.2 - rb_n σ0) (rb_s res.2 - rb_s σ0)) s m args below meth c H locs (rb_n σ - rb_n σ0) (rb_s σ - rb_s σ0) (MQ below (rb_Q E res) args s (rb_n res.2 - rb_n σ0) (rb_s res.2 - rb_s σ0) (rb_fr E)) (F0 m pc ls stk) := by
  intro T hT X
  obtain ⟨v, st₀, t, T', L, h0, X', hL', e1, e2, ⟨hv, hR'⟩, step⟩ := hr T hT X
  have hv : v = res'.1 := Outcome.returned.inj hv
  subst hv
  have hfl : ∀ q ∈ locs ++ L, rb_fr E q.base := fun q hq => by
    rcases List.mem_append.mp hq with h | h
    · exact hf q h
    · exact hL' q h
  have hW := hw.2 p e s m args below meth c t.heap (locs ++ L) ls hC hL hR' hfl (Nat.le_trans g1 hm.1) (Nat.le_trans g2 hm.2)
  have a1 : rb_n res'.2 - rb_n σ0 = rb_n σ - rb_n σ0 + (rb_n res'.2 - rb_n σ) := by have := hm.1; omega
  have a2 : rb_s res'.2 - rb_s σ0 = rb_s σ - rb_s σ0 + (rb_s res'.2 - rb_s σ) := by have := hm.2; omega
  rw [a1, a2] at hW
  obtain ⟨t2, b1, b2⟩ := hW T' e1 X'
  exact ⟨t2, step t2 b1, b2⟩
theorem rb_callB {s : State} {args : Array Value} {n : Nat} {own : String} {idx mc ms : Nat} {R : Room} (hts : ∀ w ∈ rb_ws K, w.before args s = true) (hM : rb_Mw K' n) (hl : Cond.methodLink own idx (rb_y K') ∈ rb_G) (hdd : d' + 1 ≤ d) (hR : R.frames = d ∧ R.locals = 40 * d + 20) : CallB R s args own idx (rb_y K') (rb_cc K') (rb_nL K') (rb_rt K') (rb_ws K') (rb_RM d' mc ms) mc ms n :=
  callB_of n hts (rb_goodIn hM.1) rfl rfl rfl (hts _ (List.mem_cons_of_mem _ hM.2.1)) (hts _ (List.mem_cons_of_mem _ hl)) hM.2.2.1 ⟨by rw [hR.1]; exact hdd, by rw [hR.2]; have := hM.2.2.2; show 8 + (rb_nL K' + 11) + (40 * d' + 20) ≤ _; omega⟩
theorem rb_virt {idx t n : Nat} {As : List Value} {c : Option rb_Rs} {b : Nat} (hM : rb_Vw (rb_y K).cls idx K' t n) (hD : rb_Does E K' d' (.ref b :: As) σ c) (hc : c = some res') (hdd : d' + 1 ≤ d) (hn : As.length = n) (hrest : (st.map fun v => v.category).sum ≤ 8) (hb : (σ.1 b).1 = t) (hd : decode (rb_cc K) pc = .ok (.invokevirtual idx, 3)) (hw : rb_WK E K d σ0 res (pc + 3) lv (res'.1.toList ++ st) res'.2) : rb_WK E K d σ0 res pc lv (As.reverse ++ .ref b :: st) σ := by
  obtain ⟨hm, hMet⟩ := hD res' hc
  refine ⟨⟨Nat.le_trans hm.1 hw.1.1, Nat.le_trans hm.2 hw.1.2⟩, fun p e s m args below meth c H locs ls hC hL hR hf g1 g2 => ?_⟩
  obtain ⟨hM, hl, hi, hs, t0, t1, q, hq, hqc⟩ := hM
  obtain ⟨hx, hb', hml, hown, hts, hrt, hlk, hnm, hK⟩ := id hC
  have hrecv := rb_recv hK hR hb t0 t1 hq
  rw [hqc] at hrecv
  refine rb_after hC hL hf g1 g2 hm (va_runV (As := As) (rest := st) (C := (rb_y K').cls) (n := n) ⟨hx, hb', hml, hown, hts⟩ hMet ⟨rb_callB hts hM hl hdd ⟨rfl, rfl⟩, hts _ (List.mem_cons_of_mem _ hi), hts _ (List.mem_cons_of_mem _ hs)⟩ ⟨rb_blind, hrecv, fun U hU hW => ⟨rfl, by rw [hU]; exact hR, hK.warm hW⟩⟩ rfl hn hL.1.1 rfl (lv_room hrest) hd ⟨?_, ?_⟩) hw
  · show _ ≤ rb_n res.2 - rb_n σ0; have := hw.1.1; have := hm.1; omega
  · show _ ≤ rb_s res.2 - rb_s σ0; have := hw.1.2; have := hm.2; omega
theorem rb_stat {idx n : Nat} {As : List Value} {c : Option rb_Rs} (hM : rb_Sw (rb_y K).cls idx K' n) (hD : rb_Does E K' d' As σ c) (hc : c = some res') (hdd : d' + 1 ≤ d) (hn : As.length = n) (hrest : (st.map fun v => v.category).sum ≤ 8) (hd : decode (rb_cc K) pc = .ok (.invokestatic idx, 3)) (hw : rb_WK E K d σ0 res (pc + 3) lv (res'.1.toList ++ st) res'.2) : rb_WK E K d σ0 res pc lv (As.reverse ++ st) σ := by
  obtain ⟨hm, hMet⟩ := hD res' hc
  refine ⟨⟨Nat.le_trans hm.1 hw.1.1, Nat.le_trans hm.2 hw.1.2⟩, fun p e s m args below meth c H locs ls hC hL hR hf g1 g2 => ?_⟩
  obtain ⟨hM, hl, hs⟩ := hM
  obtain ⟨hx, hb', hml, hown, hts, hrt, hlk, hnm, hK⟩ := id hC
  refine rb_after hC hL hf g1 g2 hm (va_runS (As := As) (rest := st) (n := n) ⟨hx, hb', hml, hown, hts⟩ hMet ⟨rb_callB hts hM hl hdd ⟨rfl, rfl⟩, hts _ (List.mem_cons_of_mem _ hs)⟩ ⟨rb_blind, fun U hU hW => ⟨rfl, by rw [hU]; exact hR, hK.warm hW⟩⟩ rfl hn hL.1.1 rfl (lv_room hrest) hd ⟨?_, ?_⟩) hw
  · show _ ≤ rb_n res.2 - rb_n σ0; have := hw.1.1; have := hm.1; omega
  · show _ ≤ rb_s res.2 - rb_s σ0; have := hw.1.2; have := hm.2; omega
theorem rb_spec {idx n : Nat} {As : List Value} {c : Option rb_Rs} {b : Nat} (hM : rb_Iw (rb_y K).cls idx K' n) (hD : rb_Does E K' d' (.ref b :: As) σ c) (hc : c = some res') (hdd : d' + 1 ≤ d) (hn : As.length = n) (hrest : (st.map fun v => v.category).sum ≤ 8) (hd : decode (rb_cc K) pc = .ok (.invokespecial idx, 3)) (hw : rb_WK E K d σ0 res (pc + 3) lv (res'.1.toList ++ st) res'.2) : rb_WK E K d σ0 res pc lv (As.reverse ++ .ref b :: st) σ := by
  obtain ⟨hm, hMet⟩ := hD res' hc
  refine ⟨⟨Nat.le_trans hm.1 hw.1.1, Nat.le_trans hm.2 hw.1.2⟩, fun p e s m args below meth c H locs ls hC hL hR hf g1 g2 => ?_⟩
  obtain ⟨hM, hret, hini, hi, hl⟩ := hM
  obtain ⟨hx, hb', hml, hown, hts, hrt, hlk, hnm, hK⟩ := id hC
  have hPre : PreS s H (rb_P E (.ref b :: As) σ) (.ref b :: As) := ⟨rb_blind, fun U hU hW => ⟨rfl, by rw [hU]; exact hR, hK.warm hW⟩⟩
  have hfit : rb_n σ - rb_n σ0 + (rb_n res'.2 - rb_n σ) ≤ rb_n res.2 - rb_n σ0 ∧ rb_s σ - rb_s σ0 + (rb_s res'.2 - rb_s σ) ≤ rb_s res.2 - rb_s σ0 := by
    have := hw.1.1; have := hm.1; have := hw.1.2; have := hm.2
    constructor <;> omega
  rcases hl with hl | ⟨host, hl⟩
  · have cb := rb_callB (R := rb_RM d (rb_n res.2 - rb_n σ0) (rb_s res.2 - rb_s σ0)) (mc := rb_n res'.2 - rb_n σ) (ms := rb_s res'.2 - rb_s σ) hts hM hl hdd ⟨rfl, rfl⟩
    rw [hret] at cb
    exact rb_after hC hL hf g1 g2 hm (va_runI (As := As) (rest := st) (n := n) ⟨hx, hb', hml, hown, hts⟩ hMet ⟨cb, hini, hts _ (List.mem_cons_of_mem _ hi)⟩ hPre rfl hn hL.1.1 rfl (lv_room hrest) hd hfit) hw
  · have cn := va_cnB (R := rb_RM d (rb_n res.2 - rb_n σ0) (rb_s res.2 - rb_s σ0)) (rm := rb_RM d' (rb_n res'.2 - rb_n σ) (rb_s res'.2 - rb_s σ)) (mc := rb_n res'.2 - rb_n σ) (ms := rb_s res'.2 - rb_s σ) n hts (rb_goodIn hM.1) rfl rfl rfl (hK.2.2.1 _ hl) (hts _ (List.mem_cons_of_mem _ hM.2.1)) hM.2.2.1 ⟨hdd, by have := hM.2.2.2; show 8 + (rb_nL K' + 11) + (40 * d' + 20) ≤ 40 * d + 20; omega⟩
    rw [hret] at cn
    exact rb_after hC hL hf g1 g2 hm (va_runIN (As := As) (rest := st) (n := n) ⟨hx, hb', hml, hown, hts⟩ hMet ⟨cn, hini, hts _ (List.mem_cons_of_mem _ hi)⟩ hPre rfl hn hL.1.1 rfl (lv_room hrest) hd hfit) hw
theorem rk_objInit {idx : Nat} {r : Option Nat} (hl : Cond.methodLink (rb_y K).cls idx Lib.objectInit ∈ rb_G) (hi : Cond.instanceMethod Lib.objectInit ∈ rb_G) (hc : Cond.code Lib.objectInit ⟨#[0xb1]⟩ 1 none ∈ rb_G) (hd0 : 1 ≤ d) (hrest : (st.map fun v => v.category).sum ≤ 8) (hd : decode (rb_cc K) pc = .ok (.invokespecial idx, 3)) {a : Nat} (hr : r = some a) (h : rb_WK E K d σ0 res (pc + 3) lv st σ) : rb_WK E K d σ0 res pc lv (va_rf r :: st) σ := by
  subst hr
  refine ⟨h.1, fun p e s m args below meth c H locs ls hC hL hR hf g1 g2 => ?_⟩
  obtain ⟨hx, hb', hml, hown, hts, hrt, hlk, hnm, hK⟩ := id hC
  exact W.objInit hx hb' hown (hts _ (List.mem_cons_of_mem _ hl)) (hts _ (List.mem_cons_of_mem _ hi)) (hts _ (List.mem_cons_of_mem _ hc)) rfl (by rw [hml]; exact hL.1.1) rfl hd hd0 (by have := lv_room (m := m) (pc := pc) (ls := ls) (rest := va_rf (some a) :: st) (st := st) hrest; show _ ≤ 40 * d + 20; omega) (h.2 p e s m args below meth c H locs ls hC hL hR hf g1 g2)
theorem rb_unI {c : Option rb_Rs} {k : Int32 → rb_St → Option α} {z : α} (hz : rb_cI c k = some z) (hZ : Z z) (h : ∀ x σ', rb_TC (k x σ') Z (rb_WK E K d σ0 res (pc + 3) lv (.int x :: st) σ')) : ∃ res', c = some res' ∧ rb_WK E K d σ0 res (pc + 3) lv (res'.1.toList ++ st) res'.2 := by
  unfold rb_cI at hz
  split at hz
  · rename_i x σ'
    exact ⟨_, rfl, h x σ' z hz hZ⟩
  · cases hz
theorem rt_vI {idx t n : Nat} {As : List Value} {c : Option rb_Rs} {k : Int32 → rb_St → Option α} (r : Option Nat) (hM : rb_Vw (rb_y K).cls idx K' t n) (hD : rb_Does E K' d' (va_rf r :: As) σ c) (hdd : d' + 1 ≤ d) (hn : As.length = n) (hrest : (st.map fun v => v.category).sum ≤ 8) (hd : decode (rb_cc K) pc = .ok (.invokevirtual idx, 3)) (h : ∀ x σ', rb_TC (k x σ') Z (rb_WK E K d σ0 res (pc + 3) lv (.int x :: st) σ')) : rb_TC ((rb_fc σ r t).bind fun _ => rb_cI c k) Z (rb_WK E K d σ0 res pc lv (As.reverse ++ va_rf r :: st) σ) := by
  intro z hz hZ
  obtain ⟨l, h1, h2⟩ := Option.bind_eq_some_iff.mp hz
  obtain ⟨b, rfl, hb⟩ := rb_fc_s h1
  obtain ⟨res', hc, hw⟩ := rb_unI h2 hZ h
  exact rb_virt hM hD hc hdd hn hrest (by rw [hb]) hd hw
theorem rt_sI {idx n : Nat} {As : List Value} {c : Option rb_Rs} {k : Int32 → rb_St → Option α} (hM : rb_Sw (rb_y K).cls idx K' n) (hD : rb_Does E K' d' As σ c) (hdd : d' + 1 ≤ d) (hn : As.length = n) (hrest : (st.map fun v => v.category).sum ≤ 8) (hd : decode (rb_cc K) pc = .ok (.invokestatic idx, 3)) (h : ∀ x σ', rb_TC (k x σ') Z (rb_WK E K d σ0 res (pc + 3) lv (.int x :: st) σ')) : rb_TC (rb_cI c k) Z (rb_WK E K d σ0 res pc lv (As.reverse ++ st) σ) := by
  intro z hz hZ
  obtain ⟨res', hc, hw⟩ := rb_unI hz hZ h
  exact rb_stat hM hD hc hdd hn hrest hd hw
theorem rb_unL {c : Option rb_Rs} {k : Int64 → rb_St → Option α} {z : α} (hz : rb_cL c k = some z) (hZ : Z z) (h : ∀ x σ', rb_TC (k x σ') Z (rb_WK E K d σ0 res (pc + 3) lv (.long x :: st) σ')) : ∃ res', c = some res' ∧ rb_WK E K d σ0 res (pc + 3) lv (res'.1.toList ++ st) res'.2 := by
  unfold rb_cL at hz
  split at hz
  · rename_i x σ'
    exact ⟨_, rfl, h x σ' z hz hZ⟩
  · cases hz
theorem rt_vL {idx t n : Nat} {As : List Value} {c : Option rb_Rs} {k : Int64 → rb_St → Option α} (r : Option Nat) (hM : rb_Vw (rb_y K).cls idx K' t n) (hD : rb_Does E K' d' (va_rf r :: As) σ c) (hdd : d' + 1 ≤ d) (hn : As.length = n) (hrest : (st.map fun v => v.category).sum ≤ 8) (hd : decode (rb_cc K) pc = .ok (.invokevirtual idx, 3)) (h : ∀ x σ', rb_TC (k x σ') Z (rb_WK E K d σ0 res (pc + 3) lv (.long x :: st) σ')) : rb_TC ((rb_fc σ r t).bind fun _ => rb_cL c k) Z (rb_WK E K d σ0 res pc lv (As.reverse ++ va_rf r :: st) σ) := by
  intro z hz hZ
  obtain ⟨l, h1, h2⟩ := Option.bind_eq_some_iff.mp hz
  obtain ⟨b, rfl, hb⟩ := rb_fc_s h1
  obtain ⟨res', hc, hw⟩ := rb_unL h2 hZ h
  exact rb_virt hM hD hc hdd hn hrest (by rw [hb]) hd hw
theorem rt_sL {idx n : Nat} {As : List Value} {c : Option rb_Rs} {k : Int64 → rb_St → Option α} (hM : rb_Sw (rb_y K).cls idx K' n) (hD : rb_Does E K' d' As σ c) (hdd : d' + 1 ≤ d) (hn : As.length = n) (hrest : (st.map fun v => v.category).sum ≤ 8) (hd : decode (rb_cc K) pc = .ok (.invokestatic idx, 3)) (h : ∀ x σ', rb_TC (k x σ') Z (rb_WK E K d σ0 res (pc + 3) lv (.long x :: st) σ')) : rb_TC (rb_cL c k) Z (rb_WK E K d σ0 res pc lv (As.reverse ++ st) σ) := by
  intro z hz hZ
  obtain ⟨res', hc, hw⟩ := rb_unL hz hZ h
  exact rb_stat hM hD hc hdd hn hrest hd hw
theorem rb_unR {c : Option rb_Rs} {k : Option Nat → rb_St → Option α} {z : α} (hz : rb_cR c k = some z) (hZ : Z z) (h : ∀ x σ', rb_TC (k x σ') Z (rb_WK E K d σ0 res (pc + 3) lv (va_rf x :: st) σ')) : ∃ res', c = some res' ∧ rb_WK E K d σ0 res (pc + 3) lv (res'.1.toList ++ st) res'.2 := by
  unfold rb_cR at hz
  split at hz
  · rename_i σ'
    exact ⟨_, rfl, h none σ' z hz hZ⟩
  · rename_i a σ'
    exact ⟨_, rfl, h (some a) σ' z hz hZ⟩
  · cases hz
theorem rt_vR {idx t n : Nat} {As : List Value} {c : Option rb_Rs} {k : Option Nat → rb_St → Option α} (r : Option Nat) (hM : rb_Vw (rb_y K).cls idx K' t n) (hD : rb_Does E K' d' (va_rf r :: As) σ c) (hdd : d' + 1 ≤ d) (hn : As.length = n) (hrest : (st.map fun v => v.category).sum ≤ 8) (hd : decode (rb_cc K) pc = .ok (.invokevirtual idx, 3)) (h : ∀ x σ', rb_TC (k x σ') Z (rb_WK E K d σ0 res (pc + 3) lv (va_rf x :: st) σ')) : rb_TC ((rb_fc σ r t).bind fun _ => rb_cR c k) Z (rb_WK E K d σ0 res pc lv (As.reverse ++ va_rf r :: st) σ) := by
  intro z hz hZ
  obtain ⟨l, h1, h2⟩ := Option.bind_eq_some_iff.mp hz
  obtain ⟨b, rfl, hb⟩ := rb_fc_s h1
  obtain ⟨res', hc, hw⟩ := rb_unR h2 hZ h
  exact rb_virt hM hD hc hdd hn hrest (by rw [hb]) hd hw
theorem rt_sR {idx n : Nat} {As : List Value} {c : Option rb_Rs} {k : Option Nat → rb_St → Option α} (hM : rb_Sw (rb_y K).cls idx K' n) (hD : rb_Does E K' d' As σ c) (hdd : d' + 1 ≤ d) (hn : As.length = n) (hrest : (st.map fun v => v.category).sum ≤ 8) (hd : decode (rb_cc K) pc = .ok (.invokestatic idx, 3)) (h : ∀ x σ', rb_TC (k x σ') Z (rb_WK E K d σ0 res (pc + 3) lv (va_rf x :: st) σ')) : rb_TC (rb_cR c k) Z (rb_WK E K d σ0 res pc lv (As.reverse ++ st) σ) := by
  intro z hz hZ
  obtain ⟨res', hc, hw⟩ := rb_unR hz hZ h
  exact rb_stat hM hD hc hdd hn hrest hd hw
theorem rb_unV {c : Option rb_Rs} {k : rb_St → Option α} {z : α} (hz : rb_cV c k = some z) (hZ : Z z) (h : ∀ σ', rb_TC (k σ') Z (rb_WK E K d σ0 res (pc + 3) lv (st) σ')) : ∃ res', c = some res' ∧ rb_WK E K d σ0 res (pc + 3) lv (res'.1.toList ++ st) res'.2 := by
  unfold rb_cV at hz
  split at hz
  · rename_i σ'
    exact ⟨_, rfl, h σ' z hz hZ⟩
  · cases hz
theorem rt_vV {idx t n : Nat} {As : List Value} {c : Option rb_Rs} {k : rb_St → Option α} (r : Option Nat) (hM : rb_Vw (rb_y K).cls idx K' t n) (hD : rb_Does E K' d' (va_rf r :: As) σ c) (hdd : d' + 1 ≤ d) (hn : As.length = n) (hrest : (st.map fun v => v.category).sum ≤ 8) (hd : decode (rb_cc K) pc = .ok (.invokevirtual idx, 3)) (h : ∀ σ', rb_TC (k σ') Z (rb_WK E K d σ0 res (pc + 3) lv (st) σ')) : rb_TC ((rb_fc σ r t).bind fun _ => rb_cV c k) Z (rb_WK E K d σ0 res pc lv (As.reverse ++ va_rf r :: st) σ) := by
  intro z hz hZ
  obtain ⟨l, h1, h2⟩ := Option.bind_eq_some_iff.mp hz
  obtain ⟨b, rfl, hb⟩ := rb_fc_s h1
  obtain ⟨res', hc, hw⟩ := rb_unV h2 hZ h
  exact rb_virt hM hD hc hdd hn hrest (by rw [hb]) hd hw
theorem rt_sV {idx n : Nat} {As : List Value} {c : Option rb_Rs} {k : rb_St → Option α} (hM : rb_Sw (rb_y K).cls idx K' n) (hD : rb_Does E K' d' As σ c) (hdd : d' + 1 ≤ d) (hn : As.length = n) (hrest : (st.map fun v => v.category).sum ≤ 8) (hd : decode (rb_cc K) pc = .ok (.invokestatic idx, 3)) (h : ∀ σ', rb_TC (k σ') Z (rb_WK E K d σ0 res (pc + 3) lv (st) σ')) : rb_TC (rb_cV c k) Z (rb_WK E K d σ0 res pc lv (As.reverse ++ st) σ) := by
  intro z hz hZ
  obtain ⟨res', hc, hw⟩ := rb_unV hz hZ h
  exact rb_stat hM hD hc hdd hn hrest hd hw
theorem rt_i {idx n : Nat} {As : List Value} {c : Option rb_Rs} {k : rb_St → Option α} {b : Nat} (hM : rb_Iw (rb_y K).cls idx K' n) (hD : rb_Does E K' d' (va_rf (some b) :: As) σ c) (hdd : d' + 1 ≤ d) (hn : As.length = n) (hrest : (st.map fun v => v.category).sum ≤ 8) (hd : decode (rb_cc K) pc = .ok (.invokespecial idx, 3)) (h : ∀ σ', rb_TC (k σ') Z (rb_WK E K d σ0 res (pc + 3) lv st σ')) : rb_TC (rb_cV c k) Z (rb_WK E K d σ0 res pc lv (As.reverse ++ va_rf (some b) :: st) σ) := by
  intro z hz hZ
  obtain ⟨res', hc, hw⟩ := rb_unV hz hZ h
  exact rb_spec hM hD hc hdd hn hrest hd hw
end RBC
