/-! the law's walk out of the pure statement -/
theorem rb_room {p : Program} {l : Launch} {e : Env} {R R2 : Room} {s : State} {m : MethodId} {args : Array Value} {below : List Frame} {meth : Method} {c : Code} {H : Heap} {locs : List Loc} {cells slots : Nat} {Q : State → Prop} {g : JFrame} (h1 : R.frames ≤ R2.frames) (h2 : R.locals ≤ R2.locals) (h3 : R.cells ≤ R2.cells) (h4 : R.slots ≤ R2.slots) (h : W p l e R s m args below meth c H locs cells slots Q g) : W p l e R2 s m args below meth c H locs cells slots Q g := by
  intro T hT X
  refine h T hT { X with room := ?_ }
  have hr := X.room
  simp only [State.hasRoom, Bool.and_eq_true, decide_eq_true_eq] at hr ⊢
  obtain ⟨⟨⟨⟨a1, a2, a3, a4, a5, a6⟩, a7⟩, a8⟩, a9⟩ := hr
  exact ⟨⟨⟨⟨by omega, by omega, by omega, by omega, by omega, a6⟩, by omega⟩, by omega⟩, a9⟩
theorem rb_start0 (hp : rb_Pure) {p : Program} {e : Env} {s : State} {m : MethodId} {below : List Frame} {meth : Method} {c : Code} (l : Launch) {b L : Nat} {xs : Nat → Int32} (hL : L ≤ 1536) (C0 : p.tables.exec = Jvm.exec ∧ c.code = code ∧ meth.sig.returnType = ret ∧ c.maxLocals = 4 ∧ s.vm.findClass "RuleBuilderLaw" = some m.cls ∧ (∀ w ∈ lw_tbl, w.before #[Value.ref b] s = true) ∧ va_X b L xs s s.heap ∧ b < s.heap.size ∧ meth.locks = false ∧ (Jvm.Cond.and given_1 narrow_1).before #[Value.ref b] s = true) (hnm : meth.name = "law") (hcw : (Cond.code x code 4 (some .boolean)).before #[Value.ref b] s = true) :
    W p l e room_1 s m #[Value.ref b] below meth c s.heap [] 0 0 (fun t => ∃ o, t.status = .running ∧ Ended t below o ∧ o = .returned (some (.int 1)) ∧ Framed s o t [] 600000 7302250) (entryFrame m ([Value.ref b] : List Value).toArray 4) := by
  obtain ⟨hx, hb, hr, hml, hown, hts, hX, hbl, hlocks, hgv⟩ := C0
  obtain ⟨E, σ, rfl, hS0, hK, hR, hI⟩ := rb_env l hts hX hbl hgv
  obtain ⟨σ', hc, hn, hs⟩ := hp σ b _ (by simpa using hL) hI
  obtain ⟨hm, hW⟩ := w_Law_law (E := E) (d := 2000) (by decide) (some b) σ (some (.int 1), σ') _ hc rfl
  have hl := lv_entry ([.ref b]) (n := 4) (Nat.le_of_ble_eq_true rfl)
  rw [lg_entry_eq]
  have hLH : rb_LH ((lg_sl ([.ref b]) ++ List.replicate (4 - (lg_sl ([.ref b])).length) Slot.unset).toArray) 4 [some (.ref b), none, none, none] := ⟨⟨hl.1, hl.2.1, fun q hq => hl.2.2 q (by simpa [rb_as, lv_args] using hq)⟩, rfl⟩
  have hG : ∀ w ∈ rb_ws k_Law_law, w.before #[Value.ref b] s = true := by
    intro w hw
    rcases List.mem_cons.mp hw with rfl | h
    · exact hcw
    · exact hts w (List.mem_filter.mp h).1
  have hwk := hW p e s m #[Value.ref b] below meth c s.heap [] _ ⟨hx, hb, hml, hown, hG, hr, hlocks, hnm, hK⟩ hLH hR (fun q h => by cases h) (Nat.le_refl _) (Nat.le_refl _)
  simp only [Nat.sub_self] at hwk
  have hc1 : rb_n σ' - rb_n σ ≤ 600000 := by omega
  have hc2 : rb_s σ' - rb_s σ ≤ 7302250 := by omega
  have hwk2 := rb_room (R2 := room_1) (show 2000 ≤ 2048 by decide) (show 40 * 2000 + 20 ≤ 84000 by decide) hc1 hc2 hwk
  intro T hT X
  obtain ⟨t, hst, o, h1, h2, h3, Lo, h4, h5⟩ := hwk2 T hT X
  refine ⟨t, hst, o, h1, h2, h3.1, h4.1, h4.2.1, h4.2.2.weaken (fun q hq hlt => ?_) hc1 hc2⟩
  have h6 := h5 q hq
  have h7 : s.heap.size ≤ q.base := by
    have : (rb_S0 E).heap.size ≤ q.base := h6
    rw [hS0] at this
    exact this
  exact absurd hlt (Nat.not_lt.mpr h7)
