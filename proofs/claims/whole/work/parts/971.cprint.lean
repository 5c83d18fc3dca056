/-! the class: what is printed -/
theorem puts_add {l : List Nat} {c : Nat} (h : l.length ≤ 400) : (if l.length < 400 then l ++ [c] else l) = x_puts l [c] := by
  unfold x_puts
  by_cases e : l.length < 400
  · rw [if_pos e, List.take_of_length_le (by rw [List.length_append, List.length_cons, List.length_nil]; omega)]
  · rw [if_neg e, List.take_append, List.take_of_length_le h, show 400 - l.length = 0 by omega, List.take_zero, List.append_nil]
def sj (l : List (List Nat)) : List Nat := l.flatMap (fun w => 32 :: w)
theorem join_sj : ∀ (a : List Nat) (l : List (List Nat)), x_join (a :: l) = a ++ sj l
  | a, [] => by simp [x_join, sj]
  | a, c :: l => by
    rw [x_join, join_sj c l]
    simp [sj]
section
variable {σ : rb_St} {b : Nat} {F : fx_F} {o : List Nat} {W : List (Nat × Nat)}
theorem tO26 : tO 26 := Or.inr (Or.inr (Or.inr (Or.inl rfl)))
theorem tO14 : tO 14 := Or.inr (Or.inl rfl)
theorem fc26 (G : fx_F) {β : Type} (f : List Value → Option β) : (rb_fc (fx_mk σ b G) (some (fx_ad b 26)) 2).bind f = f (fx_row b G 26) := (t_b tO26).1 f
theorem fc14 (G : fx_F) {β : Type} (f : List Value → Option β) : (rb_fc (fx_mk σ b G) (some (fx_ad b 14)) 2).bind f = f (fx_row b G 14) := (t_b tO14).1 f
theorem c_put (hb : rb_b σ ≤ b) (hF : fx_ln F) {p : List Nat} (hp : tw F 26 p) {c : Nat} (hc : c < 65536) : ∃ F' x, f_Text_add (some (fx_ad b 26)) (nI c) (fx_mk σ b F) = some (some (.int x), fx_mk σ b F') ∧ tw F' 26 (x_puts p [c]) ∧ fx_ln F' ∧ fr [2601] [27] [] F F' := by
  obtain ⟨F', a1, a2, a3, a4⟩ := c_add (σ := σ) tO26 hb hF hp hc
  have hl := tw_len hF hp
  rw [show tcap 26 = 400 from rfl] at hl a2
  rw [puts_add hl] at a2
  exact ⟨F', _, a1, a2, a3, a4⟩
theorem c_printLine (hb : rb_b σ ≤ b) (hF : fx_ln F) (ht : tw F 14 o) (hc : ∀ c, c ∈ o → c < 128) {p : List Nat} (hp : tw F 26 p) : ∃ F', f_Shell_printLine (some (fx_ad b 25)) (some (fx_ad b 14)) (fx_mk σ b F) = some (none, fx_mk σ b F') ∧ tw F' 26 (x_puts p (o ++ [10])) ∧ fx_ln F' ∧ fr [2601] [27] [] F F' := by
  have hlen := c_tlen (σ := σ) (b := b) tO14 ht
  obtain ⟨F1, a1, a2, a3, a4⟩ := c_addTextF (σ := σ) (b := b) tO26 hb tO14 (by decide) (p := 0) (q := o.length) (Nat.zero_le _) (Nat.le_refl _) (fun c h => Nat.lt_trans (hc c h) (by decide)) hF hp ht
  rw [show slc o 0 o.length = o by simp [slc]] at a2
  have a2' : tw F1 26 (x_puts p o) := a2
  obtain ⟨F2, x, b1, b2, b3, b4⟩ := c_put hb a3 a2' (c := 10) (by decide)
  rw [puts_app] at b2
  refine ⟨F2, ?_, b2, b3, fr_trans a4 b4⟩
  unfold f_Shell_printLine
  have a1' : f_Text_addText (some (fx_ad b 26)) (some (fx_ad b 14)) (0 : Int32) (nI o.length) (fx_mk σ b F) = _ := a1
  have b1' : f_Text_add (some (fx_ad b 26)) (10 : Int32) (fx_mk σ b F1) = _ := b1
  simp only [↓fx_bc, ↓fc14, ↓fc26, ↓cI_of hlen, ↓cI_of a1', ↓cI_of b1']
theorem c_printTouch (hb : rb_b σ ≤ b) (hk : kx σ b) (hF : fx_ln F) {a : Nat} {s : List Nat} (hs : sx σ b a s) {p : List Nat} (hp : tw F 26 p) : ∃ F', f_Shell_printTouch (some (fx_ad b 25)) (some a) (fx_mk σ b F) = some (none, fx_mk σ b F') ∧ tw F' 26 (x_puts p (q_touch ++ [32] ++ s ++ [10])) ∧ fx_ln F' ∧ fr [2601] [27] [] F F' := by
  have hk6 := hk.2.2 6 (by decide)
  have hl6 := c_len (F := F) hk6
  obtain ⟨v, rest, k1, k2, k3, k4, k5, k6⟩ := hk6.2.2
  have hfc6 := fo_fk (F := F) hk6.1 k3
  obtain ⟨v2, rest2, l1, l2, l3, l4, l5, l6⟩ := hs.2.2
  obtain ⟨F1, a1, a2, a3, a4⟩ := c_addPartF (σ := σ) tO26 hb hk6 (p := 0) (q := (kT 6).length) (Nat.zero_le _) (Nat.le_refl _) hF hp
  rw [show slc (kT 6) 0 (kT 6).length = q_touch ++ [32] from rfl] at a2
  have a2' : tw F1 26 (x_puts p (q_touch ++ [32])) := a2
  have hls := c_len (F := F1) hs
  have hfcs := fo_fk (F := F1) hs.1 l3
  obtain ⟨F2, c1, c2, c3, c4⟩ := c_addPartF (σ := σ) tO26 hb hs (p := 0) (q := s.length) (Nat.zero_le _) (Nat.le_refl _) a3 a2'
  rw [show slc s 0 s.length = s by simp [slc]] at c2
  have c2' : tw F2 26 (x_puts (x_puts p (q_touch ++ [32])) s) := c2
  rw [puts_app] at c2'
  obtain ⟨F3, x, b1, b2, b3, b4⟩ := c_put hb c3 c2' (c := 10) (by decide)
  rw [puts_app] at b2
  refine ⟨F3, ?_, b2, b3, fr_trans a4 (fr_trans c4 b4)⟩
  unfold f_Shell_printTouch
  have a1' : f_Text_addPart (some (fx_ad b 26)) (some (rb_k (fx_mk σ b F) 6)) (0 : Int32) (nI (kT 6).length) (fx_mk σ b F) = _ := a1
  have c1' : f_Text_addPart (some (fx_ad b 26)) (some a) (0 : Int32) (nI s.length) (fx_mk σ b F1) = _ := c1
  have b1' : f_Text_add (some (fx_ad b 26)) (10 : Int32) (fx_mk σ b F2) = _ := b1
  have hl6' : f_Str_length (some (rb_k (fx_mk σ b F) 6)) (fx_mk σ b F) = _ := hl6
  have hfc6' : rb_fc (fx_mk σ b F) (some (rb_k (fx_mk σ b F) 6)) 14 = _ := hfc6
  simp only [↓fx_bc, hfc6', Option.bind_some, ↓cI_of hl6', ↓fc26, ↓cI_of a1', hfcs, ↓cI_of hls, ↓cI_of c1', ↓cI_of b1']
theorem c_echoLoop (hb : rb_b σ ≤ b) (hc : ∀ c, c ∈ o → c < 128) (hwo : wok o W) : ∀ (m i : Nat) (F : fx_F) (p : List Nat), i + m = W.length → 2 ≤ i → fx_ln F → tw F 14 o → wc F W → tw F 26 p → ∃ F', rb_it (fun z : (Int32 × rb_St) => f_Shell_echo_b2 (some (fx_ad b 25)) (z.1) z.2) (nI i, fx_mk σ b F) = some (some (.int (nI 1)), fx_mk σ b F') ∧ tw F' 26 (x_puts p (sj ((wl o W).drop i) ++ [10])) ∧ fx_ln F' ∧ fr [2601] [27] [] F F' := by
  have h60 := hwo.1
  intro m
  induction m with
  | zero =>
    intro i F p hi h2 hF ht hw hp
    have hcnt := c_wcount (σ := σ) (b := b) hw
    obtain ⟨F2, x, b1, b2, b3, b4⟩ := c_put hb hF hp (c := 10) (by decide)
    rw [wl_drop0 (by omega)]
    refine ⟨F2, rb_it_m (x := some (some (Value.int (nI 1)), fx_mk σ b F2)) ?_, b2, b3, b4⟩
    have b1' : f_Text_add (some (fx_ad b 26)) (10 : Int32) (fx_mk σ b F) = _ := b1
    show f_Shell_echo_b2 _ _ _ = _
    unfold f_Shell_echo_b2
    simp only [↓fx_bc, ↓cI_of hcnt]
    rw [if_pos (nI_le (by omega) (by omega))]
    simp only [↓fc26, ↓cI_of b1']
    rfl
  | succ m ih =>
    intro i F p hi h2 hF ht hw hp
    have hcnt := c_wcount (σ := σ) (b := b) hw
    obtain ⟨F1, x, b1, b2, b3, b4⟩ := c_put hb hF hp (c := 32) (by decide)
    have b1' : f_Text_add (some (fx_ad b 26)) (32 : Int32) (fx_mk σ b F) = _ := b1
    obtain ⟨F2, c1, c2, c3, c4⟩ := c_waddTo (σ := σ) hb b3 (tw_fr ht b4 (by decide) (by decide)) hc hwo (wc_cf hw (cf_fr b4) (by decide) (by decide) (by decide)) (i := i) (by omega) b2
    have c2' : tw F2 26 (x_puts (x_puts p [32]) (wd o W i)) := c2
    rw [puts_app] at c2'
    have hfr2 : fr [2601] [27] [] F F2 := fr_trans b4 c4
    obtain ⟨F3, e1, e2, e3, e4⟩ := ih (i + 1) F2 _ (by omega) (by omega) c3 (tw_fr ht hfr2 (by decide) (by decide)) (wc_cf hw (cf_fr hfr2) (by decide) (by decide) (by decide)) c2'
    rw [puts_app] at e2
    refine ⟨F3, (rb_it_l ?_).trans e1, ?_, e3, fr_trans hfr2 e4⟩
    · show f_Shell_echo_b2 _ _ _ = _
      unfold f_Shell_echo_b2 f_Shell_echo_j28
      simp only [↓fx_bc, ↓cI_of hcnt]
      rw [if_neg (show ¬ nI W.length ≤ nI i by rw [u_le (by omega) (by omega)]; omega), if_neg (show ¬ nI i ≤ (1 : Int32) by rw [u_l1, u_le (by omega) (by omega)]; omega)]
      simp only [↓fc26, ↓cI_of b1', ↓fx_bc, ↓cV_of c1]
      rw [show nI i + 1 = nI (i + 1) by rw [u_l1, u_add]]
    · rw [wl_drop (by omega), show sj (wd o W i :: (wl o W).drop (i + 1)) = 32 :: wd o W i ++ sj ((wl o W).drop (i + 1)) by simp [sj]]
      have : [32] ++ wd o W i ++ (sj ((wl o W).drop (i + 1)) ++ [10]) = 32 :: wd o W i ++ sj ((wl o W).drop (i + 1)) ++ [10] := by simp
      rw [← this]
      exact e2
theorem c_shEcho (hb : rb_b σ ≤ b) (hc : ∀ c, c ∈ o → c < 128) (hwo : wok o W) (h1 : 1 ≤ W.length) (hF : fx_ln F) (ht : tw F 14 o) (hw : wc F W) {p : List Nat} (hp : tw F 26 p) : ∃ F', f_Shell_echo (some (fx_ad b 25)) (fx_mk σ b F) = some (some (.int (nI 1)), fx_mk σ b F') ∧ tw F' 26 (x_puts p (x_join ((wl o W).drop 1) ++ [10])) ∧ fx_ln F' ∧ fr [2601] [27] [] F F' := by
  have h60 := hwo.1
  have hcnt := c_wcount (σ := σ) (b := b) hw
  unfold f_Shell_echo
  by_cases hone : W.length = 1
  · obtain ⟨F2, x, b1, b2, b3, b4⟩ := c_put hb hF hp (c := 10) (by decide)
    rw [wl_drop0 (by omega)]
    refine ⟨F2, rb_it_m (x := some (some (Value.int (nI 1)), fx_mk σ b F2)) ?_, b2, b3, b4⟩
    have b1' : f_Text_add (some (fx_ad b 26)) (10 : Int32) (fx_mk σ b F) = _ := b1
    show f_Shell_echo_b2 _ _ _ = _
    unfold f_Shell_echo_b2
    simp only [↓fx_bc, ↓cI_of hcnt]
    rw [if_pos (show nI W.length ≤ (1 : Int32) by rw [hone]; decide)]
    simp only [↓fc26, ↓cI_of b1']
    rfl
  · obtain ⟨F2, c1, c2, c3, c4⟩ := c_waddTo (σ := σ) hb hF ht hc hwo hw (i := 1) (by omega) hp
    have c2' : tw F2 26 (x_puts p (wd o W 1)) := c2
    obtain ⟨F3, e1, e2, e3, e4⟩ := c_echoLoop hb hc hwo (W.length - 2) 2 F2 _ (by omega) (by omega) c3 (tw_fr ht c4 (by decide) (by decide)) (wc_cf hw (cf_fr c4) (by decide) (by decide) (by decide)) c2'
    rw [puts_app] at e2
    refine ⟨F3, (rb_it_l ?_).trans e1, ?_, e3, fr_trans c4 e4⟩
    · show f_Shell_echo_b2 _ _ _ = _
      unfold f_Shell_echo_b2 f_Shell_echo_j28
      simp only [↓fx_bc, ↓cI_of hcnt]
      rw [if_neg (show ¬ nI W.length ≤ (1 : Int32) by rw [u_l1, u_le (by omega) (by omega)]; omega), if_pos (show (1 : Int32) ≤ 1 by decide)]
      have c1' : f_Words_addTo (some (fx_ad b 21)) (some (fx_ad b 26)) (1 : Int32) (fx_mk σ b F) = _ := c1
      simp only [↓fx_bc, ↓cV_of c1']
      rfl
    · rw [wl_drop (by omega), join_sj]
      rw [List.append_assoc]
      exact e2
end
