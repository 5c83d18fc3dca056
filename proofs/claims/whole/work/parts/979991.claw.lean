/-! the class and the reference side by side -/
section
variable {σ : rb_St} {b : Nat} {F : fx_F} {X : XS}
theorem r_names (h : CR σ b F X) : f_RB_names (some (fx_ad b 0)) (fx_mk σ b F) = some (some (.int (nI (rN (xR X)).length)), fx_mk σ b F) := by
  obtain ⟨ad, I, src, h0⟩ := h
  have h301 : F.1 301 = nI (rN (xR X)).length := h0.2.2.2.2.1.1.1
  have hc : f_Store_count (some (fx_ad b 3)) (fx_mk σ b F) = some (some (.int (nI (rN (xR X)).length)), fx_mk σ b F) := by
    unfold f_Store_count
    simp only [↓fx_bc, h301]
  unfold f_RB_names
  simp only [↓fx_bc, ↓cI_of hc]
theorem c_storeAt {N : List (List Nat)} {ad : Nat → Nat} {I : Nat → Nat → Int32} {src : Nat → Option Nat} (hN : nok N) (h : nx σ b F N ad I src) (k : Int32) : f_Store_at (some (fx_ad b 3)) k (fx_mk σ b F) = some (some (va_rf (if k < 0 then none else if nI N.length ≤ k then none else some (ad k.toNatClampNeg))), fx_mk σ b F) := by
  have hl := hN.1
  unfold f_Store_at
  by_cases h1 : k < 0
  · rw [if_pos h1, if_pos h1]
  · rw [if_neg h1, if_neg h1]
    obtain ⟨k, hk, rfl⟩ := nI_of h1
    simp only [↓fx_bc, h.1, u_cl hk]
    by_cases h2 : N.length ≤ k
    · rw [if_neg (show ¬ nI k < nI N.length by rw [u_lt (by omega) (by omega)]; omega), if_pos (nI_le h2 (by omega))]
    · rw [if_pos (show nI k < nI N.length by rw [u_lt (by omega) (by omega)]; omega), if_neg (show ¬ nI N.length ≤ nI k by rw [u_le (by omega) (by omega)]; exact h2)]
      simp only [↓fx_bc, ↓n_row h (show k < N.length by omega) hk]
theorem c_atI {N : List (List Nat)} {ad : Nat → Nat} {I : Nat → Nat → Int32} {src : Nat → Option Nat} (hN : nok N) (h : nx σ b F N ad I src) {e : Int32} {g : Nat → Int32} {f : Nat} (hf : nfd f) (hg : ∀ j, j < N.length → I j f = g j) (k : Int32) : (rb_cR (f_Store_at (some (fx_ad b 3)) k (fx_mk σ b F)) fun r_2 σ_3 => if r_2 = none then (some (some (Value.int e), σ_3)) else ((rb_gI σ_3 r_2 12 f).bind fun x_4 => some (some (Value.int x_4), σ_3))) = some (some (Value.int (x_at N.length e g k)), fx_mk σ b F) := by
  have hs := c_storeAt (F := F) hN h k
  have hl := hN.1
  unfold x_at
  by_cases h1 : k < 0
  · rw [if_pos h1] at hs ⊢
    simp only [↓cR_of hs]
    rw [if_pos trivial]
  · rw [if_neg h1] at hs ⊢
    by_cases h2 : nI N.length ≤ k
    · rw [if_pos h2] at hs ⊢
      simp only [↓cR_of hs]
      rw [if_pos trivial]
    · rw [if_neg h2] at hs ⊢
      obtain ⟨k, hk, rfl⟩ := nI_of h1
      rw [u_cl hk] at hs ⊢
      have hkN : k < N.length := by
        rw [u_le (by omega) hk] at h2
        omega
      have gg := n_gI h hkN hf
      rw [hg k hkN] at gg
      simp only [↓cR_of hs]
      rw [if_neg (show ¬ (some (ad k) = none) from fun h => by cases h), gg, Option.bind_some]
theorem r_time (h : CR σ b F X) (hok : xok X) (k : Int32) : f_RB_time (some (fx_ad b 0)) k (fx_mk σ b F) = some (some (.int (x_at (rN (xR X)).length (-1) (fun k => nI (xF X k).1) k)), fx_mk σ b F) := by
  obtain ⟨ad, I, src, h0⟩ := h
  have hc := h0.2.2.2.2.1
  unfold f_RB_time
  simp only [↓fx_bc]
  exact c_atI hok.2.2.2.2.1.1.1 hc.1 ⟨by decide, by decide, by decide⟩ (fun j hj => (hc.2.2.1 j hj).1) k
theorem r_content (h : CR σ b F X) (hok : xok X) (k : Int32) : f_RB_content (some (fx_ad b 0)) k (fx_mk σ b F) = some (some (.int (x_at (rN (xR X)).length 0 (fun k => (xF X k).2) k)), fx_mk σ b F) := by
  obtain ⟨ad, I, src, h0⟩ := h
  have hc := h0.2.2.2.2.1
  unfold f_RB_content
  simp only [↓fx_bc]
  exact c_atI hok.2.2.2.2.1.1.1 hc.1 ⟨by decide, by decide, by decide⟩ (fun j hj => (hc.2.2.1 j hj).2) k
theorem r_fate (h : CR σ b F X) (hok : xok X) (k : Int32) : f_RB_fate (some (fx_ad b 0)) k (fx_mk σ b F) = some (some (.int (x_at (rN (xR X)).length (-1) (fun k => nI (xG X k)) k)), fx_mk σ b F) := by
  obtain ⟨ad, I, src, h0⟩ := h
  have hc := h0.2.2.2.2.1
  unfold f_RB_fate
  simp only [↓fx_bc]
  exact c_atI hok.2.2.2.2.1.1.1 hc.1 ⟨by decide, by decide, by decide⟩ (fun j hj => (h0.2.2.2.2.2.2.2.2.2.1 j hj).1) k
theorem r_nameAt (h : CR σ b F X) (hok : xok X) (k i : Int32) : f_RB_nameAt (some (fx_ad b 0)) k i (fx_mk σ b F) = some (some (.int (x_nameAt (rN (xR X)) k i)), fx_mk σ b F) := by
  obtain ⟨ad, I, src, h0⟩ := h
  have hnx := h0.2.2.2.2.1.1
  have hN := hok.2.2.2.2.1.1.1
  have hs := c_storeAt (F := F) hN hnx k
  have hl := hN.1
  unfold f_RB_nameAt x_nameAt
  by_cases h1 : k < 0
  · rw [if_pos h1] at hs ⊢
    simp only [↓fx_bc, ↓cR_of hs]
    rw [if_pos trivial]
  · rw [if_neg h1] at hs ⊢
    by_cases h2 : nI (rN (xR X)).length ≤ k
    · rw [if_pos h2] at hs ⊢
      simp only [↓fx_bc, ↓cR_of hs]
      rw [if_pos trivial]
    · rw [if_neg h2] at hs ⊢
      obtain ⟨k, hk, rfl⟩ := nI_of h1
      rw [u_cl hk] at hs ⊢
      have hkN : k < (rN (xR X)).length := by
        rw [u_le (by omega) hk] at h2
        omega
      obtain ⟨s, p1, p2⟩ := n_sp hnx hkN
      obtain ⟨v, hv⟩ := sx_fc p2
      have hlen := c_len (F := F) p2
      have hsp := sp_ok (hN.2 k hkN)
      simp only [↓fx_bc, ↓cR_of hs]
      rw [if_neg (show ¬ (some (ad k) = none) from fun h => by cases h)]
      by_cases h3 : i < 0
      · rw [if_pos h3, if_pos h3]
      · rw [if_neg h3, if_neg h3]
        obtain ⟨i, hi, rfl⟩ := nI_of h3
        rw [u_cl hi]
        simp only [p1, hv, Option.bind_some, ↓cI_of hlen]
        by_cases h4 : i < ((rN (xR X)).getD k []).length
        · have hch := c_charAt (F := F) p2 (i := i) h4
          rw [if_pos (show nI i < nI ((rN (xR X)).getD k []).length by rw [u_lt (by omega) (by omega)]; exact h4), if_neg (show ¬ nI ((rN (xR X)).getD k []).length ≤ nI i by rw [u_le (by omega) (by omega)]; omega)]
          simp only [↓cI_of hch]
        · rw [if_neg (show ¬ nI i < nI ((rN (xR X)).getD k []).length by rw [u_lt (by omega) (by omega)]; exact h4), if_pos (nI_le (by omega) (by omega))]
theorem r_done (h : CR σ b F X) : f_RB_done (some (fx_ad b 0)) (fx_mk σ b F) = some (some (.int (nI (xN X))), fx_mk σ b F) := by
  obtain ⟨ad, I, src, h0⟩ := h
  have h7 : F.1 3107 = nI (xN X) := h0.2.2.2.2.2.2.2.2.1
  unfold f_RB_done
  simp only [↓fx_bc, h7]
theorem r_printed (h : CR σ b F X) : f_RB_printed (some (fx_ad b 0)) (fx_mk σ b F) = some (some (.int (nI (xP X).length)), fx_mk σ b F) := by
  obtain ⟨ad, I, src, h0⟩ := h
  have hp : tw F 26 (xP X) := h0.2.2.2.2.1.2.2.2.2.1
  have hlen := c_tlen (σ := σ) (b := b) tO26 hp
  unfold f_RB_printed
  simp only [↓fx_bc, ↓fc26, ↓cI_of hlen]
end
theorem x_run_ok {X : XS} (hok : xok X) (hck : xC X + 57632 ≤ 2000000000) {w t : Nat} {N : List (List Nat)} (hN : nok N) (hNl : (rN (xR X)).length ≤ N.length) (ht : t < N.length) : bok (xR X) ((N, xF X, xC X, []), 0, false, fun _ => 0) ∧ updS (xR X) [] t ((N, xF X, xC X, []), 0, false, fun _ => 0) (x_run w t N X) := by
  obtain ⟨x1, x2, x3, x4, x5, x6, x7⟩ := hok
  have hS : bok (xR X) ((N, xF X, xC X, []), 0, false, fun _ => 0) := by
    refine ⟨⟨hN, Nat.zero_le _⟩, x3, ?_, fun j => Nat.zero_le _, hNl⟩
    show xC X + 1801 * muN (fun _ => 0) 32 ≤ _
    rw [muN_0]
    omega
  exact ⟨hS, upd_ok x5.1 (xV X) w 33 [] t ((N, xF X, xC X, []), 0, false, fun _ => 0) (by simp) ⟨List.nodup_nil, fun j hj => (by cases hj)⟩ ht (by simp) rfl hS⟩
/-- the clock, with what may still come -/
def clk (S : BS) : Nat := pC S.1 + 1801 * muN (bG S) 32
theorem dep_C {R : RS} {w : Nat} {u : List Nat} {upd : Nat → BS → BS} (hupd : hup R u upd) (hC : ∀ d S, uok (pN S.1) u → d < (pN S.1).length → ¬ d ∈ u → bG S d = 0 → bok R S → clk (upd d S) ≤ clk S) : ∀ (ds : List Nat) (a : Bool × BS), bok R a.2 → uok (pN a.2.1) u → (∀ d, d ∈ ds → d < (pN a.2.1).length) → clk (ds.foldl (x_dep w u upd) a).2 ≤ clk a.2
  | [], a, _, _, _ => Nat.le_refl _
  | d :: ds, a, h1, h2, h3 => by
    have hd := h3 d (List.mem_cons_self ..)
    have step : bok R (x_dep w u upd a d).2 ∧ (pN a.2.1).length ≤ (pN (x_dep w u upd a d).2.1).length ∧ clk (x_dep w u upd a d).2 ≤ clk a.2 := by
      unfold x_dep
      split
      · exact ⟨h1, Nat.le_refl _, Nat.le_refl _⟩
      · split
        · rename_i hc
          obtain ⟨q1, q2, q3, q4⟩ := hupd d a.2 h2 hd hc.2 hc.1 h1
          exact ⟨q1, q2, hC d a.2 h2 hd hc.2 hc.1 h1⟩
        · exact ⟨h1, Nat.le_refl _, Nat.le_refl _⟩
    rw [List.foldl_cons]
    obtain ⟨s1, s2, s3⟩ := step
    exact Nat.le_trans (dep_C hupd hC ds (x_dep w u upd a d) s1 (uok_mono h2 s2) (fun e he => Nat.lt_of_lt_of_le (h3 e (List.mem_cons_of_mem _ he)) s2)) s3
theorem clk_G {S : BS} {t v : Nat} (ht : t < 32) (h0 : bG S t = 0) (hv : v ≠ 0) : clk (wG S t v) + 1801 = clk S := by
  have := muN_up (bG S) h0 hv 32
  rw [if_pos ht] at this
  show pC S.1 + 1801 * muN (up1 (bG S) t v) 32 + 1801 = pC S.1 + 1801 * muN (bG S) 32
  omega
theorem upd_C {R : RS} (hR : rok R) (gv : Nat → Option (List Nat)) (w : Nat) : ∀ (n : Nat) (u : List Nat) (t : Nat) (S : BS), 33 ≤ n + u.length → uok (pN S.1) u → t < (pN S.1).length → ¬ t ∈ u → bG S t = 0 → bok R S → clk (x_upd R gv w n u t S) ≤ clk S := by
  intro n
  induction n with
  | zero =>
    intro u t S h33 hu ht htu _ hS
    have := (u_len hS.1.1 hu ht htu).1
    omega
  | succ n ih =>
    intro u t S h33 hu ht htu h0 hS
    have ht32 : t < 32 := Nat.lt_of_lt_of_le ht hS.1.1.1
    have hu2 := (u_len hS.1.1 hu ht htu).2
    have hhup : hup R (t :: u) (x_upd R gv w n (t :: u)) := fun d' S' u1 u2 u3 u4 u5 => upd_ok hR gv w n (t :: u) d' S' (by rw [List.length_cons]; omega) u1 u2 u3 u4 u5
    unfold x_upd
    cases hx : x_choose R (pN S.1) (pF S.1) t with
    | none =>
      have := clk_G ht32 h0 (show (3 : Nat) ≠ 0 by decide)
      simp only
      omega
    | some ch =>
      have hc := choose_ok hR hS.1.1 ht hx
      have hdN : ∀ d, d ∈ x_deps R ch t → d < (pN S.1).length := fun d hd => deps_N hR hS.2.2.2.2 hc hd
      have hf := dep_ok (w := w) hhup (x_deps R ch t) (false, S) hS hu2 hdN
      have hcl := dep_C (w := w) hhup (fun d S' a1 a2 a3 a4 a5 => ih (t :: u) d S' (by rw [List.length_cons]; omega) a1 a2 a3 a4 a5) (x_deps R ch t) (false, S) hS hu2 hdN
      simp only
      generalize (x_deps R ch t).foldl (x_dep w (t :: u) (x_upd R gv w n (t :: u))) (false, S) = X at hf hcl ⊢
      obtain ⟨f1, f2, f3⟩ := hf
      have hXt : bG X.2 t = 0 := (f3 t (List.mem_cons_self ..)).trans h0
      have hcl' : clk X.2 ≤ clk S := hcl
      split
      · have := clk_G ht32 hXt (show (3 : Nat) ≠ 0 by decide)
        omega
      · obtain ⟨g1, g2, g3, g4, v, g5, g6, g7⟩ := fin_ok hR gv w t ch f1.1 f1.2.1
        have := muN_up (bG X.2) hXt (show v ≠ 0 by omega) 32
        rw [if_pos ht32] at this
        have hz : clk (x_fin R gv w t ch X.2) ≤ clk X.2 := by
          show pC (x_fin R gv w t ch X.2).1 + 1801 * muN (bG (x_fin R gv w t ch X.2)) 32 ≤ pC X.2.1 + 1801 * muN (bG X.2) 32
          rw [g7]
          omega
        omega
theorem x_run_C {X : XS} (hok : xok X) (hck : xC X + 57632 ≤ 2000000000) {w t : Nat} {N : List (List Nat)} (hN : nok N) (hNl : (rN (xR X)).length ≤ N.length) (ht : t < N.length) : pC (x_run w t N X).1 ≤ xC X + 57632 := by
  obtain ⟨hS, _⟩ := x_run_ok (w := w) hok hck hN hNl ht
  have := upd_C hok.2.2.2.2.1.1 (xV X) w 33 [] t ((N, xF X, xC X, []), 0, false, fun _ => 0) (by simp) ⟨List.nodup_nil, fun j hj => (by cases hj)⟩ ht (by simp) rfl hS
  have h2 : clk ((N, xF X, xC X, []), 0, false, fun _ => 0) = xC X + 57632 := by
    show xC X + 1801 * muN (fun _ => 0) 32 = _
    rw [muN_0]
  have h3 : pC (x_run w t N X).1 ≤ clk (x_run w t N X) := Nat.le_add_right _ _
  have h4 : clk (x_run w t N X) ≤ clk ((N, xF X, xC X, []), 0, false, fun _ => 0) := this
  omega
theorem fok_up {f : Nat → Nat × Int32} {c k : Nat} (h : fok f c) (x : Int32) : fok (up1 f k (c + 1, x)) (c + 1) := by
  intro j
  unfold up1
  split
  · exact Nat.le_refl _
  · exact Nat.le_succ_of_le (h j)
/-- the invariants go on -/
theorem ok_type {X : XS} (h : xok X) (c : Nat) : xok (c_type c X).2 ∧ xC (c_type c X).2 = xC X ∧ (xD (c_type c X).2).length ≤ (xD X).length + 1 := by
  unfold c_type
  split
  · rename_i e
    obtain ⟨x1, x2, x3⟩ := h
    refine ⟨⟨?_, fun d hd => ?_, x3⟩, rfl, ?_⟩
    · show (xD X ++ [c]).length ≤ 320
      rw [List.length_append, List.length_cons, List.length_nil]
      omega
    · rcases List.mem_append.mp hd with hd | hd
      · exact x2 d hd
      · rw [List.mem_singleton.mp hd]
        exact e.1
    · show (xD X ++ [c]).length ≤ _
      rw [List.length_append, List.length_cons, List.length_nil]
      omega
  · exact ⟨h, rfl, Nat.le_succ _⟩
theorem okD_nil {X : XS} (h : xok X) : xok ([], X.2) := ⟨Nat.zero_le _, fun c hc => (by cases hc), h.2.2⟩
theorem ok_set {X : XS} (h : xok X) : xok (c_set X).2 ∧ xC (c_set X).2 = xC X ∧ (xD (c_set X).2).length ≤ (xD X).length := by
  unfold c_set
  split
  · rename_i e
    obtain ⟨x1, x2, x3, x4, x5⟩ := h
    unfold x_set at e
    rw [Bool.and_eq_true] at e
    have e1 := of_decide_eq_true e.1
    refine ⟨⟨Nat.zero_le _, fun c hc => (by cases hc), x3, fun m v hv => ?_, x5⟩, rfl, Nat.zero_le _⟩
    have hv' : up1 (xV X) ((xD X).getD 0 0 - 65) (some ((xD X).drop 2)) m = some v := hv
    unfold up1 at hv'
    split at hv'
    · injection hv' with hv'
      subst hv'
      exact ⟨by rw [List.length_drop]; omega, fun c hc => x2 c (List.mem_of_mem_drop hc)⟩
    · exact x4 m v hv'
  · exact ⟨h, rfl, Nat.le_refl _⟩
theorem ok_edit {X : XS} (h : xok X) (c : Int32) : xok (c_edit c X).2 ∧ xC (c_edit c X).2 ≤ xC X + 1 ∧ (xD (c_edit c X).2).length ≤ (xD X).length := by
  obtain ⟨x1, x2, x3, x4, x5, x6⟩ := h
  have hN' := nmeet_ok x5.1.1 (xD X)
  have hNl := nmeet_len (rN (xR X)) (xD X)
  unfold c_edit
  rcases hm : nmeet (rN (xR X)) (xD X) with ⟨r, N⟩
  rw [hm] at hN' hNl
  cases r with
  | none => exact ⟨⟨x1, x2, x3, x4, rin_wN x5 hN' hNl, x6⟩, Nat.le_succ _, Nat.le_refl _⟩
  | some k => exact ⟨⟨Nat.zero_le _, fun c hc => (by cases hc), fok_up x3 c, x4, rin_wN x5 hN' hNl, x6⟩, Nat.le_refl _, Nat.zero_le _⟩
theorem ok_erase {X : XS} (h : xok X) : xok (c_erase X).2 ∧ xC (c_erase X).2 = xC X ∧ (xD (c_erase X).2).length ≤ (xD X).length := by
  unfold c_erase
  split
  · exact ⟨h, rfl, Nat.le_refl _⟩
  · split
    · exact ⟨h, rfl, Nat.le_refl _⟩
    · obtain ⟨x1, x2, x3, x4⟩ := h
      refine ⟨⟨Nat.zero_le _, fun c hc => (by cases hc), fun j => ?_, x4⟩, rfl, Nat.zero_le _⟩
      rename_i k _ _
      show (up1 (xF X) k (0, 0) j).1 ≤ xC X
      unfold up1
      split
      · exact Nat.zero_le _
      · exact x3 j
theorem ok_build {X : XS} (h : xok X) (hck : xC X + 57632 ≤ 2000000000) (w : Int32) : xok (c_build w X).2 ∧ xC (c_build w X).2 ≤ xC X + 57632 ∧ (xD (c_build w X).2).length ≤ (xD X).length := by
  have h0 := h
  obtain ⟨x1, x2, x3, x4, x5, x6, x7⟩ := h0
  have hN := x5.1.1
  have hgo : ∀ (n t : Nat) (N : List (List Nat)), nok N → (rN (xR X)).length ≤ N.length → t < N.length → xok ([], (pF (x_run n t N X).1, pC (x_run n t N X).1), xV X, wN (xR X) (pN (x_run n t N X).1), bG (x_run n t N X), pP (x_run n t N X).1, (x_run n t N X).2.1) ∧ pC (x_run n t N X).1 ≤ xC X + 57632 := by
    intro n t N h1 h2 h3
    obtain ⟨hS, hu⟩ := x_run_ok (w := n) h hck h1 h2 h3
    have hC := x_run_C (w := n) h hck h1 h2 h3
    obtain ⟨⟨b1, b2', b3, b4, b5⟩, _⟩ := hu
    exact ⟨⟨Nat.zero_le _, fun c hc => (by cases hc), b2', x4, rin_wN x5 b1.1 b5, b4, b1.2⟩, hC⟩
  unfold c_build
  split
  · exact ⟨h, Nat.le_add_right _ _, Nat.le_refl _⟩
  · split
    · exact ⟨h, Nat.le_add_right _ _, Nat.le_refl _⟩
    · have hN' := nmeet_ok hN (xD X)
      have hNl := nmeet_len (rN (xR X)) (xD X)
      have hltm := @nmeet_lt (rN (xR X)) (xD X)
      have hgoal : nok (x_goal X).2 ∧ (rN (xR X)).length ≤ (x_goal X).2.length ∧ ∀ t, (x_goal X).1 = some t → t < (x_goal X).2.length := by
        unfold x_goal
        split
        · exact ⟨hN, Nat.le_refl _, fun t ht => x5.1.2.2.2.2.2.2.1 t ht⟩
        · exact ⟨hN', hNl, fun t ht => hltm ht⟩
      rcases hx : x_goal X with ⟨r, N⟩
      rw [hx] at hgoal
      cases r with
      | none => exact ⟨⟨x1, x2, x3, x4, rin_wN x5 hgoal.1 hgoal.2.1, x6, x7⟩, Nat.le_add_right _ _, Nat.le_refl _⟩
      | some t =>
        obtain ⟨q1, q2⟩ := hgo w.toNatClampNeg t N hgoal.1 hgoal.2.1 (hgoal.2.2 t rfl)
        exact ⟨q1, q2, Nat.zero_le _⟩
