/-! the class: a rule line -/
section
variable {σ : rb_St} {b : Nat} {F : fx_F} {o : List Nat}
theorem c_colonLoop (hF : fx_ln F) (ht : tw F 14 o) (hc : ∀ c, c ∈ o → c < 65536) (c : Nat) (hcl : c ≤ o.length) : ∀ (m i : Nat), c + 1 ≤ i → i ≤ 1000 → m = o.length - i → rb_it (fun z : (Int32 × rb_St) => f_Reader_isLastColon_b4 (some (fx_ad b 14)) (nI c) (z.1) z.2) (nI i, fx_mk σ b F) = some (some (.int (nI (b2 (decide (c < o.length) && (sr (fun k => decide (o.getD k 0 = 58)) m i).isNone)))), fx_mk σ b F) := by
  have hol := tw_len hF ht
  rw [show tcap 14 = 120 from rfl] at hol
  have hlen := c_tlen (σ := σ) (b := b) tO14 ht
  intro m
  induction m with
  | zero =>
    intro i h1 h2 hm
    refine rb_it_m ?_
    show f_Reader_isLastColon_b4 _ _ _ _ = _
    unfold f_Reader_isLastColon_b4
    simp only [↓fc14, ↓cI_of hlen]
    rw [if_pos (nI_le (by omega) (by omega))]
    by_cases e : o.length ≤ c
    · rw [if_pos (nI_le e (by omega)), decide_eq_false (by omega)]
      rfl
    · rw [if_neg (show ¬ nI o.length ≤ nI c by rw [u_le (by omega) (by omega)]; exact e), decide_eq_true (by omega)]
      rfl
  | succ m ih =>
    intro i h1 h2 hm
    have hi : i < o.length := by omega
    have hat := c_at (σ := σ) (b := b) tO14 hF ht hc (i := i) (by omega)
    have hlt := hc (o.getD i 0) (getD_mem hi)
    have hle : ¬ o.length ≤ i := by omega
    by_cases e : o.getD i 0 = 58
    · refine rb_it_m ?_
      show f_Reader_isLastColon_b4 _ _ _ _ = _
      unfold f_Reader_isLastColon_b4
      simp (disch := omega) only [↓fc14, ↓cI_of hlen, u_le, n_leF, if_false, ↓cI_of hat]
      rw [if_pos (show nI (o.getD i 0) = (58 : Int32) by rw [e]; rfl), sr_pos (P := fun k => decide (o.getD k 0 = 58)) (decide_eq_true e)]
      simp only [Option.isNone_some, Bool.and_false]
      rfl
    · rw [sr_neg (P := fun k => decide (o.getD k 0 = 58)) (decide_eq_false e)]
      refine (rb_it_l ?_).trans (ih (i + 1) (by omega) (by omega) (by omega))
      show f_Reader_isLastColon_b4 _ _ _ _ = _
      unfold f_Reader_isLastColon_b4
      simp (disch := omega) only [↓fc14, ↓cI_of hlen, u_le, n_leF, if_false, ↓cI_of hat]
      rw [if_neg (show ¬ nI (o.getD i 0) = (58 : Int32) by rw [u_l58, u_eq (by omega) (by omega)]; exact e), show nI i + 1 = nI (i + 1) by rw [u_l1, u_add]]
theorem c_isLastColon (hF : fx_ln F) (ht : tw F 14 o) (hc : ∀ c, c ∈ o → c < 65536) {c : Nat} (hcl : c ≤ o.length) : f_Reader_isLastColon (some (fx_ad b 14)) (nI c) (fx_mk σ b F) = some (some (.int (nI (b2 (decide (c < o.length) && (sr (fun k => decide (o.getD k 0 = 58)) (o.length - (c + 1)) (c + 1)).isNone)))), fx_mk σ b F) := by
  have hol := tw_len hF ht
  rw [show tcap 14 = 120 from rfl] at hol
  unfold f_Reader_isLastColon
  rw [show nI c + (1 : Int32) = nI (c + 1) by rw [u_l1, u_add]]
  exact c_colonLoop hF ht hc c hcl _ _ (Nat.le_refl _) (by omega) rfl
/-- the kind of a rule line, as a number of the class -/
def knd (Sf : List (List Nat)) (k : Nat) (only : List Nat) : Int32 := if only = q_SUF ∨ only = q_PHO ∨ only = q_IGN ∨ only = q_SIL then 1 else if only = q_DEF then 4 else if k = 1 ∧ (x_from Sf only).isSome = true then 3 else 2
theorem c_kindOf (hk : kx σ b) {Sf : List (List Nat)} (h1 : cr1 σ b F Sf) (hl : Sf.length ≤ 6) (hS : sfk Sf) {W : List (Nat × Nat)} (hw : wc F W) (h60 : W.length ≤ 60) {a : Nat} {only : List Nat} (ho : only.length ≤ 320) (hs : sx σ b a only) : ∃ σ', f_Reader_kindOf (some (fx_ad b 28)) (some a) (fx_mk σ b F) = some (some (.int (knd Sf W.length only)), fx_mk σ' b F) ∧ hn σ σ' ∧ gw 24 4800 σ σ' := by
  obtain ⟨v, hv⟩ := sx_fc hs
  have hcnt := c_wcount (σ := σ) (b := b) hw
  have he : ∀ i, i < 14 → f_Str_equals (some a) (some (rb_k (fx_mk σ b F) i)) (fx_mk σ b F) = some (some (.int (nI (b2 (decide (only = kT i))))), fx_mk σ b F) := fun i hi => c_equals (F := F) hs (hk.2.2 i hi)
  obtain ⟨σ1, a1, a2, a3⟩ := c_fromLength (F := F) hk h1.1 hl h1.2 ho hs
  have hg0 : gw 24 4800 σ σ := gw_mono (gw_refl _) (by decide) (by decide)
  unfold f_Reader_kindOf knd
  simp only [hv, Option.bind_some, ↓cI_of (he 1 (by decide))]
  by_cases e1 : only = q_SUF
  · rw [decide_eq_true (show only = kT 1 from e1), if_neg (show ¬ nI (b2 true) = 0 by decide), if_pos (Or.inl e1)]
    exact ⟨σ, rfl, hn_refl _, hg0⟩
  · rw [decide_eq_false (show ¬ only = kT 1 from e1), if_pos (show nI (b2 false) = 0 from rfl)]
    simp only [hv, Option.bind_some, ↓cI_of (he 2 (by decide))]
    by_cases e2 : only = q_PHO
    · rw [decide_eq_true (show only = kT 2 from e2), if_neg (show ¬ nI (b2 true) = 0 by decide), if_pos (Or.inr (Or.inl e2))]
      exact ⟨σ, rfl, hn_refl _, hg0⟩
    · rw [decide_eq_false (show ¬ only = kT 2 from e2), if_pos (show nI (b2 false) = 0 from rfl)]
      simp only [hv, Option.bind_some, ↓cI_of (he 3 (by decide))]
      by_cases e3 : only = q_IGN
      · rw [decide_eq_true (show only = kT 3 from e3), if_neg (show ¬ nI (b2 true) = 0 by decide), if_pos (Or.inr (Or.inr (Or.inl e3)))]
        exact ⟨σ, rfl, hn_refl _, hg0⟩
      · rw [decide_eq_false (show ¬ only = kT 3 from e3), if_pos (show nI (b2 false) = 0 from rfl)]
        simp only [hv, Option.bind_some, ↓cI_of (he 4 (by decide))]
        by_cases e4 : only = q_SIL
        · rw [decide_eq_true (show only = kT 4 from e4), if_neg (show ¬ nI (b2 true) = 0 by decide), if_pos (Or.inr (Or.inr (Or.inr e4)))]
          exact ⟨σ, rfl, hn_refl _, hg0⟩
        · rw [decide_eq_false (show ¬ only = kT 4 from e4), if_pos (show nI (b2 false) = 0 from rfl), if_neg (show ¬ (only = q_SUF ∨ only = q_PHO ∨ only = q_IGN ∨ only = q_SIL) from fun h => h.elim e1 (fun h => h.elim e2 (fun h => h.elim e3 e4)))]
          simp only [hv, Option.bind_some, ↓cI_of (he 5 (by decide))]
          by_cases e5 : only = q_DEF
          · rw [decide_eq_true (show only = kT 5 from e5), if_neg (show ¬ nI (b2 true) = 0 by decide), if_pos e5]
            exact ⟨σ, rfl, hn_refl _, hg0⟩
          · rw [decide_eq_false (show ¬ only = kT 5 from e5), if_pos (show nI (b2 false) = 0 from rfl), if_neg e5]
            simp only [↓fx_bc, ↓cI_of hcnt]
            by_cases ew : W.length = 1
            · rw [if_pos (show nI W.length = (1 : Int32) by rw [ew]; rfl)]
              simp only [↓fx_bc, ↓cI_of a1]
              cases hx : x_from Sf only with
              | none =>
                rw [if_neg (show ¬ (W.length = 1 ∧ (none : Option (List Nat × List Nat)).isSome = true) from fun h => by cases h.2)]
                simp only
                rw [if_pos (show nI 0 ≤ (0 : Int32) by decide)]
                exact ⟨σ1, rfl, a2, a3⟩
              | some rs =>
                have h0 := (x_from_ok hS hx).1
                have hpos : ¬ rs.1.length ≤ 0 := by
                  intro hz
                  rw [List.eq_nil_of_length_eq_zero (by omega : rs.1.length = 0)] at h0
                  exact absurd h0 (by decide)
                have := from_split hx
                rw [if_pos (⟨ew, rfl⟩ : W.length = 1 ∧ (some rs).isSome = true)]
                simp only
                rw [if_neg (show ¬ nI rs.1.length ≤ (0 : Int32) by rw [u_l0, u_le (by omega) (by omega)]; exact hpos)]
                exact ⟨σ1, rfl, a2, a3⟩
            · rw [if_neg (show ¬ nI W.length = (1 : Int32) by rw [u_l1, u_eq (by omega) (by omega)]; exact ew), if_neg (fun h => ew h.1)]
              exact ⟨σ, rfl, hn_refl _, hg0⟩
end
theorem cr2_hx {zi za zr zq : List Nat} {σ σ' : rb_St} {b : Nat} {F F' : fx_F} {En : List ((List Nat × List Nat) × Option Nat)} {Cm : List (Nat × List Nat)} (c2 : cr2 σ b F En Cm) (hh : hx σ σ') (hf : cf zi za zr zq F F') (h1 : 505 ∉ zi) (h2 : 9 ∉ za) (h7 : 7 ∉ zq) (h8 : 8 ∉ zq) : cr2 σ' b F' En Cm := ⟨by rw [hf.1 505 h1]; exact c2.1, erow_hx c2.2.1 hh (hf.2.2.2.2 7 h7) (hf.2.2.2.2 8 h8), fun i hi => by rw [hf.2.1 9 h2]; exact c2.2.2 i hi⟩
theorem cr3_hx {zi za zr zq : List Nat} {σ σ' : rb_St} {b : Nat} {F F' : fx_F} {Cm : List (Nat × List Nat)} (c3 : cr3 σ b F Cm) (hh : hx σ σ') (hf : cf zi za zr zq F F') (h1 : 507 ∉ zi) (h2 : 10 ∉ zq) : cr3 σ' b F' Cm := ⟨by rw [hf.1 507 h1]; exact c3.1, fun i hi => by
  obtain ⟨p, p1, p2⟩ := c3.2 i hi
  exact ⟨p, by rw [hf.2.2.2.2 10 h2]; exact p1, cmx_hx p2 hh⟩⟩
theorem cr4_cf {zi za zr zq : List Nat} {F F' : fx_F} {Pr : List (Nat × Nat)} {ad : Nat → Nat} (c4 : cr4 F Pr ad) (hf : cf zi za zr zq F F') (h1 : 510 ∉ zi) (h2 : 11 ∉ zq) (h3 : 12 ∉ zq) : cr4 F' Pr ad := ⟨by rw [hf.1 510 h1]; exact c4.1, fun i hi => by rw [hf.2.2.2.2 11 h2, hf.2.2.2.2 12 h3]; exact c4.2 i hi⟩
theorem cr5_cf {zi za zr zq : List Nat} {F F' : fx_F} {R : RS} {ad : Nat → Nat} (c5 : cr5 F R ad) (hf : cf zi za zr zq F F') (h1 : 511 ∉ zi) (h2 : 512 ∉ zr) (h3 : 513 ∉ zi) (h4 : 514 ∉ zi) : cr5 F' R ad := ⟨by rw [hf.1 511 h1]; exact c5.1, by rw [hf.2.2.2.1 512 h2]; exact c5.2.1, by rw [hf.1 513 h3]; exact c5.2.2.1, by rw [hf.1 514 h4]; exact c5.2.2.2⟩
/-- the rules stand on when names are met -/
theorem cr_meet {σ σ' : rb_St} {b : Nat} {F F' : fx_F} {R : RS} {ad ad' : Nat → Nat} {I I' : Nat → Nat → Int32} {src src' : Nat → Option Nat} {N' : List (List Nat)} (h : cr σ b F R ad I) (hin : rin R) (ht : nxt (rN R) ad I src N' ad' I' src') (hh : hx σ σ') (hf : cf [301] [] [] [4, 24] F F') : cr σ' b F' (wN R N') ad' I' := by
  obtain ⟨c1, c2, c3, c4, c5, c6, c7⟩ := cr_hx h hh hf (by decide) (by decide) (by decide) (by decide)
  obtain ⟨⟨_, _, _, _, r5, _, r7, _⟩, _, _, e3, e4⟩ := hin
  refine ⟨c1, c2, c3, ⟨c4.1, fun i hi => ?_⟩, ⟨c5.1, ?_, c5.2.2⟩, fun k hk => ?_, c7⟩
  · have h1 := r5.2 i hi
    rw [(ht.2.1 _ h1.1).2.1, (ht.2.1 _ h1.2).2.1]
    exact c4.2 i hi
  · rw [c5.2.1]
    show (rOp R 1).map ad = (rOp R 1).map ad'
    cases hx : rOp R 1 with
    | none => rfl
    | some k =>
      show some (ad k) = some (ad' k)
      rw [(ht.2.1 k (r7 k hx)).2.1]
  · show I' k 4 = nI (b2 (rFl R 0 k)) ∧ I' k 5 = nI (b2 (rFl R 1 k)) ∧ I' k 6 = nI (b2 (rFl R 2 k)) ∧ I' k 7 = nI (b2 (rFl R 3 k)) ∧ I' k 9 = og (rCm R) (rOw R k)
    by_cases e : k < (rN R).length
    · rw [(ht.2.1 k e).2.2.1]
      exact c6 k e
    · rw [(ht.2.2 k (by omega) hk).1, e3 0 k (by omega), e3 1 k (by omega), e3 2 k (by omega), e3 3 k (by omega), e4 k (by omega)]
      exact ⟨rfl, rfl, rfl, rfl, rfl⟩
