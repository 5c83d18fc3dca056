/-! the class and the reference, call by call -/
theorem m_all_cF {F F' : fx_F} {X : XS} (h : m_all F X) (hc : cF F F') (hF : fx_ln F') : m_all F' X := by
  have hfr : fr (List.range 3400) (List.range 35) [] F (F'.1, F'.2.1, F'.2.2.1, F.2.2.2) := ⟨fun z hz => hc.1 z (Nat.le_of_not_lt (fun h => hz (List.mem_range.mpr h))), fun o ho => hc.2.1 o (Nat.le_of_not_lt (fun h => ho (List.mem_range.mpr h))), fun o _ => by rw [show (F'.1, F'.2.1, F'.2.2.1, F.2.2.2).2.2.1 = F'.2.2.1 from rfl, hc.2.2], rfl⟩
  have n1 : ∀ z, 3400 ≤ z → z ∉ List.range 3400 := fun z hz hm => absurd (List.mem_range.mp hm) (by omega)
  have n2 : ∀ o, 35 ≤ o → o ∉ List.range 35 := fun o ho hm => absurd (List.mem_range.mp hm) (by omega)
  obtain ⟨h1, h2, h3, h4, ⟨T, t1, t2, t3, t4⟩, h6, h7, h8⟩ := h
  have r2 := m_draft_fr h2 hfr ⟨n1 _ (by decide), n2 _ (by decide)⟩
  have r3 := m_files_fr h3 hfr ⟨n1 _ (by decide), n2 _ (by decide), n2 _ (by decide), n2 _ (by decide)⟩
  have r4 := m_given_fr h4 hfr ⟨n2 _ (by decide), n2 _ (by decide), n2 _ (by decide)⟩
  have r5 := m_text_fr t3 hfr (n2 _ (by decide))
  have r6 := m_rules_fr t4 hfr (fun z hz hm => by
    have h9 := List.mem_range.mp hz
    have : ∀ z, z ∈ [3402, 3418, 3437, 3433, 3429, 3438, 3426, 3422, 3423, 3439, 3440, 3442, 3441] → 3400 ≤ z := by decide
    have := this z hm
    omega) (fun z hz hm => by
    have h9 := List.mem_range.mp hz
    have : ∀ z, z ∈ [61, 56, 57, 58, 54, 55, 43, 44, 45, 53, 52, 49, 50, 51] → 35 ≤ z := by decide
    have := this z hm
    omega) (fun z hz => by cases hz)
  have r7 := m_fates_fr h6 hfr (n2 _ (by decide))
  have r8 := m_print_fr h7 hfr ⟨n1 _ (by decide), n2 _ (by decide)⟩
  exact ⟨hF, r2, r3, r4, ⟨T, t1, t2, r5, r6⟩, r7, r8, (hc.1 3470 (by decide)).trans h8⟩
theorem tw_mF {F F' : fx_F} (h : mF F F') {o : Nat} {l : List Nat} (ht : tw F o l) (h1 : 100 * o + 1 < 3400) (h2 : o + 1 < 35) : tw F' o l := ⟨(h.1 _ h1).trans ht.1, by rw [h.2.1 _ h2]; exact ht.2⟩
theorem cr_mF {σ : rb_St} {b : Nat} {F F' : fx_F} {R : RS} {ad : Nat → Nat} {I : Nat → Nat → Int32} (h : cr σ b F R ad I) (hf : mF F F') : cr σ b F' R ad I := by
  have hQ : ∀ o, F'.2.2.2.2 o = F.2.2.2.2 o := fun o => by rw [hf.2.2]
  obtain ⟨c1, c2, c3, c4, c5, c6, c7⟩ := h
  refine ⟨⟨by rw [hf.1 501 (by decide)]; exact c1.1, prow_hx c1.2 (hx_refl _) (hQ 6)⟩, ⟨by rw [hf.1 505 (by decide)]; exact c2.1, erow_hx c2.2.1 (hx_refl _) (hQ 7) (hQ 8), fun i hi => by rw [hf.2.1 9 (by decide)]; exact c2.2.2 i hi⟩, ⟨by rw [hf.1 507 (by decide)]; exact c3.1, fun i hi => ?_⟩, ⟨by rw [hf.1 510 (by decide)]; exact c4.1, fun i hi => by rw [hQ 11, hQ 12]; exact c4.2 i hi⟩, ⟨by rw [hf.1 511 (by decide)]; exact c5.1, by rw [hf.2.2]; exact c5.2.1, by rw [hf.1 513 (by decide)]; exact c5.2.2.1, by rw [hf.1 514 (by decide)]; exact c5.2.2.2⟩, c6, vx_hx c7 (hx_refl _) (hQ 19)⟩
  obtain ⟨p, p1, p2⟩ := c3.2 i hi
  exact ⟨p, by rw [hQ 10]; exact p1, p2⟩
theorem CR_mF {σ : rb_St} {b : Nat} {F F' : fx_F} {X : XS} (h : CR σ b F X) (hf : mF F F') (hF : fx_ln F') : CR σ b F' X := by
  obtain ⟨ad, I, src, c1, c2, c3, c4, c5, c6, c7, c8, c9, c10, c11⟩ := h
  have hQ : ∀ o, F'.2.2.2.2 o = F.2.2.2.2 o := fun o => by rw [hf.2.2]
  obtain ⟨L, l1, l2⟩ := c3
  exact ⟨ad, I, src, c1, hF, ⟨L, l1, (hf.1 1305 (by decide)).trans l2⟩, tw_mF hf c4 (by decide) (by decide), ⟨nx_fr c5.1 ⟨hf.1 301 (by decide), hQ 4⟩, (hf.1 302 (by decide)).trans c5.2.1, c5.2.2.1, c5.2.2.2.1, tw_mF hf c5.2.2.2.2.1 (by decide) (by decide), c5.2.2.2.2.2⟩, cr_mF c6 hf, c7, vx_hx c8 (hx_refl _) (hQ 18), (hf.1 3107 (by decide)).trans c9, c10, c11⟩
/-- between two calls -/
def lwI (A : Nat) (xs : List Int32) (n0 s0 b j : Nat) (σ : rb_St) (F : fx_F) (X : XS) : Prop := CR σ b F X ∧ m_all F X ∧ xok X ∧ pch (xP X) ∧ xC X ≤ 57632 * j ∧ (σ.1 A = (102, xs.map Value.int) ∧ A < rb_n σ ∧ wx b A) ∧ rb_n σ + 150 * (xD X).length ≤ n0 + 256 * j ∧ rb_s σ + 10500 * (xD X).length ≤ s0 + 10500 * j
section
variable {A : Nat} {xs : List Int32} {n0 s0 b j : Nat} {σ σ' : rb_St} {F F' F'' : fx_F} {X X' : XS} {n s : Nat}
theorem CR_ln (h : CR σ b F X) : fx_ln F := by
  obtain ⟨ad, I, src, h0⟩ := h
  exact h0.2.1
theorem CR_b (h : CR σ b F X) : rb_b σ ≤ b := by
  obtain ⟨ad, I, src, h0⟩ := h
  exact h0.1.1
theorem lw_next (h : lwI A xs n0 s0 b j σ F X) (hf : fres σ b F n s X' σ' F') (hm : m_all F'' X') (hmF : mF F' F'') (hok : xok X') (hp : pch (xP X')) (hC : xC X' ≤ xC X + 57632) (hn : n + 150 * (xD X').length ≤ 150 * (xD X).length + 256) (hs : s + 10500 * (xD X').length ≤ 10500 * (xD X).length + 10500) : lwI A xs n0 s0 b (j + 1) σ' F'' X' := by
  obtain ⟨h1, h2, h3, h4, h5, ⟨a1, a2, a3⟩, h7, h8⟩ := h
  obtain ⟨f1, f2, f3, f4⟩ := hf
  refine ⟨CR_mF f1 hmF hm.1, hm, hok, hp, by omega, ⟨?_, Nat.lt_of_lt_of_le a2 f2.1, a3⟩, ?_, ?_⟩
  · rw [f2.2.2.2 A a2 (by rw [a1]; show 102 ≠ 12; decide)]
    exact a1
  · have := f3.1
    omega
  · have := f3.2
    omega
theorem lw_same (h : lwI A xs n0 s0 b j σ F X) : lwI A xs n0 s0 b (j + 1) σ F X := by
  obtain ⟨h1, h2, h3, h4, h5, h6, h7, h8⟩ := h
  exact ⟨h1, h2, h3, h4, by omega, h6, by omega, by omega⟩
theorem u32_nat (x : UInt32) : x.toInt32 = Int32.ofNat x.toNat := by
  apply Int32.toBitVec_inj.mp
  simp
theorem u16 (x : Int32) : ∃ c, c < 65536 ∧ (x.toUInt32 % 65536).toInt32 = nI c := by
  refine ⟨(x.toUInt32 % 65536).toNat, ?_, ?_⟩
  · rw [UInt32.toNat_mod]
    exact Nat.mod_lt _ (by decide)
  · exact u32_nat _
/-- as hx -/
abbrev hxR (σ σ1 : rb_St) : Prop := hx σ σ1
/-- a call, answered alike -/
theorem lw_step (hx : xs.length ≤ 1536) (h : lwI A xs n0 s0 b j σ F X) (hj : 3 * j + 3 ≤ xs.length) : ∃ σ' F' X', f_Law_law_b18 (some A) (some (fx_ad b 0)) (some (fx_ad b 34)) (nI (3 * j)) (fx_mk σ b F) = some (.inl (nI (3 * (j + 1)), fx_mk σ' b F')) ∧ lwI A xs n0 s0 b (j + 1) σ' F' X' := by
  have h0 := h
  obtain ⟨hCR, hM, hok, hp, hC, ⟨a1, a2, a3⟩, hn, hs⟩ := h0
  have hb := CR_b hCR
  have hln := CR_ln hCR
  have hck : xC X + 57632 ≤ 2000000000 := by omega
  have hgx : ∀ (k : Nat), k < xs.length → (xs.map Value.int)[k]? = some (.int (xs.getD k 0)) := fun k hk => by
    rw [List.getElem?_map, List.getElem?_eq_getElem hk, getD_get hk]
    rfl
  have hlen : rb_len (fx_mk σ b F) (some A) 102 = some (nI xs.length) := by
    rw [fo_len a3 a1, List.length_map]
  have hA0 : rb_aI (fx_mk σ b F) (some A) 102 (nI (3 * j)) = some (xs.getD (3 * j) 0) := fo_aI a3 a1 (by omega) (hgx _ (by omega))
  have hA1 : ∀ (σ1 : rb_St) (G : fx_F), hxR σ σ1 → rb_aI (fx_mk σ1 b G) (some A) 102 (nI (3 * j + 1)) = some (xs.getD (3 * j + 1) 0) := fun σ1 G hh => fo_aI a3 (by rw [hh.2.2.2 A a2 (by rw [a1]; show 102 ≠ 12; decide)]; exact a1) (by omega) (hgx _ (by omega))
  have hA2 : ∀ (σ1 : rb_St) (G : fx_F), hxR σ σ1 → rb_aI (fx_mk σ1 b G) (some A) 102 (nI (3 * j + 2)) = some (xs.getD (3 * j + 2) 0) := fun σ1 G hh => fo_aI a3 (by rw [hh.2.2.2 A a2 (by rw [a1]; show 102 ≠ 12; decide)]; exact a1) (by omega) (hgx _ (by omega))
  have hi1 : nI (3 * j) + (1 : Int32) = nI (3 * j + 1) := by rw [u_l1, u_add]
  have hi2 : nI (3 * j) + (2 : Int32) = nI (3 * j + 2) := by rw [u_l2, u_add]
  have hi3 : nI (3 * j) + 3 = nI (3 * (j + 1)) := by rw [u_l3, u_add, show 3 * j + 3 = 3 * (j + 1) by omega]
  have hend : ¬ (nI xs.length - (3 : Int32)) < nI (3 * j) := by
    rw [u_l3, u_sub (by omega), u_lt (by omega) (by omega)]
    omega
  have hM0 := hM
  obtain ⟨m1, m2, m3, m4, ⟨T, t1, t2, t3, t4⟩, m6, m7, m8⟩ := hM0
  have hN := hok.2.2.2.2.1.1.1
  unfold f_Law_law_b18
  rw [hlen, Option.bind_some, if_neg hend, hA0, Option.bind_some]
  generalize xs.getD (3 * j) 0 &&& (15 : Int32) = y
  by_cases e0 : y = 0
  · rw [if_pos e0]
    obtain ⟨c, c1, c2⟩ := u16 (xs.getD (3 * j + 1) 0)
    obtain ⟨F1, f1, f2⟩ := r_type hCR hok c1
    obtain ⟨F2, g1, g2, g3⟩ := m_all_type (σ := σ) hb (m_all_cF hM f2.2.2.2 (CR_ln f2.1)) hok c1
    have hk := ok_type hok c
    refine ⟨σ, F2, (c_type c X).2, ?_, lw_next h f2 g2 g3 hk.1 (by unfold c_type; split <;> exact hp) (by rw [hk.2.1]; omega) (by have := hk.2.2; omega) (by have := hk.2.2; omega)⟩
    simp only [hi1, hi3, hA1 σ F (hx_refl _), hA1 σ F1 (hx_refl _), Option.bind_some, ↓fx_bc, ↓fx_bm, c2, ↓cI_of f1, ↓cI_of g1, if_true]
  rw [if_neg e0]
  by_cases e1 : y = 1
  · rw [if_pos e1]
    obtain ⟨F1, f1, f2⟩ := r_scrap hCR
    obtain ⟨F2, g1, g2, g3⟩ := m_all_scrap (σ := σ) hb (m_all_cF hM f2.2.2.2 (CR_ln f2.1))
    refine ⟨σ, F2, c_scrap X, ?_, lw_next h f2 g2 g3 (okD_nil hok) hp (Nat.le_add_right _ _) (by show 0 + 150 * 0 ≤ _; omega) (by show 0 + 10500 * 0 ≤ _; omega)⟩
    simp only [hi3, ↓fx_bc, ↓fx_bm, ↓cV_of f1, ↓cV_of g1]
  rw [if_neg e1]
  by_cases e2 : y = 2
  · rw [if_pos e2]
    obtain ⟨σ1, F1, f1, f2⟩ := r_set hCR hok
    obtain ⟨F2, g1, g2, g3⟩ := m_all_set (σ := σ1) (CR_b f2.1) (m_all_cF hM f2.2.2.2 (CR_ln f2.1)) hok
    have hk := ok_set hok
    refine ⟨σ1, F2, (c_set X).2, ?_, lw_next h f2 g2 g3 hk.1 (by unfold c_set; split <;> exact hp) (by rw [hk.2.1]; omega) (by have := hk.2.2; omega) (by have := hk.2.2; omega)⟩
    simp only [hi3, ↓fx_bc, ↓fx_bm, ↓cI_of f1, ↓cI_of g1, if_true]
  rw [if_neg e2]
  by_cases e3 : y = 3
  · rw [if_pos e3]
    obtain ⟨σ1, F1, f1, f2⟩ := r_load hCR hok
    have hM1 := m_all_cF hM f2.2.2.2 (CR_ln f2.1)
    obtain ⟨F2, g1, g2, g3⟩ := m_all_load (σ := σ1) (CR_b f2.1) hM1 hok
    obtain ⟨F3, z1, z2, z3, _⟩ := m_load (σ := σ) (b := b) hb m1 hN t4.1 hok.1 hok.2.1 m2 m4 hok.2.2.2.1
    refine ⟨σ1, F2, (c_load X).2, ?_, lw_next h f2 g2 g3 ⟨Nat.zero_le _, fun c hc => (by cases hc), hok.2.2.1, hok.2.2.2.1, z3, fun _ => Nat.zero_le _, hok.2.2.2.2.2.2⟩ hp (Nat.le_add_right _ _) (by show 150 * ((xD X).length + 1) + 150 * 0 ≤ _; omega) (by show 10500 * ((xD X).length + 1) + 10500 * 0 ≤ _; omega)⟩
    simp only [hi3, ↓fx_bc, ↓fx_bm, ↓cI_of f1, ↓cI_of g1, if_true]
  rw [if_neg e3]
  by_cases e4 : y = 4
  · rw [if_pos e4]
    obtain ⟨σ1, F1, f1, f2⟩ := r_edit hCR hok (xs.getD (3 * j + 1) 0)
    obtain ⟨F2, g1, g2, g3⟩ := m_all_edit (σ := σ1) (CR_b f2.1) (m_all_cF hM f2.2.2.2 (CR_ln f2.1)) hok (xs.getD (3 * j + 1) 0)
    have hk := ok_edit hok (xs.getD (3 * j + 1) 0)
    refine ⟨σ1, F2, (c_edit (xs.getD (3 * j + 1) 0) X).2, ?_, lw_next h f2 g2 g3 hk.1 (by unfold c_edit; split <;> exact hp) (by have := hk.2.1; omega) (by have := hk.2.2; omega) (by have := hk.2.2; omega)⟩
    simp only [hi1, hi3, hA1 σ F (hx_refl _), hA1 σ1 F1 f2.2.1, Option.bind_some, ↓fx_bc, ↓fx_bm, ↓cI_of f1, ↓cI_of g1, if_true]
  rw [if_neg e4]
  by_cases e5 : y = 5
  · rw [if_pos e5]
    obtain ⟨σ1, F1, f1, f2⟩ := r_erase hCR hok (by omega)
    obtain ⟨F2, g1, g2, g3⟩ := m_all_erase (σ := σ1) (CR_b f2.1) (m_all_cF hM f2.2.2.2 (CR_ln f2.1)) hok
    have hk := ok_erase hok
    refine ⟨σ1, F2, (c_erase X).2, ?_, lw_next h f2 g2 g3 hk.1 (by unfold c_erase; split; exact hp; split <;> exact hp) (by rw [hk.2.1]; omega) (by have := hk.2.2; omega) (by have := hk.2.2; omega)⟩
    simp only [hi3, ↓fx_bc, ↓fx_bm, ↓cI_of f1, ↓cI_of g1, if_true]
  rw [if_neg e5]
  by_cases e6 : y = 6
  · rw [if_pos e6]
    obtain ⟨σ1, F1, f1, f2⟩ := r_build hCR hok hck (xs.getD (3 * j + 1) 0)
    obtain ⟨F2, g1, g2, g3⟩ := m_all_build (σ := σ1) (CR_b f2.1) (m_all_cF hM f2.2.2.2 (CR_ln f2.1)) hok hck (xs.getD (3 * j + 1) 0)
    have hk := ok_build hok hck (xs.getD (3 * j + 1) 0)
    refine ⟨σ1, F2, (c_build (xs.getD (3 * j + 1) 0) X).2, ?_, lw_next h f2 g2 g3 hk.1 (ch_build hok hck _ hp) hk.2.1 (by have := hk.2.2; omega) (by have := hk.2.2; omega)⟩
    simp only [hi1, hi3, hA1 σ F (hx_refl _), hA1 σ1 F1 f2.2.1, Option.bind_some, ↓fx_bc, ↓fx_bm, ↓cI_of f1, ↓cI_of g1, if_true]
  rw [if_neg e6]
  by_cases e7 : y = 7
  · rw [if_pos e7]
    have f1 := r_names hCR
    have g1 := m_namesF (σ := σ) (b := b) t4.1
    refine ⟨σ, F, X, ?_, lw_same h⟩
    simp only [hi3, ↓fx_bc, ↓fx_bm, ↓cI_of f1, ↓cI_of g1, if_true]
  rw [if_neg e7]
  by_cases e8 : y = 8
  · rw [if_pos e8]
    have f1 := r_nameAt hCR hok (xs.getD (3 * j + 1) 0) (xs.getD (3 * j + 2) 0)
    have g1 := m_nameAt (σ := σ) (b := b) hN t4.1 (xs.getD (3 * j + 1) 0) (xs.getD (3 * j + 2) 0)
    refine ⟨σ, F, X, ?_, lw_same h⟩
    simp only [hi1, hA1 σ F (hx_refl _), Option.bind_some, hi2, hA2 σ F (hx_refl _), hi3, ↓fx_bc, ↓fx_bm, ↓cI_of f1, ↓cI_of g1, if_true]
  rw [if_neg e8]
  by_cases e9 : y = 9
  · rw [if_pos e9]
    have f1 := r_time hCR hok (xs.getD (3 * j + 1) 0)
    have g1 := m_time (σ := σ) (b := b) hN t4.1 m3 (xs.getD (3 * j + 1) 0)
    refine ⟨σ, F, X, ?_, lw_same h⟩
    simp only [hi1, hA1 σ F (hx_refl _), Option.bind_some, hi3, ↓fx_bc, ↓fx_bm, ↓cI_of f1, ↓cI_of g1, if_true]
  rw [if_neg e9]
  by_cases e10 : y = 10
  · rw [if_pos e10]
    have f1 := r_content hCR hok (xs.getD (3 * j + 1) 0)
    have g1 := m_content (σ := σ) (b := b) hN t4.1 m3 (xs.getD (3 * j + 1) 0)
    refine ⟨σ, F, X, ?_, lw_same h⟩
    simp only [hi1, hA1 σ F (hx_refl _), Option.bind_some, hi3, ↓fx_bc, ↓fx_bm, ↓cI_of f1, ↓cI_of g1, if_true]
  rw [if_neg e10]
  by_cases e11 : y = 11
  · rw [if_pos e11]
    have f1 := r_fate hCR hok (xs.getD (3 * j + 1) 0)
    have g1 := m_fate (σ := σ) (b := b) hN t4.1 m6 (xs.getD (3 * j + 1) 0)
    refine ⟨σ, F, X, ?_, lw_same h⟩
    simp only [hi1, hA1 σ F (hx_refl _), Option.bind_some, hi3, ↓fx_bc, ↓fx_bm, ↓cI_of f1, ↓cI_of g1, if_true]
  rw [if_neg e11]
  by_cases e12 : y = 12
  · rw [if_pos e12]
    have f1 := r_done hCR
    have g1 := m_done (σ := σ) (b := b) (F := F)
    rw [m8] at g1
    refine ⟨σ, F, X, ?_, lw_same h⟩
    simp only [hi3, ↓fx_bc, ↓fx_bm, ↓cI_of f1, ↓cI_of g1, if_true]
  rw [if_neg e12]
  by_cases e13 : y = 13
  · rw [if_pos e13]
    have f1 := r_printed hCR
    have g1 := m_printed (σ := σ) (b := b) m7
    refine ⟨σ, F, X, ?_, lw_same h⟩
    simp only [hi3, ↓fx_bc, ↓fx_bm, ↓cI_of f1, ↓cI_of g1, if_true]
  rw [if_neg e13]
  by_cases e14 : y = 14
  · rw [if_pos e14]
    have f1 := r_printedAt hCR hok hp (xs.getD (3 * j + 1) 0)
    have g1 := m_printedAt (σ := σ) (b := b) hok.2.2.2.2.2.2 m7 (xs.getD (3 * j + 1) 0)
    refine ⟨σ, F, X, ?_, lw_same h⟩
    simp only [hi1, hA1 σ F (hx_refl _), Option.bind_some, hi3, ↓fx_bc, ↓fx_bm, ↓cI_of f1, ↓cI_of g1, if_true]
  rw [if_neg e14]
  exact ⟨σ, F, X, by rw [hi3], lw_same h⟩
end
