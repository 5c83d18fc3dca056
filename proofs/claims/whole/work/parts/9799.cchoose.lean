/-! the class: how a name is made -/
theorem list_getD_ext {l m : List Nat} (hl : l.length = m.length) (h : ∀ i, i < l.length → l.getD i 0 = m.getD i 0) : l = m := List.ext_getElem hl (fun i h1 h2 => by
  rw [← getD_get (d := 0) h1, ← getD_get (d := 0) h2]
  exact h i h1)
theorem drop_getD2 (w : List Nat) (n i : Nat) : (w.drop n).getD i 0 = w.getD (n + i) 0 := by
  rw [List.getD_eq_getElem?_getD, List.getD_eq_getElem?_getD, List.getElem?_drop]
theorem slc_all (l : List Nat) : slc l 0 l.length = l := by
  unfold slc
  rw [List.drop_zero, Nat.sub_zero, List.take_length]
section
variable {σ : rb_St} {b : Nat} {F : fx_F} {N : List (List Nat)} {ad : Nat → Nat} {I : Nat → Nat → Int32} {src : Nat → Option Nat}
theorem c_endsLoop (h : nx σ b F N ad I src) {k : Nat} (hk : k < N.length) (hwl : (N.getD k []).length ≤ 100) {a : Nat} {e : List Nat} (hs : sx σ b a e) (hle : e.length ≤ (N.getD k []).length) (hc : ∀ c, c ∈ e → c < 65536) (hcw : ∀ c, c ∈ N.getD k [] → c < 65536) : ∀ (m i : Nat), i + m = e.length → (∀ j, j < i → e.getD j 0 = (N.getD k []).getD ((N.getD k []).length - e.length + j) 0) → rb_it (fun z : (Int32 × rb_St) => f_Name_endsWith_b21 (some (ad k)) (some a) (nI ((N.getD k []).length - e.length)) (z.1) z.2) (nI i, fx_mk σ b F) = some (some (.int (nI (b2 (sfx e (N.getD k []))))), fx_mk σ b F) := by
  obtain ⟨v, hv⟩ := sx_fc hs
  obtain ⟨s, hsp, hss⟩ := n_sp h hk
  obtain ⟨vs, hvs⟩ := sx_fc hss
  have hlen := c_len (F := F) hs
  generalize N.getD k [] = w at *
  intro m
  induction m with
  | zero =>
    intro i hi hall
    refine rb_it_m ?_
    show f_Name_endsWith_b21 _ _ _ _ _ = _
    unfold f_Name_endsWith_b21
    simp only [hv, Option.bind_some, ↓cI_of hlen]
    have htrue : sfx e w = true := by
      unfold sfx
      rw [decide_eq_true hle, Bool.true_and]
      refine decide_eq_true (list_getD_ext (by rw [List.length_drop]; omega) (fun j hj => ?_))
      rw [List.length_drop] at hj
      rw [drop_getD2]
      exact (hall j (by omega)).symm
    rw [if_pos (nI_le (by omega) (by omega)), htrue]
    rfl
  | succ m ih =>
    intro i hi hall
    have hch := c_charAt (F := F) hs (i := i) (by omega)
    have hchw := c_charAt (F := F) hss (i := w.length - e.length + i) (by omega)
    have h1 := hc (e.getD i 0) (getD_mem (by omega))
    have h2 := hcw (w.getD (w.length - e.length + i) 0) (getD_mem (by omega))
    have hle' : ¬ e.length ≤ i := by omega
    by_cases he : w.getD (w.length - e.length + i) 0 = e.getD i 0
    · refine (rb_it_l ?_).trans (ih (i + 1) (by omega) (fun j hj => ?_))
      · show f_Name_endsWith_b21 _ _ _ _ _ = _
        unfold f_Name_endsWith_b21
        simp (disch := omega) only [hv, Option.bind_some, ↓cI_of hlen, u_le, n_leF, if_false, hsp, hvs, u_add, ↓cI_of hchw, ↓cI_of hch]
        rw [if_pos (by rw [he]), show nI i + 1 = nI (i + 1) by rw [u_l1, u_add]]
      · by_cases ej : j = i
        · rw [ej]; exact he.symm
        · exact hall j (by omega)
    · refine rb_it_m ?_
      show f_Name_endsWith_b21 _ _ _ _ _ = _
      unfold f_Name_endsWith_b21
      simp (disch := omega) only [hv, Option.bind_some, ↓cI_of hlen, u_le, n_leF, if_false, hsp, hvs, u_add, ↓cI_of hchw, ↓cI_of hch]
      have hfalse : sfx e w = false := by
        unfold sfx
        rw [decide_eq_true hle, Bool.true_and]
        refine decide_eq_false (fun hx => he ?_)
        rw [← drop_getD2, hx]
      rw [if_neg (show ¬ nI (w.getD (w.length - e.length + i) 0) = nI (e.getD i 0) by rw [u_eq (by omega) (by omega)]; exact he), hfalse]
      rfl
theorem c_endsWith (h : nx σ b F N ad I src) {k : Nat} (hk : k < N.length) (hwl : (N.getD k []).length ≤ 100) {a : Nat} {e : List Nat} (hs : sx σ b a e) (hle : e.length ≤ (N.getD k []).length) (hc : ∀ c, c ∈ e → c < 65536) (hcw : ∀ c, c ∈ N.getD k [] → c < 65536) : f_Name_endsWith (some (ad k)) (some a) (fx_mk σ b F) = some (some (.int (nI (b2 (sfx e (N.getD k []))))), fx_mk σ b F) := by
  obtain ⟨v, hv⟩ := sx_fc hs
  obtain ⟨s, hsp, hss⟩ := n_sp h hk
  obtain ⟨vs, hvs⟩ := sx_fc hss
  have hlen := c_len (F := F) hs
  have hlenw := c_len (F := F) hss
  unfold f_Name_endsWith
  simp only [hsp, hvs, hv, Option.bind_some, ↓cI_of hlenw, ↓cI_of hlen]
  rw [u_sub hle, if_pos (show (0 : Int32) ≤ nI ((N.getD k []).length - e.length) by rw [u_l0, u_le (by omega) (by omega)]; exact Nat.zero_le _)]
  exact c_endsLoop h hk hwl hs hle hc hcw e.length 0 (by omega) (fun j hj => absurd hj (Nat.not_lt_zero _))
theorem c_cmdsOf {En : List ((List Nat × List Nat) × Option Nat)} {Cm : List (Nat × List Nat)} (h2 : cr2 σ b F En Cm) (hl : En.length ≤ 8) {a a2 : Nat} {s s2 : List Nat} (hs : sx σ b a s) (hs2 : sx σ b a2 s2) : f_Rules_commandsOfEnding (some (fx_ad b 5)) (some a) (some a2) (fx_mk σ b F) = some (some (.int (match x_eidx En (s, s2) with | some e => og Cm (En.getD e (([], []), none)).2 | none => -1)), fx_mk σ b F) := by
  have hfe := c_findEnding (F := F) h2.1 hl h2.2.1 hs hs2
  unfold f_Rules_commandsOfEnding
  simp only [↓fx_bc, ↓cI_of hfe]
  cases hx : x_eidx En (s, s2) with
  | none =>
    rw [if_pos (show oi none = -1 from rfl)]
  | some e =>
    have he : e < En.length := by
      have := sr_some hx
      omega
    rw [if_neg (show ¬ oi (some e) = -1 by rw [show oi (some e) = nI e from rfl, u_nm1 (by omega)]; exact id)]
    simp only [show oi (some e) = nI e from rfl, ↓fx_bc, ↓bx_of rfl (show e < 2147483648 by omega) (h2.2.2 e he)]
end
/-- what choosing needs of the state -/
def chx (σ : rb_St) (b : Nat) (F : fx_F) (R : RS) (N : List (List Nat)) (f : Nat → Nat × Int32) (ad : Nat → Nat) (I : Nat → Nat → Int32) (src : Nat → Option Nat) : Prop := nx σ b F N ad I src ∧ cr1 σ b F (rSf R) ∧ cr2 σ b F (rEn R) (rCm R) ∧ ∀ k, k < N.length → I k 4 = nI (b2 (rFl R 0 k)) ∧ I k 2 = nI (f k).1 ∧ (f k).1 < 2147483648
theorem chx_cf {σ : rb_St} {b : Nat} {F F' : fx_F} {R : RS} {N : List (List Nat)} {f : Nat → Nat × Int32} {ad : Nat → Nat} {I : Nat → Nat → Int32} {src : Nat → Option Nat} (h : chx σ b F R N f ad I src) (hf : cf [3201] [33] [] [] F F') : chx σ b F' R N f ad I src := ⟨nx_cf h.1 hf (by decide) (by decide), cr1_hx h.2.1 (hx_refl _) hf (by decide) (by decide), cr2_hx h.2.2.1 (hx_refl _) hf (by decide) (by decide) (by decide) (by decide), h.2.2.2⟩
theorem tO32 : tO 32 := Or.inr (Or.inr (Or.inr (Or.inr (Or.inr rfl))))
theorem fc32 {σ : rb_St} {b : Nat} (G : fx_F) {β : Type} (f : List Value → Option β) : (rb_fc (fx_mk σ b G) (some (fx_ad b 32)) 2).bind f = f (fx_row b G 32) := (t_b tO32).1 f
theorem sp_ok {w : List Nat} (h : sp_name w = true) : 1 ≤ w.length ∧ w.length ≤ 8 ∧ ∀ c, c ∈ w → c < 128 := by
  obtain ⟨h1, h2, h3⟩ := sp_name_ok h
  exact ⟨h2, h3, fun c hc => (h1 c hc).2⟩
section
variable {σ : rb_St} {b : Nat} {R : RS} {N : List (List Nat)} {f : Nat → Nat × Int32} {ad : Nat → Nat} {I : Nat → Nat → Int32} {src : Nat → Option Nat}
/-- the sources of a name, for one suffix to go to -/
theorem c_srcLoop (hb : rb_b σ ≤ b) (hin : rin R) (hg : gin R) (hN : nok N) {t : Nat} (ht : t < N.length) {st : Nat} (hst : st ≤ (N.getD t []).length) {a : Nat} {s : List Nat} (hs : sx σ b a s) : ∀ (m j : Nat) (F : fx_F), j + m = (rSf R).length → fx_ln F → chx σ b F R N f ad I src → ∃ σ' F' I' src', rb_it (fun z : (Int32 × rb_St) => f_Bld_findSource_b3 (some (fx_ad b 31)) (some (ad t)) (nI st) (some a) (z.1) z.2) (nI j, fx_mk σ b F) = some (some (.int (nI (b2 (fs (fun j => x_cand R N f ((N.getD t []).take st) ((rSf R).getD j []) s) m j).isSome))), fx_mk σ' b F') ∧ fx_ln F' ∧ cf [3201] [33] [] [] F F' ∧ nx σ' b F' N ad I' src' ∧ hx σ σ' ∧ gw 0 0 σ σ' ∧ (fs (fun j => x_cand R N f ((N.getD t []).take st) ((rSf R).getD j []) s) m j = none → σ' = σ ∧ I' = I ∧ src' = src) ∧ ∀ y, fs (fun j => x_cand R N f ((N.getD t []).take st) ((rSf R).getD j []) s) m j = some y → I' = up2 (up2 I t 12 (og (rCm R) (some y.2))) t 15 (nI st) ∧ src' = up1 src t (some (ad y.1)) := by
  have hSf := hin.1.2.1
  have hEn := hin.1.2.2.1.1
  have hcm := hin.1.2.2.2.1
  have hw := sp_ok (hN.2 t ht)
  intro m
  induction m with
  | zero =>
    intro j F hj hF h
    have h1 := h.2.1.1
    refine ⟨σ, F, I, src, rb_it_m ?_, hF, cf_refl _ _ _ _ _, h.1, hx_refl _, gw_refl _, fun _ => ⟨rfl, rfl, rfl⟩, fun y hy => by cases hy⟩
    show f_Bld_findSource_b3 _ _ _ _ _ _ = _
    unfold f_Bld_findSource_b3
    simp only [↓fx_bc, h1]
    rw [if_pos (nI_le (by omega) (by have := hSf.1; omega))]
    rfl
  | succ m ih =>
    intro j F hj hF h
    have h6 := hSf.1
    have h1 := h.2.1.1
    obtain ⟨p, q1, q2⟩ := h.2.1.2 j (by omega)
    obtain ⟨s2, t1, t2, v, t3⟩ := p_tx q2
    have hco := c_cmdsOf (F := F) h.2.2.1 hEn t2 hs
    have hle : ¬ (rSf R).length ≤ j := by omega
    have hgo : ∀ F1, cf [3201] [33] [] [] F F1 → fx_ln F1 → x_cand R N f ((N.getD t []).take st) ((rSf R).getD j []) s = none → f_Bld_findSource_b3 (some (fx_ad b 31)) (some (ad t)) (nI st) (some a) (nI j) (fx_mk σ b F) = some (.inl (nI (j + 1), fx_mk σ b F1)) → ∃ σ' F' I' src', rb_it (fun z : (Int32 × rb_St) => f_Bld_findSource_b3 (some (fx_ad b 31)) (some (ad t)) (nI st) (some a) (z.1) z.2) (nI j, fx_mk σ b F) = some (some (.int (nI (b2 (fs (fun j => x_cand R N f ((N.getD t []).take st) ((rSf R).getD j []) s) (m + 1) j).isSome))), fx_mk σ' b F') ∧ fx_ln F' ∧ cf [3201] [33] [] [] F F' ∧ nx σ' b F' N ad I' src' ∧ hx σ σ' ∧ gw 0 0 σ σ' ∧ (fs (fun j => x_cand R N f ((N.getD t []).take st) ((rSf R).getD j []) s) (m + 1) j = none → σ' = σ ∧ I' = I ∧ src' = src) ∧ ∀ y, fs (fun j => x_cand R N f ((N.getD t []).take st) ((rSf R).getD j []) s) (m + 1) j = some y → I' = up2 (up2 I t 12 (og (rCm R) (some y.2))) t 15 (nI st) ∧ src' = up1 src t (some (ad y.1)) := by
      intro F1 g1 g2 g3 g4
      rw [fs_m]
      simp only [g3]
      obtain ⟨σ2, F2, I2, src2, e1, e2, e3, e4⟩ := ih (j + 1) F1 (by omega) g2 (chx_cf h g1)
      exact ⟨σ2, F2, I2, src2, (rb_it_l g4).trans e1, e2, cf_trans g1 e3, e4⟩
    -- the text of a candidate
    have hcand : ∀ x : Int32, f_Rules_commandsOfEnding (some (fx_ad b 5)) (some s2) (some a) (fx_mk σ b F) = some (some (.int x), fx_mk σ b F) → ¬ x = -1 → ∃ F3, fx_ln F3 ∧ cf [3201] [33] [] [] F F3 ∧ (∀ K, nf N ((N.getD t []).take st ++ (rSf R).getD j []) = none → K = some (.inl (nI (j + 1), fx_mk σ b F3)) → f_Bld_findSource_b3 (some (fx_ad b 31)) (some (ad t)) (nI st) (some a) (nI j) (fx_mk σ b F) = K) ∧ (∀ k, nf N ((N.getD t []).take st ++ (rSf R).getD j []) = some k → k < N.length ∧ f_Bld_findSource_b3 (some (fx_ad b 31)) (some (ad t)) (nI st) (some a) (nI j) (fx_mk σ b F) = if rFl R 0 k = true ∨ ¬ (f k).1 = 0 then (f_Bld_findSource_j130 (some (ad t)) (nI st) x (some (ad k)) (fx_mk σ b F3)).map Sum.inr else some (.inl (nI (j + 1), fx_mk σ b F3))) := by
      intro x hx hx1
      have hsj := sp_ok (hSf.2 j (by omega)).1
      obtain ⟨F1, a1, a2, a3, a4⟩ := c_clear (σ := σ) (b := b) (F := F) tO32 hb hF
      have hc1 := cf_fr a4
      have hn1 := nx_cf h.1 hc1 (by decide) (by decide)
      obtain ⟨ss, p1, p2⟩ := n_sp hn1 ht
      obtain ⟨F2, b1, b2', b3, b4⟩ := c_addPartF (F := F1) tO32 hb p2 (p := 0) (q := st) (Nat.zero_le _) hst a3 a2
      have hsl : slc (N.getD t []) 0 st = (N.getD t []).take st := by simp [slc]
      rw [hsl, List.nil_append, show tcap 32 = 16 from rfl, List.take_of_length_le (by rw [List.length_take]; omega)] at b2'
      have hc2 := cf_fr b4
      obtain ⟨F3, d1, d2, d3, d4⟩ := c_addPartF (F := F2) tO32 hb t2 (p := 0) (q := ((rSf R).getD j []).length) (Nat.zero_le _) (Nat.le_refl _) b3 b2'
      have hsl2 : slc ((rSf R).getD j []) 0 ((rSf R).getD j []).length = (rSf R).getD j [] := slc_all _
      rw [hsl2, show tcap 32 = 16 from rfl, List.take_of_length_le (by rw [List.length_append, List.length_take]; omega)] at d2
      have hc3 := cf_fr d4
      have hcf3 : cf [3201] [33] [] [] F F3 := cf_trans (cf_trans hc1 hc2) hc3
      have hlen2 := c_len (F := F2) t2
      have hlen3 := c_tlen (σ := σ) (b := b) tO32 d2
      have hn3 := nx_cf h.1 hcf3 (by decide) (by decide)
      have hcc : ∀ c, c ∈ (N.getD t []).take st ++ (rSf R).getD j [] → c < 65536 := fun c hc => by
        rcases List.mem_append.mp hc with e | e
        · exact Nat.lt_trans (hw.2.2 c (List.mem_of_mem_take e)) (by decide)
        · exact Nat.lt_trans (hsj.2.2 c e) (by decide)
      have hfd := c_find (F := F3) hN d3 hn3 tO32 d2 hcc (p := 0) (q := ((N.getD t []).take st ++ (rSf R).getD j []).length) (Nat.zero_le _) (Nat.le_refl _)
      have hsl3 : slc ((N.getD t []).take st ++ (rSf R).getD j []) 0 ((N.getD t []).take st ++ (rSf R).getD j []).length = (N.getD t []).take st ++ (rSf R).getD j [] := slc_all _
      rw [hsl3] at hfd
      have b1' : f_Text_addPart (some (fx_ad b 32)) (some ss) (0 : Int32) (nI st) (fx_mk σ b F1) = _ := b1
      have d1' : f_Text_addPart (some (fx_ad b 32)) (some s2) (0 : Int32) (nI ((rSf R).getD j []).length) (fx_mk σ b F2) = _ := d1
      have hfd' : f_Store_find (some (fx_ad b 3)) (some (fx_ad b 32)) (0 : Int32) (nI ((N.getD t []).take st ++ (rSf R).getD j []).length) (fx_mk σ b F3) = _ := hfd
      have hpre : f_Bld_findSource_b3 (some (fx_ad b 31)) (some (ad t)) (nI st) (some a) (nI j) (fx_mk σ b F) = if (nf N ((N.getD t []).take st ++ (rSf R).getD j [])).map ad = none then (some (.inl (nI (j + 1), fx_mk σ b F3))) else ((rb_gI (fx_mk σ b F3) ((nf N ((N.getD t []).take st ++ (rSf R).getD j [])).map ad) 12 4).bind fun x_28 => if x_28 = 0 then ((rb_fc (fx_mk σ b F3) ((nf N ((N.getD t []).take st ++ (rSf R).getD j [])).map ad) 12).bind fun _ => rb_cI (f_Name_isFile ((nf N ((N.getD t []).take st ++ (rSf R).getD j [])).map ad)  (fx_mk σ b F3)) fun x_29 σ_30 => if x_29 = 0 then (some (.inl (nI (j + 1), σ_30))) else ((f_Bld_findSource_j130 (some (ad t)) (nI st) x ((nf N ((N.getD t []).take st ++ (rSf R).getD j [])).map ad) σ_30).map Sum.inr)) else ((f_Bld_findSource_j130 (some (ad t)) (nI st) x ((nf N ((N.getD t []).take st ++ (rSf R).getD j [])).map ad) (fx_mk σ b F3)).map Sum.inr)) := by
        unfold f_Bld_findSource_b3
        simp (disch := omega) only [↓fx_bc, h1, u_le, n_leF, if_false, ↓bR_of rfl (show j < 2147483648 by omega) q1, t1, Option.bind_some, ↓cI_of hx]
        rw [if_neg hx1]
        simp only [↓fx_bc, ↓fc32, ↓cV_of a1, p1, Option.bind_some, ↓cI_of b1', t3, ↓cI_of hlen2, ↓cI_of d1', ↓cI_of hlen3, ↓cR_of hfd', show nI j + 1 = nI (j + 1) by rw [u_l1, u_add]]
      refine ⟨F3, d3, hcf3, fun K hK1 hK2 => ?_, fun k hk1 => ?_⟩
      · rw [hpre, hK1, hK2]
        exact if_pos rfl
      · have hkN : k < N.length := by
          have := sr_some (show sr _ _ _ = some k from hk1)
          omega
        refine ⟨hkN, ?_⟩
        rw [hpre, hk1]
        obtain ⟨e4, e2, e3⟩ := h.2.2.2 k hkN
        have hg4 := n_gI hn3 hkN (f := 4) ⟨by decide, by decide, by decide⟩
        rw [e4] at hg4
        obtain ⟨vk, hvk⟩ := n_fc hn3 hkN
        have hif := c_isFile hn3 hkN e2 e3
        rw [if_neg (show ¬ ((some k).map ad = none) from fun h => by cases h)]
        simp only [Option.map_some, hg4, Option.bind_some, hvk, ↓cI_of hif]
        by_cases er : rFl R 0 k = true
        · rw [if_neg (show ¬ nI (b2 (rFl R 0 k)) = 0 by rw [er]; decide), if_pos (Or.inl er)]
        · rw [if_pos (show nI (b2 (rFl R 0 k)) = 0 by rw [Bool.eq_false_iff.mpr er]; rfl)]
          by_cases ef : (f k).1 = 0
          · rw [decide_eq_false (fun h => h ef), if_pos (show nI (b2 false) = 0 from rfl), if_neg (fun h => h.elim er (fun h => h ef))]
          · rw [decide_eq_true ef, if_neg (show ¬ nI (b2 true) = 0 by decide), if_pos (Or.inr ef)]
    cases hxe : x_eidx (rEn R) ((rSf R).getD j [], s) with
    | none =>
      rw [hxe] at hco
      have hcn : x_cand R N f ((N.getD t []).take st) ((rSf R).getD j []) s = none := by
        unfold x_cand
        rw [hxe]
      refine hgo F (cf_refl _ _ _ _ _) hF hcn ?_
      unfold f_Bld_findSource_b3
      simp (disch := omega) only [↓fx_bc, h1, u_le, n_leF, if_false, ↓bR_of rfl (show j < 2147483648 by omega) q1, t1, Option.bind_some, ↓cI_of hco]
      rw [if_pos trivial, show nI j + 1 = nI (j + 1) by rw [u_l1, u_add]]
    | some e =>
      rw [hxe] at hco
      simp only at hco
      cases hge : ((rEn R).getD e (([], []), none)).2 with
      | none =>
        rw [hge] at hco
        have hcn : x_cand R N f ((N.getD t []).take st) ((rSf R).getD j []) s = none := by
          unfold x_cand
          rw [hxe]
          simp only
          rw [hge]
        refine hgo F (cf_refl _ _ _ _ _) hF hcn ?_
        unfold f_Bld_findSource_b3
        simp (disch := omega) only [↓fx_bc, h1, u_le, n_leF, if_false, ↓bR_of rfl (show j < 2147483648 by omega) q1, t1, Option.bind_some, ↓cI_of hco]
        rw [if_pos (show og (rCm R) none = -1 from rfl), show nI j + 1 = nI (j + 1) by rw [u_l1, u_add]]
      | some g =>
        rw [hge] at hco
        have hgn : ¬ og (rCm R) (some g) = -1 := fun h => by
          have := (og_ne hcm (x := some g) (fun g' hg' => by
            injection hg' with hg'
            subst hg'
            exact hg.2.2.1 e g hge)).mp h
          cases this
        obtain ⟨F3, c1, c2, c3, c4⟩ := hcand _ hco hgn
        cases hnf : nf N ((N.getD t []).take st ++ (rSf R).getD j []) with
        | none =>
          have hcn : x_cand R N f ((N.getD t []).take st) ((rSf R).getD j []) s = none := by
            unfold x_cand
            rw [hxe]
            simp only
            rw [hge]
            simp only
            rw [hnf]
          exact hgo F3 c2 c1 hcn (c3 _ hnf rfl)
        | some k =>
          obtain ⟨hkN, c5⟩ := c4 k hnf
          by_cases er : rFl R 0 k = true ∨ ¬ (f k).1 = 0
          · rw [if_pos er] at c5
            have hcn : x_cand R N f ((N.getD t []).take st) ((rSf R).getD j []) s = some (k, g) := by
              unfold x_cand
              rw [hxe]
              simp only
              rw [hge]
              simp only
              rw [hnf]
              simp only
              rw [if_pos er]
            have hn3 := nx_cf h.1 c2 (by decide) (by decide)
            obtain ⟨σ1, d1, d2, d3, d4⟩ := n_pI hn3 ht (f := 12) ⟨by decide, by decide, by decide⟩ (by decide) (og (rCm R) (some g))
            obtain ⟨σ2, e1, e2, e3, e4⟩ := n_pR d2 ht (some (ad k))
            obtain ⟨σ3, g1, g2, g3, g4⟩ := n_pI e2 ht (f := 15) ⟨by decide, by decide, by decide⟩ (by decide) (nI st)
            rw [fs_m]
            simp only [hcn]
            refine ⟨σ3, F3, _, _, rb_it_m (c5.trans ?_), c1, c2, g2, hx_trans d3 (hx_trans e3 g3), gw_trans d4 (gw_trans e4 g4), fun hx => (by cases hx), fun y hy => ?_⟩
            · unfold f_Bld_findSource_j130
              rw [d1, Option.bind_some, e1, Option.bind_some, g1, Option.bind_some]
              rfl
            · injection hy with hy
              subst hy
              exact ⟨rfl, rfl⟩
          · rw [if_neg er] at c5
            have hcn : x_cand R N f ((N.getD t []).take st) ((rSf R).getD j []) s = none := by
              unfold x_cand
              rw [hxe]
              simp only
              rw [hge]
              simp only
              rw [hnf]
              simp only
              rw [if_neg er]
            exact hgo F3 c2 c1 hcn c5
end
