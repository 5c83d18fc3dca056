/-! the class: cuts of texts, substrings -/
theorem nar_1 : ∀ c, c < 128 → (nI c).toInt8.toInt32 = nI c := by decide
theorem nar_b (c : Nat) (h : c < 128) : (((nI c).toInt8.toInt32).toInt8.toInt32) = nI c := by rw [nar_1 c h, nar_1 c h]
theorem nar_bv {c : Nat} (h : c < 128) : narrow (rb_aty 105) (.int ((nI c).toInt8.toInt32)) = .int (nI c) := by
  show Value.int (((nI c).toInt8.toInt32).toInt8.toInt32) = _
  rw [nar_b c h]
theorem fo_sI5 {σ : rb_St} {b : Nat} {F : fx_F} {q i c : Nat} {l : List Value} (h : wx b q) (hb : rb_b σ ≤ q) (hc : σ.1 q = (105, l)) (hi : i < l.length) (hi2 : i < 2147483648) (hcc : c < 128) : rb_sI (fx_mk σ b F) (some q) 105 (nI i) ((nI c).toInt8.toInt32) = some (fx_mk (upc σ q (105, l.set i (.int (nI c)))) b F) := by
  unfold rb_sI rb_sV
  simp only [Option.bind_some]
  have h1 : (fx_mk σ b F).1 q = σ.1 q := fx_out h
  rw [h1, hc, u_cl hi2, if_pos ⟨rfl, hb, by rw [u_l0, u_lt hi2 (by omega)]; omega, hi⟩, fx_set_out h, hc, nar_bv hcc]
theorem wr_all : ∀ (vs pre suf : List Value), suf.length = vs.length → rb_wr (pre ++ suf) pre.length vs = pre ++ vs
  | [], pre, suf, h => by
    have hz : suf = [] := List.eq_nil_of_length_eq_zero (by simpa using h)
    subst hz
    rfl
  | v :: vs, pre, suf, h => by
    cases suf with
    | nil => simp at h
    | cons x suf =>
      have ih := wr_all vs (pre ++ [v]) suf (by simpa using h)
      rw [rb_wr]
      have e : (pre ++ x :: suf).set pre.length v = (pre ++ [v]) ++ suf := by
        rw [List.set_append_right _ _ (Nat.le_refl _), Nat.sub_self]
        simp
      rw [e]
      rw [List.length_append] at ih
      refine Eq.trans ih ?_
      simp
theorem pick_map {row : List Int32} {p n : Nat} (h : p + n ≤ row.length) : rb_pick (row.map Value.int) p n = ((row.drop p).take n).map Value.int := by
  unfold rb_pick
  apply List.ext_getElem?
  intro i
  rw [List.getElem?_map]
  by_cases hi : i < n
  · rw [List.getElem?_range hi, List.getElem?_map, List.getElem?_take_of_lt hi, List.getElem?_drop]
    simp only [Option.map_some]
    rw [List.getD_eq_getElem?_getD, List.getElem?_map, List.getElem?_eq_getElem (show p + i < row.length by omega)]
    rfl
  · rw [List.getElem?_eq_none (by rw [List.length_range]; omega), List.getElem?_eq_none (by rw [List.length_map, List.length_take]; omega)]
    rfl
section
variable {σ : rb_St} {b : Nat} {F : fx_F} {o : Nat}
/-- the characters become bytes -/
theorem c_compress {A D : Nat} (hA : wx b A) (hD : wx b D) (hAD : A ≠ D) {w : List Nat} (hw : ∀ c, c ∈ w → c < 128) (hl : w.length ≤ 100000) : ∀ (m i : Nat) (σ : rb_St) (l : List Value), i + m = w.length → rb_b σ ≤ D → σ.1 A = (101, w.map (fun c => Value.int (nI c))) → σ.1 D = (105, l) → l.length = w.length → l.take i = (w.take i).map (fun c => Value.int (nI c)) → ∃ σ', rb_it (fun z : (Int32 × Int32 × Int32 × rb_St) => f_SU_compress2_b3 (some A) (z.1) (some D) (z.2.1) (nI w.length) (z.2.2.1) z.2.2.2) (nI i, nI i, nI i, fx_mk σ b F) = some (some (.int (nI w.length)), fx_mk σ' b F) ∧ σ'.1 D = (105, w.map (fun c => Value.int (nI c))) ∧ (∀ a, a ≠ D → σ'.1 a = σ.1 a) ∧ σ'.2 = σ.2 := by
  intro m
  induction m with
  | zero =>
    intro i σ l hi hb hcA hcD hll hpre
    refine ⟨σ, ?_, ?_, fun a _ => rfl, rfl⟩
    · refine rb_it_r ?_
      show f_SU_compress2_b3 _ _ _ _ _ _ _ = _
      unfold f_SU_compress2_b3
      simp (disch := omega) only [↓reduceIte, n_ltT, n_ltF, n_leT, n_leF, n_eqT, n_eqF, nI_1, u_lt, u_le, u_eq, u_add, u_ix, u_ixL, u_ixR, u_cl, u_nm1, u_nm1', u_m1l, u_m1n, u_l0, Option.bind_some, Option.map_some, not_true_eq_false, not_false_eq_true, true_and, and_true, Nat.add_sub_cancel, Bool.false_eq_true, u_nar2]
    · rw [hcD]
      rw [List.take_of_length_le (by omega), List.take_of_length_le (by omega)] at hpre
      rw [hpre]
  | succ m ih =>
    intro i σ l hi hb hcA hcD hll hpre
    have hiw : i < w.length := by omega
    have hc := hw _ (getD_mem (d := 0) hiw)
    have hrd : rb_aI (fx_mk σ b F) (some A) 101 (nI i) = some (nI (w.getD i 0)) := fo_aI hA hcA (by omega) (by rw [List.getElem?_map, List.getElem?_eq_getElem hiw, getD_get hiw]; rfl)
    have hwr := fo_sI5 (F := F) (i := i) hD hb hcD (by omega) (by omega) hc
    obtain ⟨σ', e1, e2, e3, e4⟩ := ih (i + 1) (upc σ D (105, l.set i (.int (nI (w.getD i 0))))) (l.set i (.int (nI (w.getD i 0)))) (by omega) hb (by rw [upc_ne hAD]; exact hcA) (upc_at _ _) (by rw [List.length_set]; exact hll) (by
      rw [take_succ (d := Value.null) (by rw [List.length_set]; omega), List.take_set_of_le (Nat.le_refl _), hpre, take_succ (d := 0) hiw, List.map_append]
      congr 1
      rw [List.getD_eq_getElem?_getD, List.getElem?_set_self (by omega)]
      rfl)
    refine ⟨σ', ?_, e2, fun a ha => (e3 a ha).trans (upc_ne ha), e4⟩
    rw [← e1]
    refine rb_it_l ?_
    show f_SU_compress2_b3 _ _ _ _ _ _ _ = _
    unfold f_SU_compress2_b3
    rw [if_neg (show ¬ nI w.length ≤ nI i by rw [u_le (by omega) (by omega)]; omega), hrd, Option.bind_some, if_pos (show nI (w.getD i 0) ≤ (255 : Int32) by rw [show (255 : Int32) = nI 255 from rfl]; exact nI_le (by omega) (by omega)), hwr, Option.bind_some]
    simp (disch := omega) only [↓reduceIte, n_ltT, n_ltF, n_leT, n_leF, n_eqT, n_eqF, nI_1, u_lt, u_le, u_eq, u_add, u_ix, u_ixL, u_ixR, u_cl, u_nm1, u_nm1', u_m1l, u_m1n, u_l0, Option.bind_some, Option.map_some, not_true_eq_false, not_false_eq_true, true_and, and_true, Nat.add_sub_cancel, Bool.false_eq_true, u_nar2]
/-- a string is made of a character array at A -/
theorem c_strInit {A : Nat} (hA : wx b A) (hnn : b + 83 ≤ rb_n σ) (hbb : rb_b σ ≤ b) {w : List Nat} (hw : ∀ c, c ∈ w → c < 128) (hl : w.length ≤ 100000) (h1 : 1 ≤ w.length) (hAn : A < rb_n σ) (hcA : σ.1 A = (101, w.map (fun c => Value.int (nI c)))) : ∃ σ', f_Str_init (rb_n σ) (some A) (rb_nO (fx_mk σ b F) 14) = some (none, fx_mk σ' b F) ∧ sx σ' b (rb_n σ) w ∧ hn σ σ' ∧ gw 2 (w.length + 4) σ σ' := by
  rw [fx_nO hnn]
  generalize hσ1 : nwc σ (14, rb_df 14) (rb_nS 14) = σ1
  have hn1 : rb_n σ1 = rb_n σ + 1 := by subst hσ1; rfl
  have hs1 : rb_s σ1 = rb_s σ + 4 := by subst hσ1; rfl
  have hb1 : rb_b σ1 = rb_b σ := by subst hσ1; rfl
  have hh1 : hn σ σ1 := by subst hσ1; exact hn_nwc _ _ _
  have c1 : σ1.1 (rb_n σ) = (14, rb_df 14) := by subst hσ1; exact nwc_at _ _
  have cA1 : σ1.1 A = (101, w.map (fun c => Value.int (nI c))) := by subst hσ1; rw [nwc_ne (by omega)]; exact hcA
  have hlen := fo_len (F := F) hA cA1
  rw [List.length_map] at hlen
  generalize hσ2 : nwc σ1 (105, List.replicate w.length (defaultValue (rb_aty 105))) w.length = σ2
  have hn2 : rb_n σ2 = rb_n σ + 2 := by subst hσ2; show rb_n σ1 + 1 = _; omega
  have hs2 : rb_s σ2 = rb_s σ + 4 + w.length := by subst hσ2; show rb_s σ1 + w.length = _; omega
  have hb2 : rb_b σ2 = rb_b σ := by subst hσ2; exact hb1
  have hh2 : hn σ1 σ2 := by subst hσ2; exact hn_nwc _ _ _
  have hD : wx b (rb_n σ1) := fun h => by omega
  have hN : wx b (rb_n σ) := fun h => by omega
  have c2 : σ2.1 (rb_n σ1) = (105, List.replicate w.length (defaultValue (rb_aty 105))) := by subst hσ2; exact nwc_at _ _
  have cA2 : σ2.1 A = (101, w.map (fun c => Value.int (nI c))) := by subst hσ2; rw [nwc_ne (by omega)]; exact cA1
  have cN2 : σ2.1 (rb_n σ) = (14, rb_df 14) := by subst hσ2; rw [nwc_ne (by omega)]; exact c1
  obtain ⟨σ3, e1, e2, e3, e4⟩ := c_compress (F := F) hA hD (show A ≠ rb_n σ1 by omega) hw hl w.length 0 σ2 _ (by omega) (by omega) cA2 c2 (by rw [List.length_replicate]) rfl
  have hb3 : rb_b σ3 = rb_b σ := by show σ3.2.1 = _; rw [e4]; exact hb2
  have hn3 : rb_n σ3 = rb_n σ + 2 := by show σ3.2.2.1 = _; rw [e4]; exact hn2
  have hs3 : rb_s σ3 = rb_s σ + 4 + w.length := by show σ3.2.2.2.1 = _; rw [e4]; exact hs2
  have hk3 : rb_k σ3 = rb_k σ := by show σ3.2.2.2.2 = _; rw [e4]; exact hh2.1.2.2.1.trans hh1.1.2.2.1
  have cN3 : σ3.1 (rb_n σ) = (14, rb_df 14) := by rw [e3 _ (by omega)]; exact cN2
  have hcomp : f_SU_compress (some A) (0 : Int32) (nI w.length) (fx_mk σ1 b F) = some (some (va_rf (some (rb_n σ1))), fx_mk σ3 b F) := by
    unfold f_SU_compress f_SU_compress2
    rw [fx_nA (by omega) hl, hσ2, Option.bind_some]
    have e1' : rb_it (fun z : (Int32 × Int32 × Int32 × rb_St) => f_SU_compress2_b3 (some A) (z.1) (some (rb_n (fx_mk σ1 b F))) (z.2.1) (nI w.length) (z.2.2.1) z.2.2.2) ((0 : Int32), (0 : Int32), (0 : Int32), fx_mk σ2 b F) = some (some (.int (nI w.length)), fx_mk σ3 b F) := e1
    rw [cI_of e1', if_pos rfl]
    rfl
  have hlen3 := fo_len (F := F) hD e2
  rw [List.length_map] at hlen3
  have hcoder : f_SU_coderFromArrayLen (some (rb_n σ1)) (nI w.length) (fx_mk σ3 b F) = some (some (.int (nI 0)), fx_mk σ3 b F) := by
    unfold f_SU_coderFromArrayLen
    rw [hlen3, Option.bind_some]
    have hz : ((((nI w.length - nI w.length).toUInt32 >>> ((31 : Int32).toUInt32 &&& Int32.toUInt32 31)).toInt32).toInt8.toInt32) = nI 0 := by
      rw [u_sub (Nat.le_refl _), Nat.sub_self]
      rfl
    rw [hz, if_pos (show rb_isB (nI 0) from Or.inl rfl)]
  have p1 := fo_pB (F := F) (k := 1) hN (show rb_b σ3 ≤ rb_n σ by omega) cN3 (by decide)
  generalize hσ4 : upc σ3 (rb_n σ) (14, (rb_df 14).set 1 (.int (nI 0))) = σ4 at p1
  have cN4 : σ4.1 (rb_n σ) = (14, (rb_df 14).set 1 (.int (nI 0))) := by subst hσ4; exact upc_at _ _
  have p2 := fo_pR (F := F) (k := 0) (r := some (rb_n σ1)) hN (show rb_b σ4 ≤ rb_n σ by subst hσ4; show rb_b σ3 ≤ _; omega) cN4 (by decide)
  refine ⟨upc σ4 (rb_n σ) (14, ((rb_df 14).set 1 (.int (nI 0))).set 0 (va_rf (some (rb_n σ1)))), ?_, ?_, ?_, ?_⟩
  · unfold f_Str_init f_Str_init2
    rw [hlen, Option.bind_some, if_neg (show ¬ nI w.length = 0 by rw [u_l0, u_eq (by omega) (by omega)]; omega), if_neg (show ¬ (1 : Int32) = 0 by decide), cR_of hcomp, cI_of hcoder, p1, Option.bind_some, p2, Option.bind_some]
    rfl
  · refine ⟨hN, ?_, rb_n σ1, [.int 0, .int 0], hD, ?_, ?_, ?_, hw, hl⟩
    · subst hσ4
      show rb_n σ < rb_n σ3
      omega
    · subst hσ4
      show rb_n σ1 < rb_n σ3
      omega
    · rw [upc_at]
      rfl
    · rw [upc_ne (by omega)]
      subst hσ4
      rw [upc_ne (by omega)]
      exact e2
  · have hold : ∀ a, a < rb_n σ → σ3.1 a = σ.1 a := fun a ha => by
      rw [e3 a (by omega), hh2.2 a (by omega), hh1.2 a ha]
    have hh3 : hn σ σ3 := ⟨⟨by omega, hb3, hk3, fun a ha _ => hold a ha⟩, hold⟩
    subst hσ4
    exact hn_upc (hn_upc hh3 (Nat.le_refl _)) (Nat.le_refl _)
  · subst hσ4
    refine ⟨?_, ?_⟩
    · show rb_n σ3 ≤ _
      omega
    · show rb_s σ3 ≤ _
      omega
/-- the constant texts -/
def kT (i : Nat) : List Nat := match i with
  | 0 => []
  | 1 => q_SUF
  | 2 => q_PHO
  | 3 => q_IGN
  | 4 => q_SIL
  | 5 => q_DEF
  | 6 => q_touch ++ [32]
  | 7 => q_true
  | 8 => q_echo
  | 9 => q_touch
  | 10 => q_rm
  | 11 => q_cp
  | 12 => q_cat
  | _ => [62]
def kx (σ : rb_St) (b : Nat) : Prop := rb_b σ ≤ b ∧ b + 83 ≤ rb_n σ ∧ ∀ i, i < 14 → sx σ b (rb_k σ i) (kT i)
theorem kx_hx {σ σ' : rb_St} {b : Nat} (h : kx σ b) (hh : hx σ σ') : kx σ' b := ⟨by rw [hh.2.1]; exact h.1, Nat.le_trans h.2.1 hh.1, fun i hi => by rw [hh.2.2.1]; exact sx_hx (h.2.2 i hi) hh⟩
theorem c_cut (ho : tO o) (hF : fx_ln F) (hk : kx σ b) {l : List Nat} (h : tw F o l) (hc : ∀ c, c ∈ l → c < 128) {p q : Nat} (hpq : p ≤ q) (hq : q ≤ l.length) : ∃ σ' a, f_Text_cut (some (fx_ad b o)) (nI p) (nI q) (fx_mk σ b F) = some (some (va_rf (some a)), fx_mk σ' b F) ∧ sx σ' b a (slc l p q) ∧ hn σ σ' ∧ gw 3 (2 * (q - p) + 4) σ σ' := by
  have hl := tw_len hF h
  have h400 := (tcap_le ho).1
  have hlen := slc_len (p := p) hq
  unfold f_Text_cut
  by_cases e : q ≤ p
  · have hz : slc l p q = [] := List.eq_nil_of_length_eq_zero (by omega)
    rw [hz]
    refine ⟨σ, rb_k σ 0, ?_, hk.2.2 0 (by decide), hn_refl _, gw_mono (gw_refl _) (by omega) (by omega)⟩
    simp (disch := omega) only [↓reduceIte, n_ltT, n_ltF, n_leT, n_leF, n_eqT, n_eqF, nI_1, u_lt, u_le, u_eq, u_add, u_ix, u_ixL, u_ixR, u_cl, u_nm1, u_nm1', u_m1l, u_m1n, u_l0, Option.bind_some, Option.map_some, not_true_eq_false, not_false_eq_true, true_and, and_true, Nat.add_sub_cancel, Bool.false_eq_true, u_nar2]
    rfl
  · have h1 : o + 1 < 83 := by rcases ho with h | h | h | h | h | h <;> subst h <;> decide
    have h3 : fx_t (o + 1) = 101 := by rcases ho with h | h | h | h | h | h <;> subst h <;> rfl
    have hrow : (F.2.1 (o + 1)).length = tcap o := hF.1 _
    generalize hσ1 : nwc σ (101, List.replicate (q - p) (defaultValue (rb_aty 101))) (q - p) = σ1
    have hA : wx b (rb_n σ) := fun h => by have := hk.2.1; omega
    have hn1 : rb_n σ1 = rb_n σ + 1 := by subst hσ1; rfl
    have hb1 : rb_b σ1 = rb_b σ := by subst hσ1; rfl
    have c1 : σ1.1 (rb_n σ) = (101, List.replicate (q - p) (defaultValue (rb_aty 101))) := by subst hσ1; exact nwc_at _ _
    have hpick : rb_pick ((F.2.1 (o + 1)).map Value.int) p (q - p) = (slc l p q).map (fun c => Value.int (nI c)) := by
      rw [pick_map (by omega)]
      have hrk : (F.2.1 (o + 1)).take l.length = l.map nI := h.2
      have : ((F.2.1 (o + 1)).drop p).take (q - p) = (slc l p q).map nI := by
        unfold slc
        rw [List.map_take, List.map_drop, ← hrk, List.drop_take, List.take_take, Nat.min_eq_left (by omega)]
      rw [this, List.map_map]
      rfl
    have hfit : ((slc l p q).map (fun c => Value.int (nI c))).all (fun v => fits (rb_aty 101) v) = true := by
      rw [List.all_eq_true]
      intro x hx
      obtain ⟨c, hcm, rfl⟩ := List.mem_map.mp hx
      have hc128 : c < 128 := by
        obtain ⟨i, _, _, e⟩ := slc_mem hq hcm
        rw [← e]
        exact hc _ (getD_mem (by omega))
      have := isC_n (c := c) (by omega)
      show (decide (0 ≤ nI c) && decide (nI c ≤ 65535)) = true
      rw [decide_eq_true this.1, decide_eq_true this.2]
      rfl
    have hcp : rb_cp (fx_mk σ1 b F) (some (fx_ad b (o + 1))) (some (rb_n σ)) 101 (nI p) (0 : Int32) (nI (q - p)) = some (fx_mk (upc σ1 (rb_n σ) (101, (slc l p q).map (fun c => Value.int (nI c)))) b F) := by
      unfold rb_cp
      rw [fx_fc h1 h3, fx_rA (by rw [h3]; decide)]
      simp only [Option.bind_some]
      have hx1 : (fx_mk σ1 b F).1 (rb_n σ) = σ1.1 (rb_n σ) := fx_out hA
      rw [hx1, c1, u_cl (by omega), u_cl (by omega), show (0 : Int32).toNatClampNeg = 0 from rfl, hpick]
      rw [if_pos ⟨rfl, by show rb_b σ1 ≤ _; have := hk.1; have := hk.2.1; omega, by rw [u_l0, u_lt (by omega) (by omega)]; omega, by decide, by rw [u_l0, u_lt (by omega) (by omega)]; omega, by rw [List.length_map]; omega, by rw [List.length_replicate]; omega, hfit⟩]
      · rw [fx_set_out hA, c1]
        have hwr := wr_all ((slc l p q).map (fun c => Value.int (nI c))) [] (List.replicate (q - p) (defaultValue (rb_aty 101))) (by rw [List.length_replicate, List.length_map]; omega)
        rw [List.nil_append, List.nil_append] at hwr
        rw [show ([] : List Value).length = 0 from rfl] at hwr
        rw [hwr]
    generalize hσ2 : upc σ1 (rb_n σ) (101, (slc l p q).map (fun c => Value.int (nI c))) = σ2 at hcp
    have hn2 : rb_n σ2 = rb_n σ + 1 := by subst hσ2; exact hn1
    have hb2 : rb_b σ2 = rb_b σ := by subst hσ2; exact hb1
    have hs2 : rb_s σ2 = rb_s σ + (q - p) := by subst hσ2; subst hσ1; rfl
    have c2 : σ2.1 (rb_n σ) = (101, (slc l p q).map (fun c => Value.int (nI c))) := by subst hσ2; exact upc_at _ _
    have hh2 : hn σ σ2 := by
      subst hσ2
      subst hσ1
      exact hn_upc (hn_nwc _ _ _) (Nat.le_refl _)
    have hw128 : ∀ c, c ∈ slc l p q → c < 128 := fun c hcm => by
      obtain ⟨i, _, _, e⟩ := slc_mem hq hcm
      rw [← e]
      exact hc _ (getD_mem (by omega))
    obtain ⟨σ3, a1, a2, a3, a4⟩ := c_strInit (F := F) (σ := σ2) (b := b) hA (by have := hk.2.1; omega) (by rw [hb2]; exact hk.1) hw128 (by omega) (by omega) (by omega) c2
    refine ⟨σ3, rb_n σ2, ?_, a2, hn_trans hh2 a3, ?_⟩
    · simp (disch := omega) only [↓t_b ho, h.1, u_sub, n_ltF, n_leF, n_leT, u_lt, u_le, u_l0, ↓reduceIte]
      rw [fx_nA hk.2.1 (by omega), hσ1, Option.bind_some]
      simp (disch := omega) only [↓t_b ho]
      have hcp' : rb_cp (fx_mk σ1 b F) (some (fx_ad b (o + 1))) (some (rb_n (fx_mk σ b F))) 101 (nI p) (nI 0) (nI (q - p)) = some (fx_mk σ2 b F) := hcp
      rw [hcp', Option.bind_some]
      have a1' : f_Str_init (rb_n (fx_mk σ2 b F)) (some (rb_n (fx_mk σ b F))) (rb_nO (fx_mk σ2 b F) 14) = some (none, fx_mk σ3 b F) := a1
      rw [cV_of a1']
      rfl
    · refine ⟨?_, ?_⟩
      · have := a4.1
        omega
      · have := a4.2
        omega
end
