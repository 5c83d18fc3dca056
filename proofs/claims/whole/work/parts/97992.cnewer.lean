/-! the class: options, and what is out of date -/
theorem has_key : ∀ w, w < 64 → ∀ i, i ∈ [1, 2, 4, 8, 16, 32] → decide ((nI w &&& nI i) = 0) = !op w i := by decide
section
variable {σ : rb_St} {b : Nat} {F : fx_F}
theorem c_has {w : Nat} (h : F.1 3105 = nI w) (hw : w < 64) {i : Nat} (hi : i ∈ [1, 2, 4, 8, 16, 32]) : f_Bld_has (some (fx_ad b 31)) (nI i) (fx_mk σ b F) = some (some (.int (nI (b2 (op w i)))), fx_mk σ b F) := by
  have hkey := has_key w hw i hi
  unfold f_Bld_has
  simp only [↓fx_bc, h]
  cases ho : op w i with
  | false =>
    rw [ho] at hkey
    rw [if_pos (of_decide_eq_true hkey)]
    rfl
  | true =>
    rw [ho] at hkey
    rw [if_neg (of_decide_eq_false hkey)]
    rfl
end
theorem take_app2 (l s : List Nat) (n : Nat) : ((l.take n) ++ s).take n = (l ++ s).take n := by
  rw [List.take_append, List.take_take, Nat.min_self, List.take_append]
  congr 1
  rw [List.length_take]
  by_cases h : l.length ≤ n
  · rw [Nat.min_eq_right h]
  · rw [Nat.min_eq_left (by omega), Nat.sub_self, show n - l.length = 0 by omega]
theorem join_app : ∀ (M : List (List Nat)) (s : List Nat), x_join (M ++ [s]) = if M = [] then s else x_join M ++ [32] ++ s
  | [], s => rfl
  | [a], s => by
    rw [if_neg (fun h => by cases h)]
    rfl
  | a :: c :: l, s => by
    have ih := join_app (c :: l) s
    rw [if_neg (fun h => by cases h)] at ih
    rw [if_neg (fun h => by cases h)]
    show a ++ [32] ++ x_join (c :: (l ++ [s])) = a ++ [32] ++ x_join (c :: l) ++ [32] ++ s
    have ih' : x_join (c :: (l ++ [s])) = x_join (c :: l) ++ [32] ++ s := ih
    rw [ih']
    simp only [List.append_assoc]
theorem join_ne {M : List (List Nat)} (h : M ≠ []) (hs : ∀ s, s ∈ M → 1 ≤ s.length) : 1 ≤ (x_join M).length := by
  match M, h, hs with
  | [], h, _ => exact absurd rfl h
  | [a], _, hs => exact hs a (List.mem_cons_self ..)
  | a :: c :: l, _, hs =>
    have := hs a (List.mem_cons_self ..)
    show 1 ≤ (a ++ [32] ++ x_join (c :: l)).length
    rw [List.length_append, List.length_append]
    omega
theorem join_c {M : List (List Nat)} (hs : ∀ s, s ∈ M → ∀ c, c ∈ s → c < 128) : ∀ c, c ∈ x_join M → c < 128 := by
  match M, hs with
  | [], _ => exact fun c hc => by cases hc
  | [a], hs => exact hs a (List.mem_cons_self ..)
  | a :: d :: l, hs =>
    intro c hc
    have hc' : c ∈ a ++ [32] ++ x_join (d :: l) := hc
    rcases List.mem_append.mp hc' with h | h
    · rcases List.mem_append.mp h with h | h
      · exact hs a (List.mem_cons_self ..) c h
      · rw [List.mem_singleton.mp h]; decide
    · exact join_c (M := d :: l) (fun s h1 => hs s (List.mem_cons_of_mem _ h1)) c h
theorem newer_map (N : List (List Nat)) (P : Nat → Bool) : ∀ ds : List Nat, x_newer N ds (ds.map P) = (ds.filter P).map (fun d => N.getD d [])
  | [] => rfl
  | d :: ds => by
    have ih := newer_map N P ds
    unfold x_newer at ih ⊢
    rw [List.map_cons, List.zip_cons_cons, List.filter_cons, List.filter_cons]
    by_cases e : P d = true
    · rw [if_pos e, if_pos (show ((d, P d).2 : Bool) = true from e), List.map_cons, List.map_cons, ih]
    · rw [if_neg e, if_neg (show ¬ ((d, P d).2 : Bool) = true from e), ih]
/-- newer than t -/
def nwP (S : BS) (t d : Nat) : Bool := decide (bG S d = 2) || decide ((pF S.1 t).1 < (pF S.1 d).1)
theorem nw_map (S : BS) (t : Nat) (ds : List Nat) : x_nw S t ds = ds.map (nwP S t) := (rfl)
theorem tO16 : tO 16 := Or.inr (Or.inr (Or.inl rfl))
theorem fc16 {σ : rb_St} {b : Nat} (G : fx_F) {β : Type} (f : List Value → Option β) : (rb_fc (fx_mk σ b G) (some (fx_ad b 16)) 2).bind f = f (fx_row b G 16) := (t_b tO16).1 f
/-- what the names hold in a build -/
def bnx (N : List (List Nat)) (I : Nat → Nat → Int32) (S : BS) : Prop := ∀ k, k < N.length → I k 10 = nI (bG S k) ∧ bG S k ≤ 3 ∧ I k 2 = nI (pF S.1 k).1 ∧ (pF S.1 k).1 < 2147483648
/-- the names that are newer, noted -/
def nt (F : fx_F) (N : List (List Nat)) (S : BS) (t : Nat) (ds : List Nat) : Prop := tw F 16 ((x_join ((ds.filter (nwP S t)).map (fun d => N.getD d []))).take 121)
section
variable {σ : rb_St} {b : Nat} {N : List (List Nat)} {ad : Nat → Nat} {I : Nat → Nat → Int32} {src : Nat → Option Nat} {S : BS}
theorem c_note {F : fx_F} (hb : rb_b σ ≤ b) (hF : fx_ln F) (hN : nok N) (h : nx σ b F N ad I src) (hB : bnx N I S) {t : Nat} (ht : t < N.length) {ds : List Nat} (hds : ∀ x, x ∈ ds → x < N.length) (hn : nt F N S t ds) {d : Nat} (hd : d < N.length) : ∃ F', f_Bld_noteIfNewer (some (fx_ad b 31)) (some (ad d)) (some (ad t)) (fx_mk σ b F) = some (some (.int (nI (b2 (nwP S t d)))), fx_mk σ b F') ∧ fx_ln F' ∧ cf [1601] [17] [] [] F F' ∧ nt F' N S t (ds ++ [d]) := by
  have g10 := n_gI h hd (f := 10) ⟨by decide, by decide, by decide⟩
  have g2 := n_gI h hd (f := 2) ⟨by decide, by decide, by decide⟩
  have g2t := n_gI h ht (f := 2) ⟨by decide, by decide, by decide⟩
  obtain ⟨d10, d3, d2, dlt⟩ := hB d hd
  obtain ⟨_, _, t2, tlt⟩ := hB t ht
  rw [d10] at g10
  rw [d2] at g2
  rw [t2] at g2t
  have hsp := sp_ok (hN.2 d hd)
  by_cases e : nwP S t d = true
  · have hfil : (ds ++ [d]).filter (nwP S t) = ds.filter (nwP S t) ++ [d] := by
      rw [List.filter_append, List.filter_cons, if_pos e, List.filter_nil]
    have hj25 : ∃ F', f_Bld_noteIfNewer_j25 (some (fx_ad b 31)) (some (ad d)) (fx_mk σ b F) = some (some (.int 1), fx_mk σ b F') ∧ fx_ln F' ∧ cf [1601] [17] [] [] F F' ∧ nt F' N S t (ds ++ [d]) := by
      have hj51 : ∀ (F1 : fx_F) (l : List Nat), fx_ln F1 → cf [1601] [17] [] [] F F1 → tw F1 16 l → ∃ F', f_Bld_noteIfNewer_j51 (some (fx_ad b 31)) (some (ad d)) (fx_mk σ b F1) = some (some (.int 1), fx_mk σ b F') ∧ fx_ln F' ∧ cf [1601] [17] [] [] F F' ∧ tw F' 16 ((l ++ N.getD d []).take 121) := by
        intro F1 l f1 f2 f3
        have h1 := nx_cf h f2 (by decide) (by decide)
        obtain ⟨s, p1, p2⟩ := n_sp h1 hd
        obtain ⟨v, hv⟩ := sx_fc p2
        have hlen := c_len (F := F1) p2
        obtain ⟨F2, a1, a2, a3, a4⟩ := c_addPartF (F := F1) tO16 hb p2 (p := 0) (q := (N.getD d []).length) (Nat.zero_le _) (Nat.le_refl _) f1 f3
        rw [slc_all] at a2
        have a1' : f_Text_addPart (some (fx_ad b 16)) (some s) (0 : Int32) (nI (N.getD d []).length) (fx_mk σ b F1) = _ := a1
        refine ⟨F2, ?_, a3, cf_trans f2 (cf_fr a4), a2⟩
        unfold f_Bld_noteIfNewer_j51
        simp only [↓fx_bc, p1, hv, Option.bind_some, ↓cI_of hlen, ↓fc16, ↓cI_of a1']
      have hlen := c_tlen (σ := σ) (b := b) tO16 hn
      by_cases em : ds.filter (nwP S t) = []
      · have hn' : tw F 16 [] := by
          unfold nt at hn
          rw [em] at hn
          exact hn
        obtain ⟨F2, a1, a2, a3, a4⟩ := hj51 F [] hF (cf_refl _ _ _ _ _) hn'
        refine ⟨F2, ?_, a2, a3, ?_⟩
        · unfold f_Bld_noteIfNewer_j25
          rw [em] at hlen
          have hlen' : f_Text_length (some (fx_ad b 16)) (fx_mk σ b F) = some (some (.int (nI 0)), fx_mk σ b F) := hlen
          simp only [↓fx_bc, ↓fc16, ↓cI_of hlen']
          rw [if_pos (show nI 0 ≤ (0 : Int32) by decide)]
          exact a1
        · unfold nt
          rw [hfil, em]
          exact a4
      · have hne : (ds.filter (nwP S t)).map (fun d => N.getD d []) ≠ [] := fun h => em (List.map_eq_nil_iff.mp h)
        have hjl := join_ne hne (fun s hs => by
          obtain ⟨x, x1, x2⟩ := List.mem_map.mp hs
          rw [← x2]
          exact (sp_ok (hN.2 x (hds x (List.mem_filter.mp x1).1))).1)
        obtain ⟨F1, c1, c2, c3, c4⟩ := c_add (σ := σ) (b := b) tO16 hb hF hn (c := 32) (by decide)
        have c1' : f_Text_add (some (fx_ad b 16)) (32 : Int32) (fx_mk σ b F) = _ := c1
        obtain ⟨F2, a1, a2, a3, a4⟩ := hj51 F1 _ c3 (cf_fr c4) c2
        refine ⟨F2, ?_, a2, a3, ?_⟩
        · unfold f_Bld_noteIfNewer_j25
          simp only [↓fx_bc, ↓fc16, ↓cI_of hlen]
          rw [if_neg (show ¬ nI ((x_join ((ds.filter (nwP S t)).map (fun d => N.getD d []))).take 121).length ≤ (0 : Int32) by
            have hl121 : ((x_join ((ds.filter (nwP S t)).map (fun d => N.getD d []))).take 121).length ≤ 121 := by rw [List.length_take]; omega
            rw [u_l0, u_le (by omega) (by omega), List.length_take]
            omega)]
          simp only [↓fx_bc, ↓fc16, ↓cI_of c1']
          exact a1
        · unfold nt
          rw [hfil, List.map_append, show [d].map (fun d => N.getD d []) = [N.getD d []] from rfl, join_app, if_neg hne]
          have hsp1 : (if ((x_join ((ds.filter (nwP S t)).map (fun d => N.getD d []))).take 121).length < tcap 16 then (x_join ((ds.filter (nwP S t)).map (fun d => N.getD d []))).take 121 ++ [32] else (x_join ((ds.filter (nwP S t)).map (fun d => N.getD d []))).take 121) = (x_join ((ds.filter (nwP S t)).map (fun d => N.getD d [])) ++ [32]).take 121 := by
            rw [show tcap 16 = 121 from rfl, ← take_app2]
            by_cases el : ((x_join ((ds.filter (nwP S t)).map (fun d => N.getD d []))).take 121).length < 121
            · rw [if_pos el]
              exact (List.take_of_length_le (by rw [List.length_append, List.length_cons, List.length_nil]; omega)).symm
            · rw [if_neg el, List.take_append, List.take_take, Nat.min_self, show 121 - ((x_join ((ds.filter (nwP S t)).map (fun d => N.getD d []))).take 121).length = 0 by omega, List.take_zero, List.append_nil]
          rw [hsp1, take_app2] at a4
          exact a4
    obtain ⟨F', a1, a2, a3, a4⟩ := hj25
    refine ⟨F', ?_, a2, a3, a4⟩
    unfold f_Bld_noteIfNewer
    rw [if_neg (show ¬ (some (ad d) = none) from fun h => by cases h), g10, Option.bind_some, e]
    unfold nwP at e
    by_cases e2 : bG S d = 2
    · rw [if_pos (show nI (bG S d) = (2 : Int32) by rw [e2]; rfl), a1]
      rfl
    · rw [decide_eq_false e2, Bool.false_or] at e
      have elt := of_decide_eq_true e
      rw [if_neg (show ¬ nI (bG S d) = (2 : Int32) by rw [u_l2, u_eq (by omega) (by omega)]; exact e2), g2, Option.bind_some, g2t, Option.bind_some, if_pos (show nI (pF S.1 t).1 < nI (pF S.1 d).1 by rw [u_lt (by omega) (by omega)]; exact elt), a1]
      rfl
  · have hfil : (ds ++ [d]).filter (nwP S t) = ds.filter (nwP S t) := by
      rw [List.filter_append, List.filter_cons, if_neg e, List.filter_nil, List.append_nil]
    refine ⟨F, ?_, hF, cf_refl _ _ _ _ _, by unfold nt; rw [hfil]; exact hn⟩
    have e' := Bool.eq_false_iff.mpr e
    unfold f_Bld_noteIfNewer
    rw [if_neg (show ¬ (some (ad d) = none) from fun h => by cases h), g10, Option.bind_some, e']
    unfold nwP at e'
    rw [Bool.or_eq_false_iff] at e'
    have e2 := of_decide_eq_false e'.1
    have e3 := of_decide_eq_false e'.2
    rw [if_neg (show ¬ nI (bG S d) = (2 : Int32) by rw [u_l2, u_eq (by omega) (by omega)]; exact e2), g2, Option.bind_some, g2t, Option.bind_some, if_neg (show ¬ nI (pF S.1 t).1 < nI (pF S.1 d).1 by rw [u_lt (by omega) (by omega)]; exact e3)]
    rfl
/-- the prerequisites of t among the first ones from j -/
def prt2 (Pr : List (Nat × Nat)) (t : Nat) : List Nat := Pr.filterMap (fun x => if x.1 = t then some x.2 else none)
theorem prt2_c (x : Nat × Nat) (Pr : List (Nat × Nat)) (t : Nat) : prt2 (x :: Pr) t = if x.1 = t then x.2 :: prt2 Pr t else prt2 Pr t := by
  unfold prt2
  rw [List.filterMap_cons]
  by_cases e : x.1 = t
  · rw [if_pos e, if_pos e]
  · rw [if_neg e, if_neg e]
theorem c_outLoop (hb : rb_b σ ≤ b) (hN : nok N) (hB : bnx N I S) {t : Nat} (ht : t < N.length) {ph1 : Bool} (h5 : I t 5 = nI (b2 ph1)) {Pr : List (Nat × Nat)} (hPr : ∀ i, i < Pr.length → (Pr.getD i (0, 0)).1 < N.length ∧ (Pr.getD i (0, 0)).2 < N.length) (h80 : Pr.length ≤ 80) : ∀ (m j : Nat) (F : fx_F) (ds : List Nat), j + m = Pr.length → fx_ln F → nx σ b F N ad I src → cr4 F Pr ad → (∀ x, x ∈ ds → x < N.length) → nt F N S t ds → ∃ F', rb_it (fun z : (Int32 × Int32 × rb_St) => f_Bld_isOutOfDate_b22 (some (fx_ad b 31)) (some (ad t)) (z.1) (z.2.1) z.2.2) (nI (b2 (ds.any (nwP S t))), nI j, fx_mk σ b F) = some (some (.int (nI (b2 ((ds ++ prt2 (Pr.drop j) t).any (nwP S t) || ph1 || decide ((pF S.1 t).1 = 0))))), fx_mk σ b F') ∧ fx_ln F' ∧ cf [1601] [17] [] [] F F' ∧ nt F' N S t (ds ++ prt2 (Pr.drop j) t) := by
  intro m
  induction m with
  | zero =>
    intro j F ds hj hF h h4 hds hn
    rw [List.drop_eq_nil_of_le (by omega), show prt2 [] t = [] from rfl, List.append_nil]
    refine ⟨F, rb_it_m ?_, hF, cf_refl _ _ _ _ _, hn⟩
    have g5 := n_gI h ht (f := 5) ⟨by decide, by decide, by decide⟩
    rw [h5] at g5
    obtain ⟨_, _, t2, tlt⟩ := hB t ht
    obtain ⟨v, hv⟩ := n_fc h ht
    have hif := c_isFile h ht t2 tlt
    show f_Bld_isOutOfDate_b22 _ _ _ _ _ = _
    unfold f_Bld_isOutOfDate_b22
    simp only [↓fx_bc, h4.1, g5, Option.bind_some, hv, ↓cI_of hif]
    rw [if_pos (nI_le (by omega) (by omega))]
    congr 1
    cases ds.any (nwP S t)
    · rw [if_pos (show nI (b2 false) = 0 from rfl)]
      cases ph1
      · rw [if_pos (show nI (b2 false) = 0 from rfl)]
        by_cases e0 : (pF S.1 t).1 = 0
        · rw [decide_eq_false (fun h => h e0), if_pos (show nI (b2 false) = 0 from rfl), decide_eq_true e0]
          rfl
        · rw [decide_eq_true e0, if_neg (show ¬ nI (b2 true) = 0 by decide), decide_eq_false e0]
          rfl
      · rw [if_neg (show ¬ nI (b2 true) = 0 by decide)]
        rfl
    · rw [if_neg (show ¬ nI (b2 true) = 0 by decide)]
      rfl
  | succ m ih =>
    intro j F ds hj hF h h4 hds hn
    have hjl : j < Pr.length := by omega
    have hle : ¬ Pr.length ≤ j := by omega
    obtain ⟨r1, r2⟩ := h4.2 j hjl
    obtain ⟨n1, n2⟩ := hPr j hjl
    rw [List.drop_eq_getElem_cons hjl, prt2_c, ← getD_get (d := (0, 0)) hjl]
    by_cases e : (Pr.getD j (0, 0)).1 = t
    · rw [if_pos e]
      obtain ⟨F1, a1, a2, a3, a4⟩ := c_note hb hF hN h hB ht hds hn n2
      have hds1 : ∀ x, x ∈ ds ++ [(Pr.getD j (0, 0)).2] → x < N.length := fun x hx => by
        rcases List.mem_append.mp hx with hx | hx
        · exact hds x hx
        · rw [List.mem_singleton.mp hx]; exact n2
      obtain ⟨F2, c1, c2, c3, c4⟩ := ih (j + 1) F1 (ds ++ [(Pr.getD j (0, 0)).2]) (by omega) a2 (nx_cf h a3 (by decide) (by decide)) (cr4_cf h4 a3 (by decide) (by decide) (by decide)) hds1 a4
      rw [List.append_assoc] at c1 c4
      refine ⟨F2, (rb_it_l ?_).trans c1, c2, cf_trans a3 c3, c4⟩
      show f_Bld_isOutOfDate_b22 _ _ _ _ _ = _
      unfold f_Bld_isOutOfDate_b22
      simp (disch := omega) only [↓fx_bc, h4.1, u_le, n_leF, if_false, ↓bR_of rfl (show j < 2147483648 by omega) r1, ↓bR_of rfl (show j < 2147483648 by omega) r2, ↓cI_of a1]
      rw [if_pos (by rw [e]), List.any_append, show [(Pr.getD j (0, 0)).2].any (nwP S t) = nwP S t (Pr.getD j (0, 0)).2 by simp, show nI j + 1 = nI (j + 1) by rw [u_l1, u_add]]
      cases nwP S t (Pr.getD j (0, 0)).2
      · rw [if_pos (show nI (b2 false) = 0 from rfl), Bool.or_false]
        cases ds.any (nwP S t)
        · rw [if_pos (show nI (b2 false) = 0 from rfl)]
          rfl
        · rw [if_neg (show ¬ nI (b2 true) = 0 by decide)]
          rfl
      · rw [if_neg (show ¬ nI (b2 true) = 0 by decide), Bool.or_true]
        rfl
    · rw [if_neg e]
      obtain ⟨F2, c1, c2, c3, c4⟩ := ih (j + 1) F ds (by omega) hF h h4 hds hn
      refine ⟨F2, (rb_it_l ?_).trans c1, c2, c3, c4⟩
      show f_Bld_isOutOfDate_b22 _ _ _ _ _ = _
      unfold f_Bld_isOutOfDate_b22
      simp (disch := omega) only [↓fx_bc, h4.1, u_le, n_leF, if_false, ↓bR_of rfl (show j < 2147483648 by omega) r1]
      rw [if_neg (show ¬ (some (ad (Pr.getD j (0, 0)).1) = some (ad t)) from fun hc => e (h.2.2 _ _ n1 ht (by injection hc)))]
      rw [show nI j + 1 = nI (j + 1) by rw [u_l1, u_add]]
theorem c_outOfDate {F : fx_F} (hb : rb_b σ ≤ b) (hF : fx_ln F) (hN : nok N) (h : nx σ b F N ad I src) (hB : bnx N I S) {t : Nat} (ht : t < N.length) {R : RS} (h5 : I t 5 = nI (b2 (rFl R 1 t))) (h4 : cr4 F (rPr R) ad) (hPr : ∀ i, i < (rPr R).length → ((rPr R).getD i (0, 0)).1 < N.length ∧ ((rPr R).getD i (0, 0)).2 < N.length) (h80 : (rPr R).length ≤ 80) {ch : CH} (hsrc : src t = ch.2.1.map (fun x => ad x.1)) (hch : ∀ x, ch.2.1 = some x → x.1 < N.length) : ∃ F', f_Bld_isOutOfDate (some (fx_ad b 31)) (some (ad t)) (fx_mk σ b F) = some (some (.int (nI (b2 (decide ((pF S.1 t).1 = 0 ∨ rFl R 1 t = true ∨ true ∈ x_nw S t (x_deps R ch t)))))), fx_mk σ b F') ∧ fx_ln F' ∧ cf [1601] [17] [] [] F F' ∧ tw F' 16 ((x_join (x_newer N (x_deps R ch t) (x_nw S t (x_deps R ch t)))).take 121) := by
  obtain ⟨F1, a1, a2, a3, a4⟩ := c_clear (σ := σ) (b := b) (F := F) tO16 hb hF
  have hcf1 := cf_fr a4
  have h1 := nx_cf h hcf1 (by decide) (by decide)
  have hs1 := n_src h1 ht
  rw [hsrc] at hs1
  have hnt0 : nt F1 N S t [] := a2
  -- the source
  have hso : ∃ F2 ds, fx_ln F2 ∧ cf [1601] [17] [] [] F F2 ∧ nt F2 N S t ds ∧ (∀ x, x ∈ ds → x < N.length) ∧ ds = (match ch.2.1 with | some x => [x.1] | none => []) ∧ f_Bld_noteIfNewer (some (fx_ad b 31)) (ch.2.1.map (fun x => ad x.1)) (some (ad t)) (fx_mk σ b F1) = some (some (.int (nI (b2 (ds.any (nwP S t))))), fx_mk σ b F2) := by
    cases hc : ch.2.1 with
    | none =>
      refine ⟨F1, [], a3, hcf1, hnt0, fun x hx => (by cases hx), rfl, ?_⟩
      unfold f_Bld_noteIfNewer
      rw [if_pos (show Option.map (fun x : Nat × List Nat => ad x.1) none = none from rfl)]
      rfl
    | some x =>
      obtain ⟨F2, c1, c2, c3, c4⟩ := c_note hb a3 hN h1 hB ht (ds := []) (fun x hx => (by cases hx)) hnt0 (hch x hc)
      refine ⟨F2, [x.1], c2, cf_trans hcf1 c3, c4, fun y hy => ?_, rfl, ?_⟩
      · rw [List.mem_singleton.mp hy]
        exact hch x hc
      · have : [x.1].any (nwP S t) = nwP S t x.1 := by simp
        rw [this]
        exact c1
  obtain ⟨F2, ds, c1, c2, c3, c4, c5, c6⟩ := hso
  obtain ⟨F3, d1, d2, d3, d4⟩ := c_outLoop (F := F2) hb hN hB ht h5 hPr h80 (rPr R).length 0 ds (by omega) c1 (nx_cf h c2 (by decide) (by decide)) (cr4_cf h4 c2 (by decide) (by decide) (by decide)) c4 c3
  rw [List.drop_zero] at d1 d4
  have hdeps : x_deps R ch t = ds ++ prt2 (rPr R) t := by
    rw [c5]
    rfl
  refine ⟨F3, ?_, d2, cf_trans c2 d3, ?_⟩
  · have hval : ((ds ++ prt2 (rPr R) t).any (nwP S t) || rFl R 1 t || decide ((pF S.1 t).1 = 0)) = decide ((pF S.1 t).1 = 0 ∨ rFl R 1 t = true ∨ true ∈ x_nw S t (x_deps R ch t)) := by
      rw [hdeps, nw_map]
      have hany : (ds ++ prt2 (rPr R) t).any (nwP S t) = decide (true ∈ (ds ++ prt2 (rPr R) t).map (nwP S t)) := by
        generalize ds ++ prt2 (rPr R) t = L
        by_cases e : true ∈ L.map (nwP S t)
        · rw [decide_eq_true e]
          obtain ⟨x, x1, x2⟩ := List.mem_map.mp e
          exact List.any_eq_true.mpr ⟨x, x1, x2⟩
        · rw [decide_eq_false e]
          exact Bool.eq_false_iff.mpr (fun h => e (by
            obtain ⟨x, x1, x2⟩ := List.any_eq_true.mp h
            exact List.mem_map.mpr ⟨x, x1, x2⟩))
      rw [hany]
      by_cases p0 : (pF S.1 t).1 = 0 <;> by_cases p1 : rFl R 1 t = true <;> by_cases p2 : true ∈ (ds ++ prt2 (rPr R) t).map (nwP S t) <;> simp [p0, p1, p2]
    rw [hval] at d1
    unfold f_Bld_isOutOfDate
    simp only [↓fx_bc, ↓fc16, ↓cV_of a1, hs1, Option.bind_some, ↓cI_of c6]
    exact d1
  · rw [nw_map, newer_map, hdeps]
    exact d4
end
