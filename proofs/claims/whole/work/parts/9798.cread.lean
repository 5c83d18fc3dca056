/-! the class: a text is read -/
def nxl (N : List (List Nat)) (ad : Nat → Nat) (I : Nat → Nat → Int32) (N' : List (List Nat)) (ad' : Nat → Nat) (I' : Nat → Nat → Int32) : Prop := N.length ≤ N'.length ∧ (∀ k, k < N.length → N'.getD k [] = N.getD k [] ∧ ad' k = ad k ∧ ∀ f, f ∈ [2, 3, 11] → I' k f = I k f) ∧ ∀ k, N.length ≤ k → k < N'.length → ∀ f, f ∈ [2, 3, 11] → I' k f = 0
theorem nxl_trans {N ad I N1 ad1 I1 N2 ad2 I2} (h1 : nxl N ad I N1 ad1 I1) (h2 : nxl N1 ad1 I1 N2 ad2 I2) : nxl N ad I N2 ad2 I2 := by
  refine ⟨Nat.le_trans h1.1 h2.1, fun k hk => ?_, fun k hk hk2 f hf => ?_⟩
  · obtain ⟨a1, a2, a3⟩ := h1.2.1 k hk
    obtain ⟨b1, b2, b3⟩ := h2.2.1 k (Nat.lt_of_lt_of_le hk h1.1)
    exact ⟨b1.trans a1, b2.trans a2, fun f hf => (b3 f hf).trans (a3 f hf)⟩
  · by_cases e : k < N1.length
    · rw [(h2.2.1 k e).2.2 f hf]
      exact h1.2.2 k hk e f hf
    · exact h2.2.2 k (by omega) hk2 f hf
theorem m3_4 {f : Nat} (h : f ∈ [2, 3, 11]) : f ∈ [2, 3, 10, 11] := by
  have : f = 2 ∨ f = 3 ∨ f = 11 := by simpa using h
  rcases this with e | e | e <;> subst e <;> decide
theorem nxl_nxr {N ad I N' ad' I'} (h : nxr N ad I N' ad' I') : nxl N ad I N' ad' I' := ⟨h.1, fun k hk => ⟨(h.2.1 k hk).1, (h.2.1 k hk).2.1, fun f hf => (h.2.1 k hk).2.2 f (m3_4 hf)⟩, fun k h1 h2 f hf => h.2.2 k h1 h2 f (m3_4 hf)⟩
theorem nxl_fg {N : List (List Nat)} {ad : Nat → Nat} {I I' : Nat → Nat → Int32} (h : ∀ k, k < N.length → I' k = nfg (I k)) : nxl N ad I N ad I' := ⟨Nat.le_refl _, fun k hk => ⟨rfl, rfl, fun f hf => by
  rw [h k hk]
  have : f = 2 ∨ f = 3 ∨ f = 11 := by simpa using hf
  rcases this with e | e | e <;> subst e <;> rfl⟩, fun k h1 h2 => absurd h2 (by omega)⟩
def rld (σ : rb_St) (b : Nat) (F : fx_F) (N : List (List Nat)) (ad : Nat → Nat) (I : Nat → Nat → Int32) (n s : Nat) (R : RS) (σ' : rb_St) (F' : fx_F) : Prop := ∃ ad' I' src', nx σ' b F' (rN R) ad' I' src' ∧ nxl N ad I (rN R) ad' I' ∧ hx σ σ' ∧ gw n s σ σ' ∧ cf zQi zQa zQr zQq F F' ∧ fx_ln F' ∧ lg F' ∧ cr σ' b F' R ad' I' ∧ rd F' R I' ∧ gin R ∧ ∀ k, k < (rN R).length → I' k 10 = 0
theorem rld_pre {σ σ1 σ' : rb_St} {b : Nat} {F F1 F' : fx_F} {N N1 : List (List Nat)} {ad ad1 : Nat → Nat} {I I1 : Nat → Nat → Int32} {n0 s0 n s m t : Nat} {R : RS} (hx0 : hx σ σ1) (hg : gw n0 s0 σ σ1) (hf : cf zQi zQa zQr zQq F F1) (hN : nxl N ad I N1 ad1 I1) (h : rld σ1 b F1 N1 ad1 I1 n s R σ' F') (hm : n0 + n ≤ m) (ht : s0 + s ≤ t) : rld σ b F N ad I m t R σ' F' := by
  obtain ⟨ad', I', src', h1, h2, h3, h4, h5, h6⟩ := h
  exact ⟨ad', I', src', h1, nxl_trans hN h2, hx_trans hx0 h3, gw_mono (gw_trans hg h4) hm ht, cf_trans hf h5, h6⟩
section
variable {b : Nat} {gv : Nat → Option (List Nat)} {d : List Nat}
theorem rs_next {σ σ' : rb_St} {F F' : fx_F} {R R' : RS} {ad ad' : Nat → Nat} {I I' : Nat → Nat → Int32} {src src' : Nat → Option Nat} (hr : rs σ b F R ad I src gv) (hin : rin R') (hh : hx σ σ') (hf : cf zQi zQa zQr zQq F F') (hF : fx_ln F') (hlg : lg F') (hc : cr σ' b F' R' ad' I') (hd : rd F' R' I') (hg : gin R') (hn : nx σ' b F' (rN R') ad' I' src') : rs σ' b F' R' ad' I' src' gv := by
  obtain ⟨hk, _, _, _, _, _, _, _, hv, hgv⟩ := hr
  exact ⟨kx_hx hk hh, hF, hlg, hin, hc, hd, hg, hn, vx_hx hv hh (hf.2.2.2.2 18 (by decide)), hgv⟩
theorem rd_cf {zi za zr zq : List Nat} {F F' : fx_F} {R : RS} {I : Nat → Nat → Int32} (h : rd F R I) (hf : cf zi za zr zq F F') (h1 : 2805 ∉ zi) (h2 : 2806 ∉ zi) (h3 : 2807 ∉ zi) : rd F' R I := ⟨by rw [hf.1 2805 h1]; exact h.1, fun e => by rw [hf.1 2807 h3]; exact h.2.1 e, fun e => by rw [hf.1 2806 h2]; exact h.2.2.1 e, h.2.2.2⟩
theorem rs_29 {σ : rb_St} {F F' : fx_F} {R : RS} {ad : Nat → Nat} {I : Nat → Nat → Int32} {src : Nat → Option Nat} (hr : rs σ b F R ad I src gv) (hf : fr [2901] [30] [] F F') (hF : fx_ln F') : rs σ b F' R ad I src gv := by
  have hcf := cf_fr hf
  obtain ⟨hk, _, hlg, hin, hc, hd, hg, hn, hv, hgv⟩ := hr
  exact ⟨hk, hF, lg_cf hlg hcf (by decide), hin, cr_hx hc (hx_refl _) hcf (by decide) (by decide) (by decide) (by decide), rd_cf hd hcf (by decide) (by decide) (by decide), hg, nx_cf hn hcf (by decide) (by decide), vx_hx hv (hx_refl _) (hcf.2.2.2.2 18 (by decide)), hgv⟩
theorem tO1 : tO 1 := Or.inl rfl
theorem fc1 {σ : rb_St} (G : fx_F) {β : Type} (f : List Value → Option β) : (rb_fc (fx_mk σ b G) (some (fx_ad b 1)) 2).bind f = f (fx_row b G 1) := (t_b tO1).1 f
/-- a line read in the loop -/
theorem c_readLine1 {σ : rb_St} {F : fx_F} {R : RS} {ad : Nat → Nat} {I : Nat → Nat → Int32} {src : Nat → Option Nat} (hr : rs σ b F R ad I src gv) (h10 : ∀ k, k < (rN R).length → I k 10 = 0) (hnu : rNu R 0 < 1000) {l : List Nat} (hl : tw F 29 l) (htk : tk l) (n nu i : Nat) : (x_line gv R l).1 = true ∧ (∃ σ' F' ad' I' src', f_Reader_read_j107 (some (fx_ad b 28)) (some (fx_ad b 1)) (nI n) (nI nu) (nI i) (fx_mk σ b F) = some (.inl (nI (n + 1), nI (n + 1 + 1), nI (i + 1), fx_mk σ' b F')) ∧ rs σ' b F' (x_line gv R l).2 ad' I' src' gv ∧ nxl (rN R) ad I (rN (x_line gv R l).2) ad' I' ∧ (∀ k, k < (rN (x_line gv R l).2).length → I' k 10 = 0) ∧ hx σ σ' ∧ gw (150 * (l.length + 1)) (10500 * (l.length + 1)) σ σ' ∧ cf zQi zQa zQr zQq F F' ∧ tw F' 29 [] ∧ rNu (x_line gv R l).2 0 ≤ rNu R 0 + 1) ∨ (x_line gv R l).1 = false ∧ (∃ σ' F', f_Reader_read_j107 (some (fx_ad b 28)) (some (fx_ad b 1)) (nI n) (nI nu) (nI i) (fx_mk σ b F) = some (.inr (some (.int (-(nI nu))), fx_mk σ' b F')) ∧ rld σ b F (rN R) ad I (150 * (l.length + 1)) (10500 * (l.length + 1)) (r0 (rN (x_line gv R l).2)) σ' F') := by
  have hll := tw_len hr.2.1 hl
  rw [show tcap 29 = 320 from rfl] at hll
  have hxin := x_line_in (gv := gv) hr.2.2.2.1 hnu htk hll
  obtain ⟨σ1, F1, a1, ad1, I1, src1, a2, a3, a4, a5, a6, a7, a8, a9⟩ := c_line hr hnu hl htk
  have h101 : ∀ k, k < (rN (x_line gv R l).2).length → I1 k 10 = 0 := by
    intro k hk
    by_cases e : k < (rN R).length
    · rw [(a3.2.1 k e).2.2 10 (by decide)]
      exact h10 k e
    · exact a3.2.2 k (by omega) hk 10 (by decide)
  have hb1 := (kx_hx hr.1 a4).1
  cases hx1 : (x_line gv R l).1 with
  | true =>
    rw [hx1] at a1
    refine Or.inl ⟨rfl, ?_⟩
    obtain ⟨q1, q2, q3⟩ := a9 hx1
    have hr1 := rs_next hr hxin.1 a4 a6 a7 a8 q1 q2 q3 a2
    obtain ⟨F2, c1, c2, c3, c4⟩ := c_clear (σ := σ1) (b := b) (F := F1) tO29 hb1 a7
    refine ⟨σ1, F2, ad1, I1, src1, ?_, rs_29 hr1 c4 c3, nxl_nxr a3, h101, a4, a5, cf_trans a6 (cf_mono (cf_fr c4) (by decide) (by decide) (by decide) (by decide)), c2, hxin.2⟩
    unfold f_Reader_read_j107
    simp only [↓fx_bc, ↓cI_of a1]
    rw [if_neg (show ¬ nI (b2 true) = 0 by decide)]
    simp only [↓fx_bc, ↓fc29, ↓cV_of c1]
    rw [show nI n + 1 = nI (n + 1) by rw [u_l1, u_add], show nI (n + 1) + (1 : Int32) = nI (n + 1 + 1) by rw [u_l1, u_add], show nI i + 1 = nI (i + 1) by rw [u_l1, u_add]]
  | false =>
    rw [hx1] at a1
    refine Or.inr ⟨rfl, ?_⟩
    obtain ⟨σ2, F2, I2, c1, c2, c3, c4, c5, c6, c7, c8, c9, c10⟩ := c_forgetAll (R := (x_line gv R l).2) (kx_hx hr.1 a4) a7 hxin.1.1.1 a2
    refine ⟨σ2, F2, ?_, ad1, I2, src1, c2, nxl_trans (nxl_nxr a3) (nxl_fg c7), hx_trans a4 c3, gw_mono (gw_trans a5 c4) (by omega) (by omega), cf_trans a6 (cf_mono c5 (by decide) (by decide) (by decide) (by decide)), c6, lg_cf a8 c5 (by decide), c8, c9, c10, fun k hk => ?_⟩
    · unfold f_Reader_read_j107
      simp only [↓fx_bc, ↓cI_of a1]
      rw [if_pos (show nI (b2 false) = 0 from rfl)]
      simp only [↓fx_bc, ↓cV_of c1]
      rfl
    · rw [c7 k hk]
      rfl
theorem c_readEnd (hdl : d.length ≤ 320) (hdk : tk d) {i : Nat} {σ : rb_St} {F : fx_F} {R : RS} {ad : Nat → Nat} {I : Nat → Nat → Int32} {src : Nat → Option Nat} {l : List Nat} (n nu : Nat) (hid : i = d.length) (hr : rs σ b F R ad I src gv) (h10 : ∀ k, k < (rN R).length → I k 10 = 0) (hnu : rNu R 0 ≤ i) (hl : tw F 29 l) (htk : tk l) (hll : l.length ≤ i) (hd : tw F 1 d) : ∃ σ' F', rb_it (fun z : (Int32 × Int32 × Int32 × rb_St) => f_Reader_read_b18 (some (fx_ad b 28)) (some (fx_ad b 1)) (z.1) (z.2.1) (z.2.2.1) z.2.2.2) (nI n, nI nu, nI i, fx_mk σ b F) = some (some (.int (x_read gv (tkn (d.drop i)) l n nu R).1), fx_mk σ' b F') ∧ rld σ b F (rN R) ad I (150 * (l.length + (d.length - i) + 1)) (10500 * (l.length + (d.length - i) + 1)) (x_read gv (tkn (d.drop i)) l n nu R).2 σ' F' := by
  have hdc : ∀ c, c ∈ d → c < 65536 := fun c h => Nat.lt_trans ((tk_ok hdk) c h).2 (by decide)
  have hlen := c_tlen (σ := σ) (b := b) tO1 hd
  have hat := c_at (σ := σ) (b := b) tO1 hr.2.1 hd hdc (i := i) (by omega)
  have hz : d.getD i 0 = 0 := by rw [List.getD_eq_getElem?_getD, List.getElem?_eq_none (by omega)]; rfl
  rw [hz] at hat
  have hbody : f_Reader_read_b18 (some (fx_ad b 28)) (some (fx_ad b 1)) (nI n) (nI nu) (nI i) (fx_mk σ b F) = f_Reader_read_j107 (some (fx_ad b 28)) (some (fx_ad b 1)) (nI n) (nI nu) (nI i) (fx_mk σ b F) := by
    unfold f_Reader_read_b18 f_Reader_read_j70
    simp only [↓fc1, ↓cI_of hlen, ↓cI_of hat]
    rw [if_neg (show ¬ nI d.length < nI i by rw [u_lt (by omega) (by omega)]; omega), if_neg (show ¬ nI 0 = (92 : Int32) by decide), if_pos (nI_le (by omega) (by omega))]
  rw [List.drop_eq_nil_of_le (by omega)]
  rw [show tkn ([] : List Nat) = [] by rw [tkn]]
  unfold x_read
  rcases c_readLine1 hr h10 (by omega) hl htk n nu i with ⟨e, σ1, F1, ad1, I1, src1, c1, c2, c3, c4, c5, c6, c7, c8, c9⟩ | ⟨e, σ1, F1, c1, c2⟩
  · rw [if_pos e]
    have hd1 : tw F1 1 d := tw_cf hd c7 (by decide) (by decide)
    have hlen1 := c_tlen (σ := σ1) (b := b) tO1 hd1
    refine ⟨σ1, F1, (rb_it_l (hbody.trans c1)).trans (rb_it_m ?_), ad1, I1, src1, c2.2.2.2.2.2.2.2.1, c3, c5, gw_mono c6 (by omega) (by omega), c7, c2.2.1, c2.2.2.1, c2.2.2.2.2.1, c2.2.2.2.2.2.1, c2.2.2.2.2.2.2.1, c4⟩
    show f_Reader_read_b18 _ _ _ _ _ _ = _
    unfold f_Reader_read_b18
    simp only [↓fc1, ↓cI_of hlen1]
    rw [if_pos (show nI d.length < nI (i + 1) by rw [u_lt (by omega) (by omega)]; omega)]
    rfl
  · rw [if_neg (by rw [e]; decide)]
    refine ⟨σ1, F1, rb_it_r (hbody.trans c1), ?_⟩
    obtain ⟨ad', I', src', h1, h2, h3, h4, h5⟩ := c2
    exact ⟨ad', I', src', h1, h2, h3, gw_mono h4 (by omega) (by omega), h5⟩
theorem c_readLoop (hdl : d.length ≤ 320) (hdk : tk d) : ∀ (m i : Nat) (σ : rb_St) (F : fx_F) (R : RS) (ad : Nat → Nat) (I : Nat → Nat → Int32) (src : Nat → Option Nat) (l : List Nat) (n nu : Nat), d.length - i ≤ m → i ≤ d.length → rs σ b F R ad I src gv → (∀ k, k < (rN R).length → I k 10 = 0) → rNu R 0 ≤ i → tw F 29 l → tk l → l.length ≤ i → tw F 1 d → ∃ σ' F', rb_it (fun z : (Int32 × Int32 × Int32 × rb_St) => f_Reader_read_b18 (some (fx_ad b 28)) (some (fx_ad b 1)) (z.1) (z.2.1) (z.2.2.1) z.2.2.2) (nI n, nI nu, nI i, fx_mk σ b F) = some (some (.int (x_read gv (tkn (d.drop i)) l n nu R).1), fx_mk σ' b F') ∧ rld σ b F (rN R) ad I (150 * (l.length + (d.length - i) + 1)) (10500 * (l.length + (d.length - i) + 1)) (x_read gv (tkn (d.drop i)) l n nu R).2 σ' F' := by
  have hdc : ∀ c, c ∈ d → c < 65536 := fun c h => Nat.lt_trans ((tk_ok hdk) c h).2 (by decide)
  intro m
  induction m with
  | zero =>
    intro i σ F R ad I src l n nu hm hi hr h10 hnu hl htk hll hd
    exact c_readEnd hdl hdk n nu (by omega) hr h10 hnu hl htk hll hd
  | succ m ih =>
    intro i σ F R ad I src l n nu hm hi hr h10 hnu hl htk hll hd
    by_cases hid : i = d.length
    · exact c_readEnd hdl hdk n nu hid hr h10 hnu hl htk hll hd
    · have hil : i < d.length := by omega
      have hlen := c_tlen (σ := σ) (b := b) tO1 hd
      have hat := c_at (σ := σ) (b := b) tO1 hr.2.1 hd hdc (i := i) (by omega)
      have hat2 := c_at (σ := σ) (b := b) tO1 hr.2.1 hd hdc (i := i + 1) (by omega)
      have hb := hr.1.1
      have hci : d.getD i 0 < 128 := ((tk_ok hdk) _ (getD_mem hil)).2
      have hlll := tw_len hr.2.1 hl
      rw [show tcap 29 = 320 from rfl] at hlll
      rw [tkn_step hil]
      by_cases e1 : d.getD i 0 = 92 ∧ i + 1 < d.length ∧ d.getD (i + 1) 0 = 10
      · rw [if_pos e1]
        rw [e1.1] at hat
        rw [e1.2.2] at hat2
        obtain ⟨F1, a1, a2, a3, a4⟩ := c_add (σ := σ) (b := b) tO29 hb hr.2.1 hl (c := 32) (by decide)
        rw [show tcap 29 = 320 from rfl] at a1 a2
        rw [if_pos (show l.length < 320 by omega)] at a2
        have a1' : f_Text_add (some (fx_ad b 29)) (32 : Int32) (fx_mk σ b F) = _ := a1
        have hcf := cf_fr a4
        obtain ⟨σ2, F2, c1, c2⟩ := ih (i + 2) σ F1 R ad I src (l ++ [32]) (n + 1) nu (by omega) (by omega) (rs_29 hr a4 a3) h10 (by omega) a2 (fun c hc => by
          rcases List.mem_append.mp hc with h | h
          · exact htk c h
          · rw [List.mem_singleton.mp h]; decide) (by rw [List.length_append, List.length_cons, List.length_nil]; omega) (tw_cf hd hcf (by decide) (by decide))
        have hxr : x_read gv ((32, 1) :: tkn (d.drop (i + 2))) l n nu R = x_read gv (tkn (d.drop (i + 2))) (l ++ [32]) (n + 1) nu R := by
          rw [x_read, if_neg (by decide)]
        rw [hxr]
        refine ⟨σ2, F2, (rb_it_l ?_).trans c1, rld_pre (hx_refl _) (gw_refl _) (cf_mono hcf (by decide) (by decide) (by decide) (by decide)) (nxl_nxr (nxr_refl _ _ _)) c2 (by rw [List.length_append, List.length_cons, List.length_nil]; omega) (by rw [List.length_append, List.length_cons, List.length_nil]; omega)⟩
        show f_Reader_read_b18 _ _ _ _ _ _ = _
        unfold f_Reader_read_b18
        simp only [↓fc1, ↓cI_of hlen, ↓cI_of hat, show nI i + (1 : Int32) = nI (i + 1) by rw [u_l1, u_add], ↓cI_of hat2]
        rw [if_neg (show ¬ nI d.length < nI i by rw [u_lt (by omega) (by omega)]; omega), if_pos (show nI 92 = (92 : Int32) from rfl), if_pos (show nI 10 = (10 : Int32) from rfl)]
        simp only [↓fx_bc, ↓fc29, ↓cI_of a1']
        rw [show nI n + 1 = nI (n + 1) by rw [u_l1, u_add], show nI (i + 1) + 1 = nI (i + 2) by rw [u_l1, u_add]]
      · rw [if_neg e1]
        have hj70 : f_Reader_read_b18 (some (fx_ad b 28)) (some (fx_ad b 1)) (nI n) (nI nu) (nI i) (fx_mk σ b F) = f_Reader_read_j70 (some (fx_ad b 28)) (some (fx_ad b 1)) (nI n) (nI nu) (nI i) (fx_mk σ b F) := by
          unfold f_Reader_read_b18
          simp only [↓fc1, ↓cI_of hlen, ↓cI_of hat]
          rw [if_neg (show ¬ nI d.length < nI i by rw [u_lt (by omega) (by omega)]; omega)]
          by_cases e92 : d.getD i 0 = 92
          · rw [if_pos (show nI (d.getD i 0) = (92 : Int32) by rw [e92]; rfl)]
            simp only [↓fc1, show nI i + (1 : Int32) = nI (i + 1) by rw [u_l1, u_add], ↓cI_of hat2]
            have hn10 : ¬ d.getD (i + 1) 0 = 10 ∧ d.getD (i + 1) 0 < 65536 := by
              by_cases e2 : i + 1 < d.length
              · exact ⟨fun h => e1 ⟨e92, e2, h⟩, hdc _ (getD_mem e2)⟩
              · rw [List.getD_eq_getElem?_getD, List.getElem?_eq_none (by omega)]
                exact ⟨by decide, by decide⟩
            rw [if_neg (show ¬ nI (d.getD (i + 1) 0) = (10 : Int32) by rw [u_l10, u_eq (by omega) (by omega)]; exact hn10.1)]
          · rw [if_neg (show ¬ nI (d.getD i 0) = (92 : Int32) by rw [u_l92, u_eq (by omega) (by omega)]; exact e92)]
        by_cases e10 : d.getD i 0 = 10
        · rw [e10] at hat
          rw [e10, if_pos rfl]
          have hbody : f_Reader_read_b18 (some (fx_ad b 28)) (some (fx_ad b 1)) (nI n) (nI nu) (nI i) (fx_mk σ b F) = f_Reader_read_j107 (some (fx_ad b 28)) (some (fx_ad b 1)) (nI n) (nI nu) (nI i) (fx_mk σ b F) := by
            rw [hj70]
            unfold f_Reader_read_j70
            simp only [↓fc1, ↓cI_of hlen, ↓cI_of hat]
            rw [if_neg (show ¬ nI d.length ≤ nI i by rw [u_le (by omega) (by omega)]; omega), if_pos (show nI 10 = (10 : Int32) from rfl)]
          rcases c_readLine1 hr h10 (by omega) hl htk n nu i with ⟨e, σ1, F1, ad1, I1, src1, c1, c2, c3, c4, c5, c6, c7, c8, c9⟩ | ⟨e, σ1, F1, c1, c2⟩
          · have hxr : x_read gv ((10, 1) :: tkn (d.drop (i + 1))) l n nu R = x_read gv (tkn (d.drop (i + 1))) [] (n + 1) (n + 1 + 1) (x_line gv R l).2 := by
              rw [x_read, if_pos rfl, if_pos e]
            rw [hxr]
            obtain ⟨σ2, F2, d1, d2⟩ := ih (i + 1) σ1 F1 (x_line gv R l).2 ad1 I1 src1 [] (n + 1) (n + 1 + 1) (by omega) (by omega) c2 c4 (by omega) c8 (fun c hc => by cases hc) (Nat.zero_le _) (tw_cf hd c7 (by decide) (by decide))
            exact ⟨σ2, F2, (rb_it_l (hbody.trans c1)).trans d1, rld_pre c5 c6 c7 c3 d2 (by rw [List.length_nil]; omega) (by rw [List.length_nil]; omega)⟩
          · have hxr : x_read gv ((10, 1) :: tkn (d.drop (i + 1))) l n nu R = (-(nI nu), r0 (rN (x_line gv R l).2)) := by
              rw [x_read, if_pos rfl, if_neg (by rw [e]; decide)]
            rw [hxr]
            refine ⟨σ1, F1, rb_it_r (hbody.trans c1), ?_⟩
            obtain ⟨ad', I', src', h1, h2, h3, h4, h5⟩ := c2
            exact ⟨ad', I', src', h1, h2, h3, gw_mono h4 (by omega) (by omega), h5⟩
        · obtain ⟨F1, a1, a2, a3, a4⟩ := c_add (σ := σ) (b := b) tO29 hb hr.2.1 hl (c := d.getD i 0) (by omega)
          rw [show tcap 29 = 320 from rfl] at a1 a2
          rw [if_pos (show l.length < 320 by omega)] at a2
          have hcf := cf_fr a4
          obtain ⟨σ2, F2, c1, c2⟩ := ih (i + 1) σ F1 R ad I src (l ++ [d.getD i 0]) n nu (by omega) (by omega) (rs_29 hr a4 a3) h10 (by omega) a2 (fun c hc => by
            rcases List.mem_append.mp hc with h | h
            · exact htk c h
            · rw [List.mem_singleton.mp h]; exact hdk _ (getD_mem hil)) (by rw [List.length_append, List.length_cons, List.length_nil]; omega) (tw_cf hd hcf (by decide) (by decide))
          have hxr : x_read gv ((d.getD i 0, if d.getD i 0 = 10 then 1 else 0) :: tkn (d.drop (i + 1))) l n nu R = x_read gv (tkn (d.drop (i + 1))) (l ++ [d.getD i 0]) n nu R := by
            rw [x_read, if_neg e10, if_neg e10]
            rfl
          rw [hxr]
          refine ⟨σ2, F2, (rb_it_l ?_).trans c1, rld_pre (hx_refl _) (gw_refl _) (cf_mono hcf (by decide) (by decide) (by decide) (by decide)) (nxl_nxr (nxr_refl _ _ _)) c2 (by rw [List.length_append, List.length_cons, List.length_nil]; omega) (by rw [List.length_append, List.length_cons, List.length_nil]; omega)⟩
          refine hj70.trans ?_
          unfold f_Reader_read_j70
          simp only [↓fc1, ↓cI_of hlen, ↓cI_of hat]
          rw [if_neg (show ¬ nI d.length ≤ nI i by rw [u_le (by omega) (by omega)]; omega), if_neg (show ¬ nI (d.getD i 0) = (10 : Int32) by rw [u_l10, u_eq (by omega) (by omega)]; exact e10)]
          simp only [↓fx_bc, ↓fc1, ↓fc29, ↓cI_of hat, ↓cI_of a1]
          rw [show nI i + 1 = nI (i + 1) by rw [u_l1, u_add]]
/-- the draft is read -/
theorem c_read {σ : rb_St} {F : fx_F} {N : List (List Nat)} {ad : Nat → Nat} {I : Nat → Nat → Int32} {src : Nat → Option Nat} (hk : kx σ b) (hF : fx_ln F) (hlg : lg F) (hN : nok N) (hnx : nx σ b F N ad I src) (hv : vx σ b F 18 gv) (hgv : ∀ m v, gv m = some v → tk v ∧ v.length ≤ 320) (hdl : d.length ≤ 320) (hdk : tk d) (hd : tw F 1 d) : ∃ σ' F', f_Reader_read (some (fx_ad b 28)) (some (fx_ad b 1)) (fx_mk σ b F) = some (some (.int (x_load gv N d).1), fx_mk σ' b F') ∧ rld σ b F N ad I (150 * (d.length + 1)) (10500 * (d.length + 1)) (x_load gv N d).2 σ' F' := by
  obtain ⟨σ1, F1, I1, c1, c2, c3, c4, c5, c6, c7, c8, c9, c10⟩ := c_forgetAll (R := r0 N) hk hF hN hnx
  have hb1 := (kx_hx hk c3).1
  obtain ⟨F2, a1, a2, a3, a4⟩ := c_clear (σ := σ1) (b := b) (F := F1) tO29 hb1 c6
  have hr1 : rs σ1 b F1 (r0 N) ad I1 src gv := ⟨kx_hx hk c3, c6, lg_cf hlg c5 (by decide), r0_in hN, c8, c9, c10, c2, vx_hx hv c3 (c5.2.2.2.2 18 (by decide)), hgv⟩
  have hr2 := rs_29 hr1 a4 a3
  have hcf2 : cf zQi zQa zQr zQq F F2 := cf_trans (cf_mono c5 (by decide) (by decide) (by decide) (by decide)) (cf_mono (cf_fr a4) (by decide) (by decide) (by decide) (by decide))
  obtain ⟨σ3, F3, d1, d2⟩ := c_readLoop (b := b) (gv := gv) hdl hdk d.length 0 σ1 F2 (r0 N) ad I1 src [] 0 1 (by omega) (Nat.zero_le _) hr2 (fun k hk => by rw [c7 k hk]; rfl) (Nat.le_refl _) a2 (fun c hc => by cases hc) (Nat.le_refl _) (tw_cf hd hcf2 (by decide) (by decide))
  rw [List.drop_zero] at d1 d2
  refine ⟨σ3, F3, ?_, rld_pre c3 c4 hcf2 (nxl_fg c7) d2 (by rw [List.length_nil]; omega) (by rw [List.length_nil]; omega)⟩
  unfold f_Reader_read
  simp only [↓fx_bc, ↓cV_of c1, ↓fc29, ↓cV_of a1]
  exact d1
end
