/-! the two, from the start -/
theorem naf_M (a : Nat) (τ : rb_St) : f_M_init a τ = naf a 13 (fun τ => (rb_fc τ (some a) 13).bind fun _ => rb_cV (f_M_forget (some a) τ) fun τ1 => some (none, τ1)) LM τ := (rfl)
theorem LM_ok : ∀ i, i < 48 → ((LM.getD i (0, 0, 0)).1 = 102 ∧ fx_t (35 + i) = 102 ∧ fx_cI (35 + i) = (LM.getD i (0, 0, 0)).2.1) ∨ ((LM.getD i (0, 0, 0)).1 = 104 ∧ fx_t (35 + i) = 104 ∧ fx_cI (35 + i) = (LM.getD i (0, 0, 0)).2.1) ∨ ((LM.getD i (0, 0, 0)).1 = 103 ∧ fx_t (35 + i) = 103 ∧ fx_cL (35 + i) = (LM.getD i (0, 0, 0)).2.1) := by decide
def Mrow (B : Nat) : List Value := [.ref (B + 35), .int 0, .int 0, .ref (B + 36), .ref (B + 37), .ref (B + 38), .ref (B + 39), .int 0, .ref (B + 40), .ref (B + 41), .ref (B + 42), .ref (B + 43), .ref (B + 44), .ref (B + 45), .ref (B + 46), .ref (B + 47), .int 0, .ref (B + 48), .int 0, .ref (B + 49), .ref (B + 50), .ref (B + 51), .int 0, .int 0, .ref (B + 52), .ref (B + 53), .int 0, .ref (B + 54), .ref (B + 55), .int 0, .ref (B + 56), .ref (B + 57), .ref (B + 58), .int 0, .ref (B + 59), .ref (B + 60), .ref (B + 61), .int 0, .int 0, .int 0, .int 0, .int 0, .int 0, .ref (B + 62), .int 0, .ref (B + 63), .ref (B + 64), .int 0, .int 0, .ref (B + 65), .ref (B + 66), .ref (B + 67), .ref (B + 68), .ref (B + 69), .ref (B + 70), .ref (B + 71), .int 0, .ref (B + 72), .ref (B + 73), .ref (B + 74), .ref (B + 75), .ref (B + 76), .ref (B + 77), .ref (B + 78), .ref (B + 79), .ref (B + 80), .int 0, .ref (B + 81), .int 0, .int 0, .int 0, .ref (B + 82), .int 0]
theorem Mrow_1 (B : Nat) : rws B 35 LM (rb_df 13) = Mrow B := by
  unfold Mrow rb_df
  simp only [LM, rws, List.set_cons_succ, List.set_cons_zero, Nat.reduceAdd]
theorem Mv_0 (B : Nat) : fx_v B F00 3400 = .ref (B + 35) := (rfl)
theorem Mv_1 (B : Nat) : fx_v B F00 3401 = .int 0 := (rfl)
theorem Mv_2 (B : Nat) : fx_v B F00 3402 = .int 0 := (rfl)
theorem Mv_3 (B : Nat) : fx_v B F00 3403 = .ref (B + 36) := (rfl)
theorem Mv_4 (B : Nat) : fx_v B F00 3404 = .ref (B + 37) := (rfl)
theorem Mv_5 (B : Nat) : fx_v B F00 3405 = .ref (B + 38) := (rfl)
theorem Mv_6 (B : Nat) : fx_v B F00 3406 = .ref (B + 39) := (rfl)
theorem Mv_7 (B : Nat) : fx_v B F00 3407 = .int 0 := (rfl)
theorem Mv_8 (B : Nat) : fx_v B F00 3408 = .ref (B + 40) := (rfl)
theorem Mv_9 (B : Nat) : fx_v B F00 3409 = .ref (B + 41) := (rfl)
theorem Mv_10 (B : Nat) : fx_v B F00 3410 = .ref (B + 42) := (rfl)
theorem Mv_11 (B : Nat) : fx_v B F00 3411 = .ref (B + 43) := (rfl)
theorem Mv_12 (B : Nat) : fx_v B F00 3412 = .ref (B + 44) := (rfl)
theorem Mv_13 (B : Nat) : fx_v B F00 3413 = .ref (B + 45) := (rfl)
theorem Mv_14 (B : Nat) : fx_v B F00 3414 = .ref (B + 46) := (rfl)
theorem Mv_15 (B : Nat) : fx_v B F00 3415 = .ref (B + 47) := (rfl)
theorem Mv_16 (B : Nat) : fx_v B F00 3416 = .int 0 := (rfl)
theorem Mv_17 (B : Nat) : fx_v B F00 3417 = .ref (B + 48) := (rfl)
theorem Mv_18 (B : Nat) : fx_v B F00 3418 = .int 0 := (rfl)
theorem Mv_19 (B : Nat) : fx_v B F00 3419 = .ref (B + 49) := (rfl)
theorem Mv_20 (B : Nat) : fx_v B F00 3420 = .ref (B + 50) := (rfl)
theorem Mv_21 (B : Nat) : fx_v B F00 3421 = .ref (B + 51) := (rfl)
theorem Mv_22 (B : Nat) : fx_v B F00 3422 = .int 0 := (rfl)
theorem Mv_23 (B : Nat) : fx_v B F00 3423 = .int 0 := (rfl)
theorem Mv_24 (B : Nat) : fx_v B F00 3424 = .ref (B + 52) := (rfl)
theorem Mv_25 (B : Nat) : fx_v B F00 3425 = .ref (B + 53) := (rfl)
theorem Mv_26 (B : Nat) : fx_v B F00 3426 = .int 0 := (rfl)
theorem Mv_27 (B : Nat) : fx_v B F00 3427 = .ref (B + 54) := (rfl)
theorem Mv_28 (B : Nat) : fx_v B F00 3428 = .ref (B + 55) := (rfl)
theorem Mv_29 (B : Nat) : fx_v B F00 3429 = .int 0 := (rfl)
theorem Mv_30 (B : Nat) : fx_v B F00 3430 = .ref (B + 56) := (rfl)
theorem Mv_31 (B : Nat) : fx_v B F00 3431 = .ref (B + 57) := (rfl)
theorem Mv_32 (B : Nat) : fx_v B F00 3432 = .ref (B + 58) := (rfl)
theorem Mv_33 (B : Nat) : fx_v B F00 3433 = .int 0 := (rfl)
theorem Mv_34 (B : Nat) : fx_v B F00 3434 = .ref (B + 59) := (rfl)
theorem Mv_35 (B : Nat) : fx_v B F00 3435 = .ref (B + 60) := (rfl)
theorem Mv_36 (B : Nat) : fx_v B F00 3436 = .ref (B + 61) := (rfl)
theorem Mv_37 (B : Nat) : fx_v B F00 3437 = .int 0 := (rfl)
theorem Mv_38 (B : Nat) : fx_v B F00 3438 = .int 0 := (rfl)
theorem Mv_39 (B : Nat) : fx_v B F00 3439 = .int 0 := (rfl)
theorem Mv_40 (B : Nat) : fx_v B F00 3440 = .int 0 := (rfl)
theorem Mv_41 (B : Nat) : fx_v B F00 3441 = .int 0 := (rfl)
theorem Mv_42 (B : Nat) : fx_v B F00 3442 = .int 0 := (rfl)
theorem Mv_43 (B : Nat) : fx_v B F00 3443 = .ref (B + 62) := (rfl)
theorem Mv_44 (B : Nat) : fx_v B F00 3444 = .int 0 := (rfl)
theorem Mv_45 (B : Nat) : fx_v B F00 3445 = .ref (B + 63) := (rfl)
theorem Mv_46 (B : Nat) : fx_v B F00 3446 = .ref (B + 64) := (rfl)
theorem Mv_47 (B : Nat) : fx_v B F00 3447 = .int 0 := (rfl)
theorem Mv_48 (B : Nat) : fx_v B F00 3448 = .int 0 := (rfl)
theorem Mv_49 (B : Nat) : fx_v B F00 3449 = .ref (B + 65) := (rfl)
theorem Mv_50 (B : Nat) : fx_v B F00 3450 = .ref (B + 66) := (rfl)
theorem Mv_51 (B : Nat) : fx_v B F00 3451 = .ref (B + 67) := (rfl)
theorem Mv_52 (B : Nat) : fx_v B F00 3452 = .ref (B + 68) := (rfl)
theorem Mv_53 (B : Nat) : fx_v B F00 3453 = .ref (B + 69) := (rfl)
theorem Mv_54 (B : Nat) : fx_v B F00 3454 = .ref (B + 70) := (rfl)
theorem Mv_55 (B : Nat) : fx_v B F00 3455 = .ref (B + 71) := (rfl)
theorem Mv_56 (B : Nat) : fx_v B F00 3456 = .int 0 := (rfl)
theorem Mv_57 (B : Nat) : fx_v B F00 3457 = .ref (B + 72) := (rfl)
theorem Mv_58 (B : Nat) : fx_v B F00 3458 = .ref (B + 73) := (rfl)
theorem Mv_59 (B : Nat) : fx_v B F00 3459 = .ref (B + 74) := (rfl)
theorem Mv_60 (B : Nat) : fx_v B F00 3460 = .ref (B + 75) := (rfl)
theorem Mv_61 (B : Nat) : fx_v B F00 3461 = .ref (B + 76) := (rfl)
theorem Mv_62 (B : Nat) : fx_v B F00 3462 = .ref (B + 77) := (rfl)
theorem Mv_63 (B : Nat) : fx_v B F00 3463 = .ref (B + 78) := (rfl)
theorem Mv_64 (B : Nat) : fx_v B F00 3464 = .ref (B + 79) := (rfl)
theorem Mv_65 (B : Nat) : fx_v B F00 3465 = .ref (B + 80) := (rfl)
theorem Mv_66 (B : Nat) : fx_v B F00 3466 = .int 0 := (rfl)
theorem Mv_67 (B : Nat) : fx_v B F00 3467 = .ref (B + 81) := (rfl)
theorem Mv_68 (B : Nat) : fx_v B F00 3468 = .int 0 := (rfl)
theorem Mv_69 (B : Nat) : fx_v B F00 3469 = .int 0 := (rfl)
theorem Mv_70 (B : Nat) : fx_v B F00 3470 = .int 0 := (rfl)
theorem Mv_71 (B : Nat) : fx_v B F00 3471 = .ref (B + 82) := (rfl)
theorem Mv_72 (B : Nat) : fx_v B F00 3472 = .int 0 := (rfl)
theorem Mrow_2 (B : Nat) : fx_row B F00 34 = Mrow B := by
  have h : fx_row B F00 34 = (List.range 73).map fun k => fx_v B F00 (100 * 34 + k) := if_pos (show fx_t 34 < 100 by decide)
  rw [h, show List.range 73 = [0, 1, 2, 3, 4, 5, 6, 7, 8, 9, 10, 11, 12, 13, 14, 15, 16, 17, 18, 19, 20, 21, 22, 23, 24, 25, 26, 27, 28, 29, 30, 31, 32, 33, 34, 35, 36, 37, 38, 39, 40, 41, 42, 43, 44, 45, 46, 47, 48, 49, 50, 51, 52, 53, 54, 55, 56, 57, 58, 59, 60, 61, 62, 63, 64, 65, 66, 67, 68, 69, 70, 71, 72] from rfl]
  unfold Mrow
  simp only [List.map_cons, List.map_nil, Nat.reduceMul, Nat.reduceAdd, Mv_0, Mv_1, Mv_2, Mv_3, Mv_4, Mv_5, Mv_6, Mv_7, Mv_8, Mv_9, Mv_10, Mv_11, Mv_12, Mv_13, Mv_14, Mv_15, Mv_16, Mv_17, Mv_18, Mv_19, Mv_20, Mv_21, Mv_22, Mv_23, Mv_24, Mv_25, Mv_26, Mv_27, Mv_28, Mv_29, Mv_30, Mv_31, Mv_32, Mv_33, Mv_34, Mv_35, Mv_36, Mv_37, Mv_38, Mv_39, Mv_40, Mv_41, Mv_42, Mv_43, Mv_44, Mv_45, Mv_46, Mv_47, Mv_48, Mv_49, Mv_50, Mv_51, Mv_52, Mv_53, Mv_54, Mv_55, Mv_56, Mv_57, Mv_58, Mv_59, Mv_60, Mv_61, Mv_62, Mv_63, Mv_64, Mv_65, Mv_66, Mv_67, Mv_68, Mv_69, Mv_70, Mv_71, Mv_72]
theorem Mrow_3 (B : Nat) : (13, rws B 35 LM (rb_df 13)) = gcl B 34 := by
  show _ = (fx_t 34, fx_row B F00 34)
  rw [Mrow_1, Mrow_2]
  rfl
theorem mk_same {σ : rb_St} {C : Nat → Nat × List Value} {s : Nat} (h : ∀ i, i < 83 → C i = gcl (rb_n σ) i) : fx_mk (mks σ C 83 s) (rb_n σ) F00 = mks σ C 83 s := by
  unfold fx_mk
  refine Prod.ext ?_ rfl
  funext q
  show (if rb_n σ ≤ q ∧ q < rb_n σ + 83 then (fx_t (q - rb_n σ), fx_row (rb_n σ) F00 (q - rb_n σ)) else (mks σ C 83 s).1 q) = (mks σ C 83 s).1 q
  by_cases e : rb_n σ ≤ q ∧ q < rb_n σ + 83
  · rw [if_pos e]
    show gcl (rb_n σ) (q - rb_n σ) = if rb_n σ ≤ q ∧ q < rb_n σ + 83 then C (q - rb_n σ) else σ.1 q
    rw [if_pos e, h (q - rb_n σ) (by omega)]
  · rw [if_neg e]
theorem M_run {σ : rb_St} (hb : rb_b σ ≤ rb_n σ) {C : Nat → Nat × List Value} {s : Nat} (hC : ∀ i, i < 34 → C i = gcl (rb_n σ) i) : ∃ C' s', (f_M_init (rb_n (mks σ C 34 s)) (rb_nO (mks σ C 34 s) 13) = (rb_fc (mks σ C' 83 s') (some (rb_n σ + 34)) 13).bind fun _ => rb_cV (f_M_forget (some (rb_n σ + 34)) (mks σ C' 83 s')) fun τ1 => some (none, τ1)) ∧ s' ≤ s + 10000 ∧ ∀ i, i < 83 → C' i = gcl (rb_n σ) i := by
  obtain ⟨C', a1, a2, a3, a4⟩ := obj_run (σ := σ) hb (C := C) (m := 34) (s := s) 13 LM (fun τ => (rb_fc τ (some (rb_n σ + 34)) 13).bind fun _ => rb_cV (f_M_forget (some (rb_n σ + 34)) τ) fun τ1 => some (none, τ1)) (by decide)
  refine ⟨C', s + rb_nS 13 + smn LM, ?_, ?_, fun i hi => ?_⟩
  · have hn : rb_n (mks σ C 34 s) = rb_n σ + 34 := rfl
    have h83 : 34 + 1 + LM.length = 83 := rfl
    rw [hn, naf_M, a1, h83]
  · have : rb_nS 13 + smn LM ≤ 10000 := by decide
    omega
  · by_cases e1 : i < 34
    · rw [a2 i e1]
      exact hC i e1
    · by_cases e2 : i = 34
      · subst e2
        rw [a3]
        exact Mrow_3 _
      · have h4 := a4 (i - 35) (by show i - 35 < 48; omega)
        rw [show 34 + 1 + (i - 35) = i by omega] at h4
        rw [h4]
        have hok := LM_ok (i - 35) (by omega)
        rw [show 35 + (i - 35) = i by omega] at hok
        rcases hok with ⟨o1, o2, o3⟩ | ⟨o1, o2, o3⟩ | ⟨o1, o2, o3⟩
        · rw [gcl_int _ i _ o2 o3, o1]
          rfl
        · rw [gcl_boo _ i _ o2 o3, o1]
          rfl
        · rw [gcl_lng _ i _ o2 o3, o1]
          rfl
theorem byt_kT : ∀ i, i < 14 → (kT i).map nI = rb_byt i ∧ (∀ c, c ∈ kT i → c < 128) ∧ (kT i).length ≤ 100000 := by decide
theorem rep_none {n m : Nat} (h : m < n) : (List.replicate n (none : Option Nat))[m]? = some none := by
  rw [List.getElem?_replicate, if_pos h]
theorem rep_0 {n m : Nat} (h : m < n) : (List.replicate n (0 : Int32))[m]? = some 0 := by
  rw [List.getElem?_replicate, if_pos h]
theorem law_start {σ : rb_St} {A : Nat} {xs : List Int32} (hi : rb_Init σ A xs) : ∃ τ F s1, (f_Law_law (some A) σ = rb_it (fun z : (Int32 × rb_St) => f_Law_law_b18 (some A) (some (fx_ad (rb_n σ) 0)) (some (fx_ad (rb_n σ) 34)) (z.1) z.2) (nI 0, fx_mk τ (rb_n σ) F)) ∧ lwI A xs (rb_n σ + 83) s1 (rb_n σ) 0 τ F x0 ∧ s1 ≤ rb_s σ + 20000 := by
  obtain ⟨i1, i2, i3, i4, i5⟩ := hi
  have hb : rb_b σ ≤ rb_n σ := Nat.le_of_eq i3.symm
  have h0 : rb_nO σ 1 = mks σ (fun _ => (1, rb_df 1)) 1 (rb_s σ + rb_nS 1) := by
    unfold rb_nO rb_push mks
    refine Prod.ext ?_ rfl
    funext q
    show (if q = rb_n σ then (1, rb_df 1) else σ.1 q) = if rb_n σ ≤ q ∧ q < rb_n σ + 1 then (1, rb_df 1) else σ.1 q
    by_cases e : q = rb_n σ
    · rw [if_pos e, if_pos (by omega)]
    · rw [if_neg e, if_neg (by omega)]
  obtain ⟨C1, s1, a1, a2, a3⟩ := RB_run (σ := σ) hb (C := fun _ => (1, rb_df 1)) (s := rb_s σ + rb_nS 1) rfl
  obtain ⟨C2, s2, b1, b2', b3⟩ := M_run (σ := σ) hb (C := C1) (s := s1) a3
  have hmk := mk_same (σ := σ) (s := s2) b3
  have hbt : rb_b (mks σ C2 83 s2) ≤ rb_n σ := hb
  obtain ⟨F1, c1, c2, c3, c4⟩ := m_forget (σ := mks σ C2 83 s2) (b := rb_n σ) (F := F00) (T := []) (N := []) hbt F00_ln ⟨rfl, fun k hk => absurd hk (Nat.not_lt_zero _)⟩
  have hF1 : ∀ z, z ∉ [3418, 3422, 3423, 3426, 3429, 3433, 3437, 3438, 3439, 3440] → F1.1 z = F00.1 z := c4.1
  have hA1 : ∀ o, o ∉ [43, 49, 50, 51, 52, 53] → F1.2.1 o = F00.2.1 o := c4.2.1
  have hQ1 : ∀ o, F1.2.2.2.2 o = F00.2.2.2.2 o := fun o => by rw [c4.2.2.2]
  have hR1 : ∀ z, F1.2.2.2.1 z = F00.2.2.2.1 z := fun z => by rw [c4.2.2.2]
  refine ⟨mks σ C2 83 s2, F1, s2, ?_, ⟨⟨fun _ => 0, fun _ _ => 0, fun _ => none, ⟨hbt, Nat.le_refl _, fun i hi => ?_⟩, c3, ⟨0, by decide, ?_⟩, ⟨?_, rk_nil _⟩, ⟨⟨?_, fun k hk => absurd hk (Nat.not_lt_zero _), fun i j hi => absurd hi (Nat.not_lt_zero _)⟩, ?_, fun k hk => absurd hk (Nat.not_lt_zero _), fun _ _ => rfl, ⟨?_, rk_nil _⟩, fun _ => Nat.le_refl _⟩, ⟨⟨?_, fun i hi => absurd hi (Nat.not_lt_zero _)⟩, ⟨?_, fun i hi => absurd hi (Nat.not_lt_zero _), fun i hi => absurd hi (Nat.not_lt_zero _)⟩, ⟨?_, fun i hi => absurd hi (Nat.not_lt_zero _)⟩, ⟨?_, fun i hi => absurd hi (Nat.not_lt_zero _)⟩, ⟨?_, ?_, ?_, ?_⟩, fun k hk => absurd hk (Nat.not_lt_zero _), fun m hm => ⟨fun _ => ?_, fun v hv => ?_⟩⟩, gin_r0 _, fun m hm => ⟨fun _ => ?_, fun v hv => ?_⟩, ?_, fun k hk => absurd hk (Nat.not_lt_zero _), fun _ _ => rfl⟩, ⟨c3, ⟨?_, rk_nil _⟩, ⟨?_, fun k hk => ⟨?_, ?_, ?_⟩⟩, fun m hm => ⟨?_, fun v hv => ?_⟩, ⟨[], Nat.zero_le _, fun c hc => (by cases hc), rk_nil _, c2⟩, fun k hk => ?_, ⟨?_, rk_nil _⟩, ?_⟩, ⟨Nat.zero_le _, fun c hc => (by cases hc), fun _ => Nat.le_refl _, fun m v hv => (by cases hv), r0_in ⟨Nat.zero_le _, fun k hk => absurd hk (Nat.not_lt_zero _)⟩, fun _ => Nat.zero_le _, Nat.zero_le _⟩, fun c hc => (by cases hc), Nat.zero_le _, ⟨?_, ?_, ?_⟩, ?_, ?_⟩, ?_⟩
  · unfold f_Law_law
    rw [h0, cV_of a1]
    have hM : f_M_init (rb_n (mks σ C1 34 s1)) (rb_nO (mks σ C1 34 s1) 13) = some (none, fx_mk (mks σ C2 83 s2) (rb_n σ) F1) := by
      have c1' : f_M_forget (some (rb_n σ + 34)) (mks σ C2 83 s2) = some (none, fx_mk (mks σ C2 83 s2) (rb_n σ) F1) := by
        have c1a := c1
        rw [hmk] at c1a
        exact c1a
      have hfc : rb_fc (mks σ C2 83 s2) (some (rb_n σ + 34)) 13 = some (fx_row (rb_n σ) F00 34) := by
        have hfa := fx_fc (σ := mks σ C2 83 s2) (b := rb_n σ) (F := F00) (o := 34) (t := 13) (by decide) rfl
        rw [hmk] at hfa
        exact hfa
      rw [b1, hfc, Option.bind_some, cV_of c1']
    rw [cV_of hM]
    rfl
  · obtain ⟨v, v1, v2, v3, v4⟩ := i4 i hi
    obtain ⟨t1, t2, t3⟩ := byt_kT i hi
    have hout : ∀ a, a < rb_b σ → (mks σ C2 83 s2).1 a = σ.1 a := fun a ha => by
      show (if rb_n σ ≤ a ∧ a < rb_n σ + 83 then C2 (a - rb_n σ) else σ.1 a) = σ.1 a
      rw [if_neg (by omega)]
    refine ⟨fun hc => ?_, ?_, v, [], fun hc => ?_, ?_, ?_, ?_, t2, t3⟩
    · exact absurd (Nat.lt_of_lt_of_le v3 hb) (Nat.not_lt.mpr hc.1)
    · exact Nat.lt_of_lt_of_le v3 (Nat.le_trans hb (Nat.le_add_right _ 83))
    · exact absurd (Nat.lt_of_lt_of_le v4 hb) (Nat.not_lt.mpr hc.1)
    · exact Nat.lt_of_lt_of_le v4 (Nat.le_trans hb (Nat.le_add_right _ 83))
    · show (mks σ C2 83 s2).1 (rb_k σ i) = _
      rw [hout _ v3]
      exact v1
    · rw [hout _ v4, v2, ← t1, List.map_map]
      rfl
  · rw [hF1 1305 (by decide)]; rfl
  · rw [hF1 101 (by decide)]; rfl
  · rw [hF1 301 (by decide)]; rfl
  · rw [hF1 302 (by decide)]; rfl
  · rw [hF1 2601 (by decide)]; rfl
  · rw [hF1 501 (by decide)]; rfl
  · rw [hF1 505 (by decide)]; rfl
  · rw [hF1 507 (by decide)]; rfl
  · rw [hF1 510 (by decide)]; rfl
  · rw [hF1 511 (by decide)]; rfl
  · rw [hR1 512]; rfl
  · rw [hF1 513 (by decide)]; rfl
  · rw [hF1 514 (by decide)]; rfl
  · rw [hQ1 19]; exact rep_none hm
  · have : (none : Option (List Nat)) = some v := hv
    cases this
  · rw [hQ1 18]; exact rep_none hm
  · have : (none : Option (List Nat)) = some v := hv
    cases this
  · rw [hF1 3107 (by decide)]; rfl
  · rw [hF1 3401 (by decide)]; rfl
  · rw [hF1 3407 (by decide)]; rfl
  · rw [hA1 37 (by decide)]; exact rep_0 hk
  · rw [hA1 38 (by decide)]; exact rep_0 hk
  · rw [hA1 39 (by decide)]; exact rep_0 hk
  · rw [hA1 40 (by decide)]; exact rep_0 hm
  · have : (none : Option (List Nat)) = some v := hv
    cases this
  · rw [hA1 72 (by decide)]; exact rep_0 hk
  · rw [hF1 3472 (by decide)]; rfl
  · rw [hF1 3470 (by decide)]; rfl
  · show (if rb_n σ ≤ A ∧ A < rb_n σ + 83 then C2 (A - rb_n σ) else σ.1 A) = _
    rw [if_neg (by omega)]
    exact i1
  · show A < rb_n σ + 83
    omega
  · intro hc
    have := hc.1
    omega
  · show rb_n σ + 83 + 150 * 0 ≤ rb_n σ + 83 + 256 * 0
    omega
  · show s2 + 10500 * 0 ≤ s2 + 10500 * 0
    omega
  · have : rb_nS 1 = 8 := rfl
    omega
/-- the script to its end -/
theorem lw_loop {A : Nat} {xs : List Int32} {n0 s0 b : Nat} (hx : xs.length ≤ 1536) : ∀ (m j : Nat) (σ : rb_St) (F : fx_F) (X : XS), 3 * j + 3 * m ≤ xs.length → xs.length < 3 * j + 3 * m + 3 → lwI A xs n0 s0 b j σ F X → ∃ σ', rb_it (fun z : (Int32 × rb_St) => f_Law_law_b18 (some A) (some (fx_ad b 0)) (some (fx_ad b 34)) (z.1) z.2) (nI (3 * j), fx_mk σ b F) = some (some (.int 1), σ') ∧ rb_n σ' ≤ n0 + 256 * 512 ∧ rb_s σ' ≤ s0 + 10500 * 512 := by
  intro m
  induction m with
  | zero =>
    intro j σ F X h1 h2 h
    obtain ⟨_, _, _, _, _, ⟨a1, a2, a3⟩, hn, hs⟩ := h
    have hlen : rb_len (fx_mk σ b F) (some A) 102 = some (nI xs.length) := by
      rw [fo_len a3 a1, List.length_map]
    have hend : (nI xs.length - (3 : Int32)) < nI (3 * j) := by
      by_cases e : 3 ≤ xs.length
      · rw [u_l3, u_sub e, u_lt (by omega) (by omega)]
        omega
      · have hj : j = 0 := by omega
        rw [hj, u_l3]
        exact u_negl (by omega) (by omega)
    refine ⟨fx_mk σ b F, rb_it_r ?_, ?_, ?_⟩
    · show f_Law_law_b18 _ _ _ _ _ = _
      unfold f_Law_law_b18
      rw [hlen, Option.bind_some, if_pos hend]
      rfl
    · show rb_n σ ≤ _
      omega
    · show rb_s σ ≤ _
      omega
  | succ m ih =>
    intro j σ F X h1 h2 h
    obtain ⟨σ1, F1, X1, c1, c2⟩ := lw_step hx h (by omega)
    obtain ⟨σ2, d1, d2, d3⟩ := ih (j + 1) σ1 F1 X1 (by omega) (by omega) c2
    exact ⟨σ2, (rb_it_l c1).trans d1, d2, d3⟩
theorem rb_pure : rb_Pure := by
  intro σ b xs hx hi
  obtain ⟨τ, F, s1, a1, a2, a3⟩ := law_start hi
  obtain ⟨σ', c1, c2, c3⟩ := lw_loop hx (xs.length / 3) 0 τ F x0 (by omega) (by omega) a2
  exact ⟨σ', a1.trans c1, by omega, by omega⟩
