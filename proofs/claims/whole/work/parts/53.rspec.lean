/-! what a rule text means -/
def q_SUF : List Nat := [46, 83, 85, 70, 70, 73, 88, 69, 83]
def q_PHO : List Nat := [46, 80, 72, 79, 78, 89]
def q_IGN : List Nat := [46, 73, 71, 78, 79, 82, 69]
def q_SIL : List Nat := [46, 83, 73, 76, 69, 78, 84]
def q_DEF : List Nat := [46, 68, 69, 70, 65, 85, 76, 84]
/-- a command line, behind its tab -/
def x_taken (R : RS) : Bool := if rNu R 1 = 2 then (match rOp R 0 with | some g => decide (g ≠ rNu R 0) | none => false) else if rNu R 1 = 4 then (sr (fun k => rFl R 4 k && (match rOw R k with | some g => decide (g ≠ rNu R 0) | none => false)) (rN R).length 0).isSome else false
def x_cmdR (R : RS) (t : List Nat) : RS :=
  wCm (if rNu R 1 = 2 then wOp R (up1 (rOp R) 0 (some (rNu R 0))) else if rNu R 1 = 3 then wEn R ((rEn R).set ((rOp R 2).getD 0) (((rEn R).getD ((rOp R 2).getD 0) (([], []), none)).1, some (rNu R 0))) else wOw R (fun k => if k < (rN R).length ∧ rFl R 4 k = true then some (rNu R 0) else rOw R k)) (rCm R ++ [(rNu R 0, t)])
def x_cmd (R : RS) (t : List Nat) : Bool × RS := if rNu R 1 < 2 ∨ (rCm R).length = 30 ∨ x_taken R = true then (false, R) else (true, x_cmdR R t)
/-- the words of .SUFFIXES -/
def x_suf : List (List Nat) → List (List Nat) → Option (List (List Nat))
  | [], sf => some sf
  | w :: ws, sf => if sp_name w = true ∧ 2 ≤ w.length ∧ w.getD 0 0 = 46 then (if (nf sf w).isSome = true then x_suf ws sf else if sf.length = 6 then none else x_suf ws (sf ++ [w])) else none
def x_sufL (R : RS) (ws : List (List Nat)) : Bool × RS := match x_suf (ws.drop 1) (if ws.length = 1 then [] else rSf R) with
  | some sf => (true, wSf R sf)
  | none => (false, R)
/-- the words of .PHONY, .IGNORE, .SILENT -/
def x_mark (h : List Nat) : List (List Nat) → RS → Bool × RS
  | [], R => (true, R)
  | w :: ws, R => match nmeet (rN R) w with
    | (none, N) => (false, wN R N)
    | (some k, N) => x_mark h ws (wFl (wN R N) (fun i j => rFl R i j || (decide (j = k) && ((decide (i = 1) && decide (h = q_PHO)) || (decide (i = 2) && decide (h = q_IGN)) || (decide (i = 3) && decide (h = q_SIL))))))
def x_markL (R : RS) (h : List Nat) (ws : List (List Nat)) : Bool × RS := x_mark h (ws.drop 1) (wBo R (fun i => rBo R i || (decide (ws.length = 1) && ((decide (i = 0) && decide (h = q_IGN)) || (decide (i = 1) && decide (h = q_SIL))))))
/-- words met as names -/
def x_meets : List (List Nat) → List (List Nat) → Option (List Nat) × List (List Nat)
  | [], N => (some [], N)
  | w :: ws, N => match nmeet N w with
    | (none, N1) => (none, N1)
    | (some k, N1) => match x_meets ws N1 with
      | (some ks, N2) => (some (k :: ks), N2)
      | (none, N2) => (none, N2)
/-- the suffixes that an ending rule of a target goes from and to -/
def x_from (sf : List (List Nat)) (w : List Nat) : Option (List Nat × List Nat) :=
  if (nf sf w).isSome = true then some (w, [])
  else match sr (fun k => decide ((sf.getD k []).length < w.length ∧ w.take (sf.getD k []).length = sf.getD k []) && (nf sf (w.drop (sf.getD k []).length)).isSome) sf.length 0 with
    | some k => some (sf.getD k [], w.drop (sf.getD k []).length)
    | none => none
def x_eidx (en : List ((List Nat × List Nat) × Option Nat)) (rs : List Nat × List Nat) : Option Nat := sr (fun k => decide ((en.getD k (([], []), none)).1 = rs)) en.length 0
def x_end (R : RS) (rs : List Nat × List Nat) : Bool × RS :=
  match x_eidx (rEn R) rs with
  | some k => (true, wNu (wOp (wEn R ((rEn R).set k (rs, none))) (up1 (rOp R) 2 (some k))) (up1 (rNu R) 1 3))
  | none => if (rEn R).length = 8 then (false, R) else (true, wNu (wOp (wEn R (rEn R ++ [(rs, none)])) (up1 (rOp R) 2 (some (rEn R).length))) (up1 (rNu R) 1 3))
/-- a rule line of names -/
def x_plain (R : RS) (n : Nat) (ws : List (List Nat)) : Bool × RS := match x_meets ws (rN R) with
  | (none, N) => (false, wN R N)
  | (some ks, N) => if 80 < (rPr R).length + n * (ws.length - n) then (false, wN R N) else
    (true, wNu (wPr (wOp (wFl (wN R N) (fun i j => if i = 4 then decide (j ∈ ks.take n) else rFl R i j || (decide (i = 0) && decide (j ∈ ks.take n)))) (up1 (rOp R) 1 (match rOp R 1 with | some k => some k | none => ks.head?))) (rPr R ++ (ks.take n).flatMap (fun t => (ks.drop n).map (fun p => (t, p))))) (up1 (rNu R) 1 4))
/-- a rule line, by its words, the first n of them targets -/
def x_rule (R0 : RS) (n : Nat) (ws : List (List Nat)) : Bool × RS :=
  let R := wNu R0 (up1 (up1 (rNu R0) 0 (rNu R0 0 + 1)) 1 1)
  let only := if n = 1 then ws.getD 0 [] else []
  if only = q_SUF then x_sufL R ws
  else if only = q_PHO ∨ only = q_IGN ∨ only = q_SIL then x_markL R only ws
  else if only = q_DEF then (if ws.length = 1 then (true, wNu R (up1 (rNu R) 1 2)) else (false, R))
  else if n = 1 ∧ ws.length = 1 then (match x_from (rSf R) only with
    | some rs => x_end R rs
    | none => x_plain R n ws)
  else x_plain R n ws
/-- the words of a text -/
def wl (o : List Nat) (W : List (Nat × Nat)) : List (List Nat) := (List.range W.length).map (wd o W)
def x_exp (R : RS) (o : List Nat) : Bool × RS :=
  match sr (fun k => decide (o.getD k 0 = 58)) o.length 0 with
  | none => (false, R)
  | some c => if (sr (fun k => decide (o.getD k 0 = 58)) (o.length - (c + 1)) (c + 1)).isSome = true then (false, R)
    else if (wds o c 0 c).length = 0 then (false, R)
    else x_rule R (wds o c 0 c).length (wl o (wds o c 0 c ++ wds o (o.length - (c + 1)) (c + 1) o.length))
def x_ruleT (gv : Nat → Option (List Nat)) (R : RS) (t : List Nat) : Bool × RS := match xr (fun _ => none) (vl gv (rDf R)) t with
  | none => (false, R)
  | some o => x_exp R o
/-- the last place, from e down to p, before which stands no space -/
def bk (t : List Nat) (p : Nat) : Nat → Nat
  | 0 => 0
  | e + 1 => if p < e + 1 ∧ t.getD e 0 = 32 then bk t p e else e + 1
/-- a line -/
def x_line (gv : Nat → Option (List Nat)) (R : RS) (t : List Nat) : Bool × RS :=
  if t.head? = some 9 then x_cmd R (t.drop 1)
  else
    let c := fi (fun k => decide (t.getD k 0 = 35)) t.length 0
    let p := fi (fun k => decide (¬ t.getD k 0 = 32)) c 0
    let e := bk t p c
    if p = e then (true, R)
    else if cap (t.getD p 0) = true ∧ p + 1 < e ∧ t.getD (p + 1) 0 = 61 then (true, wDf R (up1 (rDf R) (t.getD p 0 - 65) (some (slc t (fi (fun k => decide (¬ t.getD k 0 = 32)) e (p + 2)) e))))
    else x_ruleT gv R (slc t p e)
