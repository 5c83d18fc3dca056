/-! what a build means -/
/-- the first of some values that is there -/
def fs {α : Type} (g : Nat → Option α) : Nat → Nat → Option α
  | 0, _ => none
  | m + 1, k => match g k with | some x => some x | none => fs g m (k + 1)
/-- an option of a build -/
def op (w i : Nat) : Bool := decide (w / i % 2 = 1)
def x_puts (p l : List Nat) : List Nat := (p ++ l).take 400
theorem puts_app (p a c : List Nat) : x_puts (x_puts p a) c = x_puts p (a ++ c) := by
  unfold x_puts
  rw [List.take_append, List.take_take, Nat.min_self, ← List.append_assoc, List.take_append (l₁ := p ++ a)]
  congr 1
  rw [List.length_take]
  by_cases h : (p ++ a).length ≤ 400
  · rw [Nat.min_eq_right h]
  · rw [Nat.min_eq_left (by omega), Nat.sub_self, show 400 - (p ++ a).length = 0 by omega]
theorem puts_len (p l : List Nat) : (x_puts p l).length ≤ 400 := by
  unfold x_puts
  rw [List.length_take]
  omega
theorem puts_nil {p : List Nat} (h : p.length ≤ 400) : x_puts p [] = p := by
  unfold x_puts
  rw [List.append_nil, List.take_of_length_le h]
/-- names, files, clock, print -/
abbrev PS : Type := (List (List Nat)) × (Nat → Nat × Int32) × Nat × List Nat
abbrev pN (S : PS) : List (List Nat) := S.1
abbrev pF (S : PS) : Nat → Nat × Int32 := S.2.1
abbrev pC (S : PS) : Nat := S.2.2.1
abbrev pP (S : PS) : List Nat := S.2.2.2
def x_touch : List Nat → (Nat → Nat × Int32) → Nat → (Nat → Nat × Int32) × Nat
  | [], f, c => (f, c)
  | k :: ks, f, c => x_touch ks (up1 f k (c + 1, (f k).2)) (c + 1)
def x_rm : List Nat → (Nat → Nat × Int32) → (Nat → Nat × Int32)
  | [], f => f
  | k :: ks, f => x_rm ks (up1 f k (0, 0))
def x_sum (f : Nat → Nat × Int32) : List Nat → Int32 → Option Int32
  | [], c => some c
  | k :: ks, c => if (f k).1 = 0 then none else x_sum f ks ((31 : Int32) * c + (f k).2 + 1)
def x_join : List (List Nat) → List Nat
  | [] => []
  | [a] => a
  | a :: c :: l => a ++ [32] ++ x_join (c :: l)
def q_true : List Nat := [116, 114, 117, 101]
def q_echo : List Nat := [101, 99, 104, 111]
def q_touch : List Nat := [116, 111, 117, 99, 104]
def q_rm : List Nat := [114, 109]
def q_cp : List Nat := [99, 112]
def q_cat : List Nat := [99, 97, 116]
/-- a command, by its words -/
def x_perf (ws : List (List Nat)) (S : PS) : Bool × PS :=
  if ws = [] then (true, S)
  else if ws.getD 0 [] = q_true then (true, S)
  else if ws.getD 0 [] = q_echo then (true, (pN S, pF S, pC S, x_puts (pP S) (x_join (ws.drop 1) ++ [10])))
  else if ws.getD 0 [] = q_touch ∨ ws.getD 0 [] = q_rm then (if ws.length < 2 then (false, S) else match x_meets (ws.drop 1) (pN S) with
    | (none, N) => (false, (N, pF S, pC S, pP S))
    | (some ks, N) => if ws.getD 0 [] = q_touch then (true, (N, (x_touch ks (pF S) (pC S)).1, (x_touch ks (pF S) (pC S)).2, pP S)) else (true, (N, x_rm ks (pF S), pC S, pP S)))
  else if ws.getD 0 [] = q_cp then (if ws.length ≠ 3 then (false, S) else match x_meets (ws.drop 1) (pN S) with
    | (none, N) => (false, (N, pF S, pC S, pP S))
    | (some ks, N) => if (pF S (ks.getD 0 0)).1 = 0 then (false, (N, pF S, pC S, pP S)) else (true, (N, up1 (pF S) (ks.getD 1 0) (pC S + 1, (pF S (ks.getD 0 0)).2), pC S + 1, pP S)))
  else if ws.getD 0 [] = q_cat then (if ws.length < 4 ∨ ws.getD (ws.length - 2) [] ≠ [62] then (false, S) else match x_meets ((ws.take (ws.length - 2)).drop 1) (pN S) with
    | (none, N) => (false, (N, pF S, pC S, pP S))
    | (some ks, N) => match nmeet N (ws.getD (ws.length - 1) []) with
      | (none, N2) => (false, (N2, pF S, pC S, pP S))
      | (some k, N2) => match x_sum (pF S) ks 0 with
        | none => (false, (N2, pF S, pC S, pP S))
        | some c => (true, (N2, up1 (pF S) k (pC S + 1, c), pC S + 1, pP S)))
  else (false, S)
/-- how a name is made: commands, the source and the stem, by default -/
abbrev CH : Type := Option Nat × Option (Nat × List Nat) × Bool
def x_cand (R : RS) (N : List (List Nat)) (f : Nat → Nat × Int32) (w r s : List Nat) : Option (Nat × Nat) :=
  match x_eidx (rEn R) (r, s) with
  | none => none
  | some e => match ((rEn R).getD e (([], []), none)).2 with
    | none => none
    | some g => match nf N (w ++ r) with
      | none => none
      | some k => if rFl R 0 k = true ∨ ¬ (f k).1 = 0 then some (k, g) else none
def x_look1 (R : RS) (N : List (List Nat)) (f : Nat → Nat × Int32) (w s : List Nat) : Option (Nat × Nat) := fs (fun j => x_cand R N f w ((rSf R).getD j []) s) (rSf R).length 0
/-- source, commands, stem -/
def x_look (R : RS) (N : List (List Nat)) (f : Nat → Nat × Int32) (w : List Nat) : Option ((Nat × Nat) × List Nat) :=
  match fs (fun j => if ((rSf R).getD j []).length < w.length ∧ sfx ((rSf R).getD j []) w = true then (x_look1 R N f (w.take (w.length - ((rSf R).getD j []).length)) ((rSf R).getD j [])).map (fun x => (x, w.take (w.length - ((rSf R).getD j []).length))) else none) (rSf R).length 0 with
  | some x => some x
  | none => (x_look1 R N f w []).map (fun x => (x, w))
def x_choose (R : RS) (N : List (List Nat)) (f : Nat → Nat × Int32) (t : Nat) : Option CH :=
  match rOw R t with
  | some g => some (some g, none, false)
  | none => match x_look R N f (N.getD t []) with
    | some x => some (some x.1.2, some (x.1.1, x.2), false)
    | none => if rFl R 0 t = true ∨ ¬ (f t).1 = 0 then some (none, none, false) else match rOp R 0 with
      | some g => some (some g, none, true)
      | none => none
def x_deps (R : RS) (ch : CH) (t : Nat) : List Nat := (match ch.2.1 with | some x => [x.1] | none => []) ++ (rPr R).filterMap (fun x => if x.1 = t then some x.2 else none)
/-- the names that are newer, as a text -/
def x_newer (N : List (List Nat)) (ds : List Nat) (nw : List Bool) : List (List Nat) := ((ds.zip nw).filter (fun x => x.2)).map (fun x => N.getD x.1 [])
def x_auto (N : List (List Nat)) (ch : CH) (ds : List Nat) (nw : List Bool) (t : Nat) (c : Nat) : Option (List Nat) :=
  if c = 64 then some (N.getD t [])
  else if c = 60 then some (if ch.2.2 = true then N.getD t [] else match ch.2.1 with | some x => N.getD x.1 [] | none => [])
  else if c = 42 then some (match ch.2.1 with | some x => x.2 | none => [])
  else if c = 63 then some (x_join (x_newer N ds nw))
  else none
def mkd (c : Nat) : Bool := decide (c = 45 ∨ c = 64 ∨ c = 43)
/-- of a command: a mark that it bears -/
def x_has (t : List Nat) (c : Nat) : Bool := decide (c ∈ t.take (fi (fun k => !mkd (t.getD k 0)) t.length 0))
def x_silent (R : RS) (w t : Nat) : Bool := rFl R 3 t || rBo R 1 || op w 32
def x_forg (R : RS) (w t : Nat) (c : List Nat) : Bool := x_has c 45 || rFl R 2 t || rBo R 0 || op w 16
/-- a command is carried out, with n done before it -/
def x_carry (R : RS) (gv : Nat → Option (List Nat)) (w t : Nat) (ch : CH) (ds : List Nat) (nw : List Bool) (c : List Nat) (S : PS) (n : Nat) : Bool × PS × Nat :=
  if x_has c 43 = false ∧ (op w 8 = true ∨ op w 4 = true ∧ op w 2 = false) then (true, S, n)
  else match xr (x_auto (pN S) ch ds nw t) (vl gv (rDf R)) (c.drop (fi (fun k => !mkd (c.getD k 0)) c.length 0)) with
    | none => (x_forg R w t c, S, n)
    | some o =>
      let S1 : PS := if op w 8 = true ∨ (x_has c 64 = true ∨ x_silent R w t = true) ∧ op w 2 = false then S else (pN S, pF S, pC S, x_puts (pP S) (o ++ [10]))
      if x_has c 43 = false ∧ op w 2 = true then (true, S1, n)
      else ((x_perf (wl o (wds o o.length 0 o.length)) S1).1 || x_forg R w t c, (x_perf (wl o (wds o o.length 0 o.length)) S1).2, n + 1)
def x_carries (R : RS) (gv : Nat → Option (List Nat)) (w t : Nat) (ch : CH) (ds : List Nat) (nw : List Bool) : List (List Nat) → PS → Nat → Bool × PS × Nat
  | [], S, n => (true, S, n)
  | c :: cs, S, n => if (x_carry R gv w t ch ds nw c S n).1 = true then x_carries R gv w t ch ds nw cs (x_carry R gv w t ch ds nw c S n).2.1 (x_carry R gv w t ch ds nw c S n).2.2 else (false, (x_carry R gv w t ch ds nw c S n).2.1, (x_carry R gv w t ch ds nw c S n).2.2)
def x_cmds (R : RS) (ch : CH) : List (List Nat) := (rCm R).filterMap (fun x => if some x.1 = ch.1 then some x.2 else none)
def x_touched (R : RS) (w t : Nat) (ch : CH) (S : PS) : PS :=
  if ¬ x_cmds R ch = [] ∧ op w 4 = true ∧ op w 2 = false ∧ op w 8 = false ∧ rFl R 1 t = false then (pN S, up1 (pF S) t (pC S + 1, (pF S t).2), pC S + 1, if x_silent R w t = true then pP S else x_puts (pP S) (q_touch ++ [32] ++ (pN S).getD t [] ++ [10])) else S
/-- also: commands done, some out of date, fates -/
abbrev BS : Type := PS × Nat × Bool × (Nat → Nat)
abbrev bG (S : BS) : Nat → Nat := S.2.2.2
def wG (S : BS) (t x : Nat) : BS := (S.1, S.2.1, S.2.2.1, up1 (bG S) t x)
def x_nw (S : BS) (t : Nat) (ds : List Nat) : List Bool := ds.map (fun d => decide (bG S d = 2) || decide ((pF S.1 t).1 < (pF S.1 d).1))
def x_fin (R : RS) (gv : Nat → Option (List Nat)) (w t : Nat) (ch : CH) (S : BS) : BS :=
  if (pF S.1 t).1 = 0 ∨ rFl R 1 t = true ∨ true ∈ x_nw S t (x_deps R ch t) then
    let x := x_carries R gv w t ch (x_deps R ch t) (x_nw S t (x_deps R ch t)) (x_cmds R ch) (x_touched R w t ch S.1) S.2.1
    (x.2.1, x.2.2, true, up1 (bG S) t (if x.1 = true then 2 else 3))
  else wG S t 1
/-- a dependency is looked at -/
def x_dep (w : Nat) (u : List Nat) (upd : Nat → BS → BS) (a : Bool × BS) (d : Nat) : Bool × BS :=
  if a.1 = true ∧ op w 1 = false then a
  else if bG a.2 d = 0 ∧ ¬ d ∈ u then (a.1 || decide (bG (upd d a.2) d = 3), upd d a.2)
  else (a.1 || decide (d ∈ u) || decide (bG a.2 d = 3), a.2)
def x_upd (R : RS) (gv : Nat → Option (List Nat)) (w : Nat) : Nat → List Nat → Nat → BS → BS
  | 0, _, _, S => S
  | n + 1, u, t, S => match x_choose R (pN S.1) (pF S.1) t with
    | none => wG S t 3
    | some ch =>
      let x := (x_deps R ch t).foldl (x_dep w (t :: u) (x_upd R gv w n (t :: u))) (false, S)
      if x.1 = true then wG x.2 t 3 else x_fin R gv w t ch x.2
