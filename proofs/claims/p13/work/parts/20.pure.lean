section PM
/-- a meaning: kind, value, parameter text, replacement -/
abbrev pm_Mn : Type := Nat × Nat × List Nat × List Nat
/-- the tokeniser's state: status, raw input left, pending (front first), names -/
abbrev pm_T : Type := Nat × List Nat × List Nat × List (List Nat)
/-- a save: item, level, meaning, catcode -/
abbrev pm_Sv : Type := Nat × Nat × pm_Mn × Nat
/-- the rest of the state: catcodes, meanings, saves (the last one first), depth, conditionals (the top first), output, expansions used -/
abbrev pm_Q : Type := (Nat → Nat) × (Nat → pm_Mn) × List pm_Sv × Nat × List Nat × List Nat × Nat
abbrev pm_P : Type := pm_T × pm_Q
def pm_m0 : pm_Mn := (0, 0, [], [])
def pm_err (k : Nat) (T : pm_T) : pm_T := (k, T.2)
def pm_len (T : pm_T) : Nat := T.2.1.length + T.2.2.1.length
def pm_cat (t : Nat) : Nat := if t < 1024 then t / 128 else 0
def pm_chr (t : Nat) : Nat := if t < 1024 then t % 128 else 1000
def pm_front (t : Nat) (T : pm_T) : pm_T := (T.1, T.2.1, t :: T.2.2.1, T.2.2.2)
def pm_upF {α : Type} (f : Nat → α) (k : Nat) (v : α) : Nat → α := fun j => if j = k then v else f j
def pm_look (ns : List (List Nat)) (w r : List Nat) : Option Nat × pm_T :=
  if ns.idxOf w < ns.length then (some (1024 + ns.idxOf w), (0, r, [], ns))
  else if 32 ≤ ns.length then (none, (5, r, [], ns))
  else (some (1024 + ns.length), (0, r, [], ns ++ [w]))
def pm_word (C : Nat → Nat) (n : Nat) (cs : List Nat) : List Nat := if C n = 5 then n :: cs.takeWhile (fun c => C c == 5) else [n]
def pm_rest (C : Nat → Nat) (n : Nat) (cs : List Nat) : List Nat := if C n = 5 then (cs.dropWhile (fun c => C c == 5)).dropWhile (fun c => C c == 4) else cs
def pm_cs (C : Nat → Nat) (ns : List (List Nat)) : List Nat → Option Nat × pm_T
  | [] => (none, (3, [], [], ns))
  | n :: cs => if 8 < (pm_word C n cs).length then (none, (4, pm_rest C n cs, [], ns)) else pm_look ns (pm_word C n cs) (pm_rest C n cs)
def pm_raw (e : Nat) (C : Nat → Nat) (ns : List (List Nat)) : List Nat → Option Nat × pm_T
  | [] => (none, (e, [], [], ns))
  | c :: cs => if C c = 0 then pm_cs C ns cs else if C c = 7 then pm_raw e C ns cs else (some (C c * 128 + c), (0, cs, [], ns))
def pm_take (e : Nat) (C : Nat → Nat) (T : pm_T) : Option Nat × pm_T :=
  match T with
  | (st, rest, t :: ps, ns) => (some t, (st, rest, ps, ns))
  | (_, rest, [], ns) => pm_raw e C ns rest
def pm_prim (M : Nat → pm_Mn) (t : Nat) : Nat := if t < 1024 then 99 else if (M (t - 1024)).1 = 1 then (M (t - 1024)).2.1 else 99
def pm_skip (C : Nat → Nat) (M : Nat → pm_Mn) (els : Bool) : Nat → Nat → pm_T → Nat × pm_T
  | 0, _, T => (99, T)
  | f + 1, nest, T => match pm_take 3 C T with
    | (none, T') => (99, T')
    | (some t, T') =>
      if nest = 0 ∧ (pm_prim M t = 13 ∨ (pm_prim M t = 12 ∧ els = true)) then (pm_prim M t, T')
      else if 9 ≤ pm_prim M t ∧ pm_prim M t ≤ 11 then pm_skip C M els f (nest + 1) T'
      else if pm_prim M t = 13 then pm_skip C M els f (nest - 1) T'
      else pm_skip C M els f nest T'
/-- groups -/
def pm_open : pm_P → pm_P
  | (T, C, M, S, d, q) => if 8 ≤ d then (pm_err 10 T, C, M, S, d, q) else (T, C, M, S, d + 1, q)
def pm_pop (d : Nat) : List pm_Sv → (Nat → Nat) → (Nat → pm_Mn) → List pm_Sv × (Nat → Nat) × (Nat → pm_Mn)
  | [], C, M => ([], C, M)
  | s :: S, C, M => if s.2.1 = d then (if s.1 < 32 then pm_pop d S C (pm_upF M s.1 s.2.2.1) else pm_pop d S (pm_upF C (s.1 - 32) s.2.2.2) M) else (s :: S, C, M)
def pm_close : pm_P → pm_P
  | (T, C, M, S, d, q) => if d = 0 then (pm_err 9 T, C, M, S, d, q) else (T, (pm_pop d S C M).2.1, (pm_pop d S C M).2.2, (pm_pop d S C M).1, d - 1, q)
def pm_sav (i d : Nat) : List pm_Sv → Bool
  | [] => false
  | s :: S => if s.2.1 = d then (if s.1 = i then true else pm_sav i d S) else false
def pm_setAll (i : Nat) (m : pm_Mn) (k : Nat) (S : List pm_Sv) : List pm_Sv := S.map fun s => if s.1 = i then (s.1, s.2.1, m, k) else s
def pm_assign (g : Bool) (i : Nat) (m : pm_Mn) (k : Nat) : pm_P → pm_P
  | (T, C, M, S, d, q) =>
    if g = true then (T, (if i < 32 then C else pm_upF C (i - 32) k), (if i < 32 then pm_upF M i m else M), pm_setAll i m k S, d, q)
    else if d = 0 ∨ pm_sav i d S = true then (T, (if i < 32 then C else pm_upF C (i - 32) k), (if i < 32 then pm_upF M i m else M), S, d, q)
    else if 32 ≤ S.length then (pm_err 11 T, C, M, S, d, q)
    else (T, (if i < 32 then C else pm_upF C (i - 32) k), (if i < 32 then pm_upF M i m else M), (i, d, M i, C (i - 32)) :: S, d, q)
/-- def, let, catcode -/
def pm_pt (C : Nat → Nat) : Nat → Nat → List Nat → pm_T → Option (Nat × List Nat) × pm_T
  | 0, _, _, T => (none, T)
  | f + 1, n, acc, T => match pm_take 3 C T with
    | (none, T1) => (none, T1)
    | (some t, T1) =>
      if pm_cat t = 1 then (some (n, acc), T1)
      else if pm_cat t = 2 then (none, pm_err 6 T1)
      else if pm_cat t = 3 then
        match pm_take 3 C T1 with
        | (none, T2) => (none, T2)
        | (some v, T2) => if pm_chr v = 49 + n then (if acc.length = 8 then (none, pm_err 7 T2) else pm_pt C f (n + 1) (acc ++ [2049 + n]) T2) else (none, pm_err 6 T2)
      else if acc.length = 8 then (none, pm_err 7 T1) else pm_pt C f n (acc ++ [t]) T1
def pm_nest (t d : Nat) : Nat := if pm_cat t = 1 then d + 1 else if pm_cat t = 2 then d - 1 else d
/-- what a cat-3 token t and the one behind it stand for -/
def pm_pair (n t v : Nat) : Option Nat := if pm_cat v = 3 then some t else if 49 ≤ pm_chr v ∧ pm_chr v ≤ 48 + n then some (2000 + pm_chr v) else none
def pm_rt (C : Nat → Nat) (n : Nat) : Nat → Nat → List Nat → pm_T → Option (List Nat) × pm_T
  | 0, _, _, T => (none, T)
  | f + 1, d, acc, T => match pm_take 3 C T with
    | (none, T1) => (none, T1)
    | (some t, T1) =>
      if pm_cat t = 2 ∧ d = 0 then (some acc, T1)
      else if pm_cat t = 3 then
        match pm_take 3 C T1 with
        | (none, T2) => (none, T2)
        | (some v, T2) => match pm_pair n t v with
          | none => (none, pm_err 6 T2)
          | some w => if acc.length = 24 then (none, pm_err 7 T2) else pm_rt C n f d (acc ++ [w]) T2
      else if acc.length = 24 then (none, pm_err 7 T1) else pm_rt C n f (pm_nest t d) (acc ++ [t]) T1
def pm_def (g : Bool) : pm_P → pm_P
  | (T, C, q) => match pm_take 3 C T with
    | (none, T1) => (T1, C, q)
    | (some t, T1) => if t < 1024 then (pm_err 6 T1, C, q) else match pm_pt C 9 0 [] T1 with
      | (none, T2) => (T2, C, q)
      | (some (n, pt), T2) => match pm_rt C n 25 0 [] T2 with
        | (none, T3) => (T3, C, q)
        | (some rt, T3) => pm_assign g (t - 1024) (2, n, pt, rt) 0 (T3, C, q)
def pm_mng (M : Nat → pm_Mn) (t : Nat) : pm_Mn := if t < 1024 then (3, t, [], []) else M (t - 1024)
def pm_let (g : Bool) : pm_P → pm_P
  | (T, C, M, q) => match pm_take 3 C T with
    | (none, T1) => (T1, C, M, q)
    | (some t, T1) => if t < 1024 then (pm_err 6 T1, C, M, q) else match pm_take 3 C T1 with
      | (none, T2) => (T2, C, M, q)
      | (some v, T2) => pm_assign g (t - 1024) (pm_mng M v) 0 (T2, C, M, q)
/-- the char that a token means for catcode: 1000 if none -/
def pm_cm (ns : List (List Nat)) (t : Nat) : Nat := if t < 1024 then t % 128 else match ns.getD (t - 1024) [] with
  | [c] => c
  | _ => 1000
def pm_catc (g : Bool) : pm_P → pm_P
  | (T, C, q) => match pm_take 3 C T with
    | (none, T1) => (T1, C, q)
    | (some t, T1) => if pm_cm T1.2.2.2 t = 1000 then (pm_err 14 T1, C, q) else match pm_take 3 C T1 with
      | (none, T2) => (T2, C, q)
      | (some v, T2) => if 48 ≤ pm_chr v ∧ pm_chr v ≤ 55 then pm_assign g (32 + pm_cm T1.2.2.2 t) pm_m0 (pm_chr v - 48) (T2, C, q) else (pm_err 14 T2, C, q)
/-- expansion -/
def pm_pre (C : Nat → Nat) : List Nat → pm_T → Bool × pm_T
  | [], T => (true, T)
  | a :: as, T => match pm_take 3 C T with
    | (none, T1) => (false, T1)
    | (some t, T1) => if t = a then pm_pre C as T1 else (false, pm_err 8 T1)
def pm_sp (C : Nat → Nat) : Nat → pm_T → Option Nat × pm_T
  | 0, T => (none, T)
  | f + 1, T => match pm_take 3 C T with
    | (none, T1) => (none, T1)
    | (some t, T1) => if pm_cat t = 4 then pm_sp C f T1 else (some t, T1)
def pm_grp (b : Bool) (C : Nat → Nat) (room : Nat) : Nat → Nat → List Nat → pm_T → Option (List Nat) × pm_T
  | 0, _, _, T => (none, T)
  | f + 1, d, acc, T => match pm_take 3 C T with
    | (none, T1) => (none, T1)
    | (some t, T1) => if pm_nest t d = 0 then (some acc, T1)
      else if b = true ∧ room ≤ acc.length then (none, pm_err 16 T1)
      else pm_grp b C room f (pm_nest t d) (acc ++ [t]) T1
def pm_und (b : Bool) (C : Nat → Nat) (room : Nat) (T : pm_T) : Option (List Nat) × pm_T :=
  match pm_sp C (pm_len T + 1) T with
  | (none, T1) => (none, T1)
  | (some t, T1) => if pm_cat t = 2 then (none, pm_err 8 T1)
    else if pm_cat t = 1 then pm_grp b C room (pm_len T1 + 1) 1 [] T1
    else if b = true ∧ room ≤ 0 then (none, pm_err 16 T1) else (some [t], T1)
def pm_ah (C : Nat → Nat) : List Nat → pm_T → Option Bool × pm_T
  | [], T => (some true, T)
  | a :: as, T => match pm_take 3 C T with
    | (none, T1) => (none, T1)
    | (some t, T1) => if t = a then (match pm_ah C as T1 with
        | (none, T2) => (none, T2)
        | (some true, T2) => (some true, T2)
        | (some false, T2) => (some false, pm_front t T2)) else (some false, pm_front t T1)
def pm_og (og : Bool) (d t : Nat) (acc : List Nat) : Bool := if d = 0 then (pm_cat t == 1 && acc.isEmpty) else og
def pm_ob (og : Bool) (d : Nat) : Nat := if og = true then (if 0 < d then 1 else 2) else 0
def pm_del (b : Bool) (C : Nat → Nat) (room : Nat) (dl : List Nat) : Nat → Nat → Bool → List Nat → pm_T → Option (List Nat) × pm_T
  | 0, _, _, _, T => (none, T)
  | f + 1, d, og, acc, T => match (if d = 0 then pm_ah C dl T else (some false, T)) with
    | (none, T1) => (none, T1)
    | (some true, T1) => (some (if og = true then acc.tail.dropLast else acc), T1)
    | (some false, T1) => match pm_take 3 C T1 with
      | (none, T2) => (none, T2)
      | (some t, T2) => if d = 0 ∧ pm_cat t = 2 then (none, pm_err 8 T2)
        else if b = true ∧ room + pm_ob (pm_og og d t acc) (pm_nest t d) ≤ acc.length then (none, pm_err 16 T2)
        else pm_del b C room dl f (pm_nest t d) (pm_og og d t acc) (acc ++ [t]) T2
def pm_arg (b : Bool) (C : Nat → Nat) (room : Nat) (dl : List Nat) (T : pm_T) : Option (List Nat) × pm_T :=
  if dl.isEmpty then pm_und b C room T else pm_del b C room dl (pm_len T + 1) 0 false [] T
def pm_args (b : Bool) (C : Nat → Nat) : Nat → List Nat → Nat → List (List Nat) → pm_T → Option (List (List Nat)) × pm_T
  | 0, _, _, acc, T => (some acc, T)
  | n + 1, pt, tot, acc, T => match pm_arg b C (256 - tot) (pt.tail.takeWhile (fun r => decide (r < 2048))) T with
    | (none, T1) => (none, T1)
    | (some a, T1) => if 256 < tot + a.length then (none, pm_err 16 T1)
      else pm_args b C n (pt.tail.dropWhile (fun r => decide (r < 2048))) (tot + a.length) (acc ++ [a]) T1
def pm_sub (as : List (List Nat)) (rt : List Nat) : List Nat := rt.flatMap fun r => if r < 2048 then [r] else as.getD (r - 2049) []
def pm_exp (b : Bool) (lim n : Nat) : pm_P → pm_P
  | (T, C, M, S, d, c, o, x) => if lim ≤ x then (pm_err 17 T, C, M, S, d, c, o, x) else
    match pm_pre C ((M n).2.2.1.takeWhile (fun r => decide (r < 2048))) T with
    | (false, T1) => (T1, C, M, S, d, c, o, x + 1)
    | (true, T1) => match pm_args b C (M n).2.1 ((M n).2.2.1.dropWhile (fun r => decide (r < 2048))) 0 [] T1 with
      | (none, T2) => (T2, C, M, S, d, c, o, x + 1)
      | (some as, T2) => if 256 < (pm_sub as (M n).2.2.2).length + T2.2.2.1.length then (pm_err 16 T2, C, M, S, d, c, o, x + 1)
        else ((T2.1, T2.2.1, pm_sub as (M n).2.2.2 ++ T2.2.2.1, T2.2.2.2), C, M, S, d, c, o, x + 1)
/-- conditionals -/
def pm_push (k : Nat) : pm_P → pm_P
  | (T, C, M, S, d, c, q) => if 8 ≤ c.length then (pm_err 12 T, C, M, S, d, c, q) else (T, C, M, S, d, k :: c, q)
def pm_if (h : Bool) : pm_P → pm_P
  | (T, C, M, q) => if h = true then pm_push 0 (T, C, M, q) else match pm_skip C M true (pm_len T + 1) 0 T with
    | (p, T1) => if p = 12 then pm_push 1 (T1, C, M, q) else (T1, C, M, q)
def pm_ifx : pm_P → pm_P
  | (T, C, M, q) => match pm_take 3 C T with
    | (none, T1) => (T1, C, M, q)
    | (some t, T1) => match pm_take 3 C T1 with
      | (none, T2) => (T2, C, M, q)
      | (some v, T2) => pm_if (decide (pm_mng M t = pm_mng M v)) (T2, C, M, q)
def pm_else : pm_P → pm_P
  | (T, C, M, S, d, c, q) => if c = [] ∨ c.head? = some 1 then (pm_err 13 T, C, M, S, d, c, q) else match pm_skip C M false (pm_len T + 1) 0 T with
    | (p, T1) => if p = 13 then (T1, C, M, S, d, c.tail, q) else (T1, C, M, S, d, c, q)
def pm_fi : pm_P → pm_P
  | (T, C, M, S, d, c, q) => if c = [] then (pm_err 13 T, C, M, S, d, c, q) else (T, C, M, S, d, c.tail, q)
/-- the main loop -/
def pm_out (t : Nat) : pm_P → pm_P
  | (T, C, M, S, d, c, o, x) => if T.1 = 0 then (if 256 ≤ o.length then (pm_err 15 T, C, M, S, d, c, o, x) else (T, C, M, S, d, c, o ++ [t], x)) else (T, C, M, S, d, c, o, x)
def pm_char (t : Nat) (P : pm_P) : pm_P := if pm_cat t = 1 then pm_out t (pm_open P) else if pm_cat t = 2 then pm_out t (pm_close P) else pm_out t P
def pm_act (p : Nat) (P : pm_P) : pm_P :=
  if p = 0 ∨ p = 1 then pm_def (p == 1) P
  else if p = 2 ∨ p = 3 then pm_let (p == 3) P
  else if p = 5 then pm_open P
  else if p = 6 then pm_close P
  else if p = 7 ∨ p = 8 then pm_catc (p == 8) P
  else if p = 9 ∨ p = 10 then pm_if (p == 9) P
  else if p = 11 then pm_ifx P
  else if p = 12 then pm_else P
  else if p = 13 then pm_fi P
  else P
def pm_step (b : Bool) (lim t : Nat) (P : pm_P) : pm_P :=
  if t < 1024 then pm_char t P
  else if (P.2.2.1 (t - 1024)).1 = 0 then (pm_err 2 P.1, P.2)
  else if (P.2.2.1 (t - 1024)).1 = 2 then pm_exp b lim (t - 1024) P
  else if (P.2.2.1 (t - 1024)).1 = 1 then pm_act (P.2.2.1 (t - 1024)).2.1 P
  else pm_char (P.2.2.1 (t - 1024)).2.1 P
def pm_run (b : Bool) (lim : Nat) : Nat → pm_P → pm_P
  | 0, P => P
  | f + 1, P => if P.1.1 ≠ 0 then P else match pm_take 1 P.2.1 P.1 with
    | (none, T1) => (T1, P.2)
    | (some t, T1) => pm_run b lim f (pm_step b lim t (T1, P.2))
end PM
