section QB
/-- the first state of the rest, and what commands leave alone -/
def qb_Q0 : pm_Q := (ci_C, ii_M, [], 0, [], [], 0)
/-- an item that commands may give a value -/
def qb_it (j : Nat) : Prop := (j < 32 → 14 ≤ j) ∧ (32 ≤ j → qa_four (j - 32))
def qb_V (ns : List (List Nat)) (Q : pm_Q) : Prop := pi_I 100 ((0, [], [], ns), Q) ∧ ci_ns <+: ns ∧ (qa_C Q.1 ∧ ∀ i, i < 14 → Q.2.1 i = ii_M i) ∧ (∀ s, s ∈ Q.2.2.1 → qb_it s.1) ∧ ns.Nodup
theorem qb_V0 : qb_V ci_ns qb_Q0 := ⟨ii_I (Nat.le_refl _), List.prefix_refl _, ⟨fun _ _ => rfl, fun _ _ => rfl⟩, fun s hs => (nomatch hs), by decide⟩
theorem qb_I {ns : List (List Nat)} {Q : pm_Q} (h : qb_V ns Q) {r : List Nat} (hr : ∀ c, c ∈ r → c < 128) (hl : r.length ≤ 256) : pi_I 100 ((0, r, [], ns), Q) := by
  obtain ⟨⟨⟨i1, i2, i3, i4, i5⟩, i6⟩, _⟩ := h
  exact ⟨⟨i1, hr, hl, i4, i5⟩, i6⟩
theorem qb_run1 {f t : Nat} {T T' : pm_T} {Q : pm_Q} (h0 : T.1 = 0) (h : pm_take 1 Q.1 T = (some t, T')) : pm_run true 100 (f + 1) (T, Q) = pm_run true 100 f (pm_step true 100 t (T', Q)) := by
  conv => lhs; unfold pm_run
  rw [if_neg (fun z => z h0)]
  show (match pm_take 1 Q.1 T with | (none, T1) => (T1, Q) | (some t, T1) => pm_run true 100 f (pm_step true 100 t (T1, Q))) = _
  rw [h]
theorem qb_run0 {f : Nat} {T T' : pm_T} {Q : pm_Q} (h0 : T.1 = 0) (h : pm_take 1 Q.1 T = (none, T')) : pm_run true 100 (f + 1) (T, Q) = (T', Q) := by
  conv => lhs; unfold pm_run
  rw [if_neg (fun z => z h0)]
  show (match pm_take 1 Q.1 T with | (none, T1) => (T1, Q) | (some t, T1) => pm_run true 100 f (pm_step true 100 t (T1, Q))) = _
  rw [h]
/-- a primitive's word -/
theorem qb_prim {f n p : Nat} {w r : List Nat} {ns : List (List Nat)} {Q : pm_Q} (hV : qb_V ns Q) (hn : Q.1 n = 5) (hw : ∀ c, c ∈ w → Q.1 c = 5) (hr : qa_end Q.1 r) (h8 : w.length + 1 ≤ 8) (hm : (n :: w) ∈ ci_ns) (hp : ci_ns.idxOf (n :: w) = p) : pm_run true 100 (f + 1) ((0, 92 :: n :: (w ++ r), [], ns), Q) = pm_run true 100 f (pm_act p ((0, r, [], ns), Q)) := by
  obtain ⟨_, hns, ⟨hC, hM⟩, _, _⟩ := hV
  obtain ⟨e1, e2⟩ := qa_first hns hm
  have h92 : Q.1 92 = 0 := qa_c hC (by omega) rfl
  have hp14 : p < 14 := by rw [← hp]; exact List.idxOf_lt_length_iff.mpr hm
  have ht : pm_take 1 Q.1 (0, 92 :: n :: (w ++ r), [], ns) = (some (1024 + p), (0, r, [], ns)) := by
    rw [qa_word h92 hn hw hr, if_neg (by omega)]
    unfold pm_look
    rw [if_pos e2, e1, hp]
  rw [qb_run1 rfl ht]
  congr 1
  have hMp : Q.2.1 p = (1, p, [], []) := by
    rw [hM p hp14]
    exact if_pos hp14
  unfold pm_step
  rw [if_neg (by omega), Nat.add_sub_cancel_left]
  show (if (Q.2.1 p).1 = 0 then _ else if (Q.2.1 p).1 = 2 then _ else if (Q.2.1 p).1 = 1 then pm_act (Q.2.1 p).2.1 _ else _) = _
  rw [hMp]
  rfl
/-- one turn of the replacement's loop -/
theorem qb_rtS {C : Nat → Nat} {n f d t : Nat} {acc : List Nat} {T T1 : pm_T} (h : pm_take 3 C T = (some t, T1)) : pm_rt C n (f + 1) d acc T = (if pm_cat t = 2 ∧ d = 0 then (some acc, T1) else if pm_cat t = 3 then (match pm_take 3 C T1 with | (none, T2) => (none, T2) | (some v, T2) => match pm_pair n t v with | none => (none, pm_err 6 T2) | some w => if acc.length = 24 then (none, pm_err 7 T2) else pm_rt C n f d (acc ++ [w]) T2) else if acc.length = 24 then (none, pm_err 7 T1) else pm_rt C n f (pm_nest t d) (acc ++ [t]) T1) := by
  show (match pm_take 3 C T with | (none, T1) => (none, T1) | (some t, T1) => if pm_cat t = 2 ∧ d = 0 then (some acc, T1) else if pm_cat t = 3 then (match pm_take 3 C T1 with | (none, T2) => (none, T2) | (some v, T2) => match pm_pair n t v with | none => (none, pm_err 6 T2) | some w => if acc.length = 24 then (none, pm_err 7 T2) else pm_rt C n f d (acc ++ [w]) T2) else if acc.length = 24 then (none, pm_err 7 T1) else pm_rt C n f (pm_nest t d) (acc ++ [t]) T1) = _
  rw [h]
/-- the letters of a replacement, and the brace that ends it -/
theorem qb_rt {C : Nat → Nat} {ns : List (List Nat)} {r : List Nat} (h125 : C 125 = 2) : ∀ (l acc : List Nat) (f : Nat), (∀ c, c ∈ l → C c = 5 ∧ c < 128) → acc.length + l.length ≤ 24 → l.length < f → pm_rt C 0 f 0 acc (0, l ++ 125 :: r, [], ns) = (some (acc ++ l.map (fun c => 640 + c)), (0, r, [], ns)) := by
  intro l
  induction l with
  | nil =>
    intro acc f _ _ hf
    obtain ⟨f, rfl⟩ : ∃ m, f = m + 1 := ⟨f - 1, by omega⟩
    have ht : pm_take 3 C (0, [] ++ 125 :: r, [], ns) = (some (2 * 128 + 125), (0, r, [], ns)) := qa_chr h125 (by decide) (by decide) 0
    rw [qb_rtS ht, if_pos ⟨rfl, rfl⟩, List.map_nil, List.append_nil]
  | cons c l ih =>
    intro acc f hl hb hf
    obtain ⟨f, rfl⟩ : ∃ m, f = m + 1 := ⟨f - 1, by omega⟩
    obtain ⟨h5, h128⟩ := hl c List.mem_cons_self
    have hb' : acc.length + (l.length + 1) ≤ 24 := hb
    have hf' : l.length + 1 < f + 1 := hf
    have ht : pm_take 3 C (0, c :: l ++ 125 :: r, [], ns) = (some (5 * 128 + c), (0, l ++ 125 :: r, [], ns)) := qa_chr h5 (by decide) (by decide) 0
    have hc : pm_cat (5 * 128 + c) = 5 := by
      unfold pm_cat
      rw [if_pos (by omega)]
      omega
    have hn : pm_nest (5 * 128 + c) 0 = 0 := by
      unfold pm_nest
      rw [hc]
      rfl
    rw [qb_rtS ht, hc, hn, if_neg (fun z => absurd z.1 (by decide)), if_neg (by decide), if_neg (by omega), ih _ f (fun c hc => hl c (List.mem_cons_of_mem _ hc)) (by rw [List.length_append]; simp only [List.length_cons, List.length_nil]; omega) (by omega), List.map_cons, List.append_assoc]
    rfl
theorem qb_pt {C : Nat → Nat} {f : Nat} {ns : List (List Nat)} {r : List Nat} (h123 : C 123 = 1) : pm_pt C (f + 1) 0 [] (0, 123 :: r, [], ns) = (some (0, []), (0, r, [], ns)) := by
  have ht : pm_take 3 C (0, 123 :: r, [], ns) = (some (1 * 128 + 123), (0, r, [], ns)) := qa_chr h123 (by decide) (by decide) 0
  show (match pm_take 3 C (0, 123 :: r, [], ns) with | (none, T1) => (none, T1) | (some t, T1) => if pm_cat t = 1 then (some (0, []), T1) else _) = _
  rw [ht]
  rfl
/-- a name that is no primitive -/
theorem qb_idx {ns : List (List Nat)} {w : List Nat} (h : ci_ns <+: ns) (hw : w ∉ ci_ns) : 14 ≤ ns.idxOf w := by
  obtain ⟨t, rfl⟩ := h
  rw [List.idxOf_append, if_neg hw]
  exact Nat.le_add_left _ _
theorem qb_full {ns : List (List Nat)} {w r : List Nat} (h : ¬ (ns.idxOf w < ns.length ∨ ns.length < 32)) : pm_look ns w r = (none, (5, r, [], ns)) := by
  unfold pm_look
  rw [if_neg (fun z => h (Or.inl z)), if_pos (by omega)]
theorem qb_def {g : Bool} {i : Nat} {l r : List Nat} {ns : List (List Nat)} {C : Nat → Nat} {q : (Nat → pm_Mn) × List pm_Sv × Nat × List Nat × List Nat × Nat} (hC : qa_C C) (hl : ∀ c, c ∈ l → 97 ≤ c ∧ c ≤ 104) (hl3 : l.length ≤ 3) (hi : i < 4) :
    (¬ (ns.idxOf [112 + i] < ns.length ∨ ns.length < 32) → (pm_def g ((0, 92 :: (112 + i) :: 123 :: (l ++ 125 :: r), [], ns), C, q)).1.1 = 5) ∧ ((ns.idxOf [112 + i] < ns.length ∨ ns.length < 32) → pm_def g ((0, 92 :: (112 + i) :: 123 :: (l ++ 125 :: r), [], ns), C, q) = pm_assign g ((qa_add ns [112 + i]).idxOf [112 + i]) (2, 0, [], l.map (fun c => 640 + c)) 0 ((0, r, [], qa_add ns [112 + i]), C, q)) := by
  have h92 : C 92 = 0 := qa_c hC (by omega) rfl
  have h123 : C 123 = 1 := qa_c hC (by omega) rfl
  have h125 : C 125 = 2 := qa_c hC (by omega) rfl
  have ht : pm_take 3 C (0, 92 :: (112 + i) :: 123 :: (l ++ 125 :: r), [], ns) = pm_look ns [112 + i] (123 :: (l ++ 125 :: r)) := qa_sym h92 (by rw [h123]; decide) (by rw [h123]; decide) 0
  refine ⟨fun hf => ?_, fun hf => ?_⟩
  · show (match pm_take 3 C (0, 92 :: (112 + i) :: 123 :: (l ++ 125 :: r), [], ns) with | (none, T1) => ((T1, C, q) : pm_P) | (some t, T1) => _).1.1 = 5
    rw [ht, qb_full hf]
  · obtain ⟨k1, k2, k3, k4⟩ := qa_look (r := 123 :: (l ++ 125 :: r)) hf
    have hlet : ∀ c, c ∈ l → C c = 5 ∧ c < 128 := fun c hc => by
      have := hl c hc
      refine ⟨?_, by omega⟩
      rw [hC c (fun z => by unfold qa_four at z; omega)]
      unfold ci_C ci_c
      rw [if_neg (by omega), if_neg (by omega), if_neg (by omega), if_neg (by omega), if_neg (by omega), if_pos (by omega)]
    have hpt : pm_pt C 9 0 [] (0, 123 :: (l ++ 125 :: r), [], qa_add ns [112 + i]) = (some (0, []), (0, l ++ 125 :: r, [], qa_add ns [112 + i])) := qb_pt (f := 8) h123
    have hrt : pm_rt C 0 25 0 [] (0, l ++ 125 :: r, [], qa_add ns [112 + i]) = (some (l.map (fun c => 640 + c)), (0, r, [], qa_add ns [112 + i])) := qb_rt h125 l [] 25 hlet (by show 0 + _ ≤ _; omega) (by omega)
    have e : ∀ T : pm_T, pm_def g (T, C, q) = match pm_take 3 C T with
        | (none, T1) => (T1, C, q)
        | (some t, T1) => if t < 1024 then (pm_err 6 T1, C, q) else match pm_pt C 9 0 [] T1 with
          | (none, T2) => (T2, C, q)
          | (some (n, pt), T2) => match pm_rt C n 25 0 [] T2 with
            | (none, T3) => (T3, C, q)
            | (some rt, T3) => pm_assign g (t - 1024) (2, n, pt, rt) 0 (T3, C, q) := fun T => rfl
    rw [e, ht, k1]
    show (if 1024 + (qa_add ns [112 + i]).idxOf [112 + i] < 1024 then (pm_err 6 (0, 123 :: (l ++ 125 :: r), [], qa_add ns [112 + i]), C, q) else match pm_pt C 9 0 [] (0, 123 :: (l ++ 125 :: r), [], qa_add ns [112 + i]) with
          | (none, T2) => (T2, C, q)
          | (some (n, pt), T2) => match pm_rt C n 25 0 [] T2 with
            | (none, T3) => (T3, C, q)
            | (some rt, T3) => pm_assign g (1024 + (qa_add ns [112 + i]).idxOf [112 + i] - 1024) (2, n, pt, rt) 0 (T3, C, q)) = _
    rw [if_neg (by omega), hpt]
    show (match pm_rt C 0 25 0 [] (0, l ++ 125 :: r, [], qa_add ns [112 + i]) with
            | (none, T3) => (T3, C, q)
            | (some rt, T3) => pm_assign g (1024 + (qa_add ns [112 + i]).idxOf [112 + i] - 1024) (2, 0, [], rt) 0 (T3, C, q)) = _
    rw [hrt, Nat.add_sub_cancel_left]
theorem qb_let {g : Bool} {i c : Nat} {r : List Nat} {ns : List (List Nat)} {C : Nat → Nat} {M : Nat → pm_Mn} {q : List pm_Sv × Nat × List Nat × List Nat × Nat} (hC : qa_C C) (hc : 97 ≤ c ∧ c ≤ 104) (hi : i < 4) :
    (¬ (ns.idxOf [112 + i] < ns.length ∨ ns.length < 32) → (pm_let g ((0, 92 :: (112 + i) :: 32 :: c :: r, [], ns), C, M, q)).1.1 = 5) ∧ ((ns.idxOf [112 + i] < ns.length ∨ ns.length < 32) → pm_let g ((0, 92 :: (112 + i) :: 32 :: c :: r, [], ns), C, M, q) = pm_assign g ((qa_add ns [112 + i]).idxOf [112 + i]) (3, 640 + c, [], []) 0 ((0, r, [], qa_add ns [112 + i]), C, M, q)) := by
  have h92 : C 92 = 0 := qa_c hC (by omega) rfl
  have h32 : C 32 = 4 := qa_c hC (by omega) rfl
  have h5 : ∀ y, 97 ≤ y → y ≤ 122 → C y = 5 := fun y y1 y2 => by
    rw [hC y (fun z => by unfold qa_four at z; omega)]
    unfold ci_C ci_c
    rw [if_neg (by omega), if_neg (by omega), if_neg (by omega), if_neg (by omega), if_neg (by omega), if_pos (by omega)]
  have hc5 := h5 c hc.1 (by omega)
  have ht : pm_take 3 C (0, 92 :: (112 + i) :: 32 :: c :: r, [], ns) = pm_look ns [112 + i] (c :: r) := qa_wordS h92 h32 (h5 _ (by omega) (by omega)) (by rw [hc5]; decide) 0
  refine ⟨fun hf => ?_, fun hf => ?_⟩
  · show (match pm_take 3 C (0, 92 :: (112 + i) :: 32 :: c :: r, [], ns) with | (none, T1) => ((T1, C, M, q) : pm_P) | (some t, T1) => _).1.1 = 5
    rw [ht, qb_full hf]
  · obtain ⟨k1, k2, k3, k4⟩ := qa_look (r := c :: r) hf
    have ht2 : pm_take 3 C (0, c :: r, [], qa_add ns [112 + i]) = (some (5 * 128 + c), (0, r, [], qa_add ns [112 + i])) := qa_chr hc5 (by decide) (by decide) 0
    have hm : pm_mng M (5 * 128 + c) = (3, 640 + c, [], []) := by
      unfold pm_mng
      rw [if_pos (by omega)]
    have e : ∀ T : pm_T, pm_let g (T, C, M, q) = match pm_take 3 C T with
        | (none, T1) => (T1, C, M, q)
        | (some t, T1) => if t < 1024 then (pm_err 6 T1, C, M, q) else match pm_take 3 C T1 with
          | (none, T2) => (T2, C, M, q)
          | (some v, T2) => pm_assign g (t - 1024) (pm_mng M v) 0 (T2, C, M, q) := fun T => rfl
    rw [e, ht, k1]
    show (if 1024 + (qa_add ns [112 + i]).idxOf [112 + i] < 1024 then (pm_err 6 (0, c :: r, [], qa_add ns [112 + i]), C, M, q) else match pm_take 3 C (0, c :: r, [], qa_add ns [112 + i]) with
          | (none, T2) => (T2, C, M, q)
          | (some v, T2) => pm_assign g (1024 + (qa_add ns [112 + i]).idxOf [112 + i] - 1024) (pm_mng M v) 0 (T2, C, M, q)) = _
    rw [if_neg (by omega), ht2]
    show pm_assign g (1024 + (qa_add ns [112 + i]).idxOf [112 + i] - 1024) (pm_mng M (5 * 128 + c)) 0 _ = _
    rw [hm, Nat.add_sub_cancel_left]
theorem qb_catc {g : Bool} {n d : Nat} {r : List Nat} {ns : List (List Nat)} {C : Nat → Nat} {q : (Nat → pm_Mn) × List pm_Sv × Nat × List Nat × List Nat × Nat} (hC : qa_C C) (hd : d < 8) (hn : n < 128) :
    (¬ (ns.idxOf [n] < ns.length ∨ ns.length < 32) → (pm_catc g ((0, 92 :: n :: (48 + d) :: r, [], ns), C, q)).1.1 = 5) ∧ ((ns.idxOf [n] < ns.length ∨ ns.length < 32) → pm_catc g ((0, 92 :: n :: (48 + d) :: r, [], ns), C, q) = pm_assign g (32 + n) pm_m0 d ((0, r, [], qa_add ns [n]), C, q)) := by
  have h92 : C 92 = 0 := qa_c hC (by omega) rfl
  have h6 : C (48 + d) = 6 := by
    rw [hC _ (fun z => by unfold qa_four at z; omega)]
    unfold ci_C ci_c
    rw [if_neg (by omega), if_neg (by omega), if_neg (by omega), if_neg (by omega), if_neg (by omega), if_neg (by omega), if_neg (by omega)]
  have ht : pm_take 3 C (0, 92 :: n :: (48 + d) :: r, [], ns) = pm_look ns [n] ((48 + d) :: r) := qa_sym h92 (by rw [h6]; decide) (by rw [h6]; decide) 0
  refine ⟨fun hf => ?_, fun hf => ?_⟩
  · show (match pm_take 3 C (0, 92 :: n :: (48 + d) :: r, [], ns) with | (none, T1) => ((T1, C, q) : pm_P) | (some t, T1) => _).1.1 = 5
    rw [ht, qb_full hf]
  · obtain ⟨k1, k2, k3, k4⟩ := qa_look (r := (48 + d) :: r) hf
    have ht2 : pm_take 3 C (0, (48 + d) :: r, [], qa_add ns [n]) = (some (6 * 128 + (48 + d)), (0, r, [], qa_add ns [n])) := qa_chr h6 (by decide) (by decide) 0
    have hm : pm_cm (qa_add ns [n]) (1024 + (qa_add ns [n]).idxOf [n]) = n := by
      unfold pm_cm
      rw [if_neg (by omega), Nat.add_sub_cancel_left, k3]
    have hch : pm_chr (6 * 128 + (48 + d)) = 48 + d := by
      unfold pm_chr
      rw [if_pos (by omega)]
      omega
    have e : ∀ T : pm_T, pm_catc g (T, C, q) = match pm_take 3 C T with
        | (none, T1) => (T1, C, q)
        | (some t, T1) => if pm_cm T1.2.2.2 t = 1000 then (pm_err 14 T1, C, q) else match pm_take 3 C T1 with
          | (none, T2) => (T2, C, q)
          | (some v, T2) => if 48 ≤ pm_chr v ∧ pm_chr v ≤ 55 then pm_assign g (32 + pm_cm T1.2.2.2 t) pm_m0 (pm_chr v - 48) (T2, C, q) else (pm_err 14 T2, C, q) := fun T => rfl
    rw [e, ht, k1]
    show (if pm_cm (qa_add ns [n]) (1024 + (qa_add ns [n]).idxOf [n]) = 1000 then (pm_err 14 (0, (48 + d) :: r, [], qa_add ns [n]), C, q) else match pm_take 3 C (0, (48 + d) :: r, [], qa_add ns [n]) with
          | (none, T2) => (T2, C, q)
          | (some v, T2) => if 48 ≤ pm_chr v ∧ pm_chr v ≤ 55 then pm_assign g (32 + pm_cm (qa_add ns [n]) (1024 + (qa_add ns [n]).idxOf [n])) pm_m0 (pm_chr v - 48) (T2, C, q) else (pm_err 14 T2, C, q)) = _
    rw [hm, if_neg (by omega), ht2]
    show (if 48 ≤ pm_chr (6 * 128 + (48 + d)) ∧ pm_chr (6 * 128 + (48 + d)) ≤ 55 then pm_assign g (32 + n) pm_m0 (pm_chr (6 * 128 + (48 + d)) - 48) (_, C, q) else _) = _
    rw [hch, if_pos ⟨by omega, by omega⟩, Nat.add_sub_cancel_left]
end QB
