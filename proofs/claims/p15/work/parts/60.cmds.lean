section QA
/-- the state in which commands are read: nothing pending, no error, the first names and meanings as at first, catcodes but four as at first -/
def qa_four (j : Nat) : Prop := j = 33 ∨ j = 34 ∨ j = 36 ∨ j = 37
def qa_tgt (i : Nat) : Nat := if i = 0 then 33 else if i = 1 then 34 else if i = 2 then 36 else 37
def qa_C (C : Nat → Nat) : Prop := ∀ j, ¬ qa_four j → C j = ci_C j
theorem qa_c {C : Nat → Nat} (h : qa_C C) {j k : Nat} (hj : j ≠ 33 ∧ j ≠ 34 ∧ j ≠ 36 ∧ j ≠ 37) (hk : ci_C j = k) : C j = k := by
  rw [h j (fun z => by unfold qa_four at z; omega)]
  exact hk
/-- what may follow a word -/
def qa_end (C : Nat → Nat) (r : List Nat) : Prop := r = [] ∨ ∃ c s, r = c :: s ∧ C c ≠ 5 ∧ C c ≠ 4
theorem qa_tw {C : Nat → Nat} {r : List Nat} (hr : r = [] ∨ ∃ c s, r = c :: s ∧ C c ≠ 5) : ∀ w : List Nat, (∀ c, c ∈ w → C c = 5) → (w ++ r).takeWhile (fun c => C c == 5) = w ∧ (w ++ r).dropWhile (fun c => C c == 5) = r := by
  intro w
  induction w with
  | nil =>
    intro _
    rcases hr with rfl | ⟨c, s, rfl, h⟩
    · exact ⟨rfl, rfl⟩
    · rw [List.nil_append, List.takeWhile_cons_of_neg (by simpa using h), List.dropWhile_cons_of_neg (by simpa using h)]
      exact ⟨rfl, rfl⟩
  | cons a w ih =>
    intro hw
    have h1 := hw a List.mem_cons_self
    obtain ⟨i1, i2⟩ := ih (fun c hc => hw c (List.mem_cons_of_mem _ hc))
    rw [List.cons_append, List.takeWhile_cons_of_pos (by rw [h1]; rfl), List.dropWhile_cons_of_pos (by rw [h1]; rfl), i1, i2]
    exact ⟨rfl, rfl⟩
theorem qa_cs {C : Nat → Nat} {ns : List (List Nat)} {n : Nat} {w r s : List Nat} (hn : C n = 5) (hw : ∀ c, c ∈ w → C c = 5) (hr : r = [] ∨ ∃ c s, r = c :: s ∧ C c ≠ 5) (hs : r.dropWhile (fun c => C c == 4) = s) : pm_cs C ns (n :: (w ++ r)) = if 8 < w.length + 1 then (none, (4, s, [], ns)) else pm_look ns (n :: w) s := by
  obtain ⟨e1, e2⟩ := qa_tw hr w hw
  have e3 : pm_word C n (w ++ r) = n :: w := by unfold pm_word; rw [if_pos hn, e1]
  have e4 : pm_rest C n (w ++ r) = s := by unfold pm_rest; rw [if_pos hn, e2, hs]
  show (if 8 < (pm_word C n (w ++ r)).length then (none, (4, pm_rest C n (w ++ r), [], ns)) else pm_look ns (pm_word C n (w ++ r)) (pm_rest C n (w ++ r))) = _
  rw [e3, e4]
  rfl
theorem qa_dw {C : Nat → Nat} {r : List Nat} (h : qa_end C r) : (r = [] ∨ ∃ c s, r = c :: s ∧ C c ≠ 5) ∧ r.dropWhile (fun c => C c == 4) = r := by
  rcases h with rfl | ⟨c, s, rfl, h5, h4⟩
  · exact ⟨Or.inl rfl, rfl⟩
  · exact ⟨Or.inr ⟨c, s, rfl, h5⟩, List.dropWhile_cons_of_neg (by simpa using h4)⟩
/-- a control word, no space behind it -/
theorem qa_word {e : Nat} {C : Nat → Nat} {ns : List (List Nat)} {n : Nat} {w r : List Nat} (h92 : C 92 = 0) (hn : C n = 5) (hw : ∀ c, c ∈ w → C c = 5) (hr : qa_end C r) (st : Nat) : pm_take e C (st, 92 :: n :: (w ++ r), [], ns) = if 8 < w.length + 1 then (none, (4, r, [], ns)) else pm_look ns (n :: w) r := by
  obtain ⟨h1, h2⟩ := qa_dw hr
  show (if C 92 = 0 then pm_cs C ns (n :: (w ++ r)) else _) = _
  rw [if_pos h92]
  exact qa_cs hn hw h1 h2
/-- a control word of one letter with a space behind it -/
theorem qa_wordS {e : Nat} {C : Nat → Nat} {ns : List (List Nat)} {n c : Nat} {r : List Nat} (h92 : C 92 = 0) (h32 : C 32 = 4) (hn : C n = 5) (hc : C c ≠ 4) (st : Nat) : pm_take e C (st, 92 :: n :: 32 :: c :: r, [], ns) = pm_look ns [n] (c :: r) := by
  show (if C 92 = 0 then pm_cs C ns (n :: ([] ++ (32 :: c :: r))) else _) = _
  rw [if_pos h92]
  have h := qa_cs (ns := ns) (w := []) (r := 32 :: c :: r) (s := c :: r) hn (fun c hc => (nomatch hc)) (Or.inr ⟨32, _, rfl, by rw [h32]; decide⟩) (by rw [List.dropWhile_cons_of_pos (by rw [h32]; rfl), List.dropWhile_cons_of_neg (by simpa using hc)])
  rw [h]
  exact if_neg (by decide)
/-- a control symbol or a word of one letter, a char behind it that is neither letter nor space -/
theorem qa_sym {e : Nat} {C : Nat → Nat} {ns : List (List Nat)} {n c : Nat} {r : List Nat} (h92 : C 92 = 0) (h5 : C c ≠ 5) (h4 : C c ≠ 4) (st : Nat) : pm_take e C (st, 92 :: n :: c :: r, [], ns) = pm_look ns [n] (c :: r) := by
  by_cases hn : C n = 5
  · have h := qa_word (e := e) (ns := ns) (w := []) (r := c :: r) h92 hn (fun c hc => (nomatch hc)) (Or.inr ⟨c, r, rfl, h5, h4⟩) st
    rw [List.nil_append] at h
    rw [h]
    exact if_neg (by decide)
  · show (if C 92 = 0 then pm_cs C ns (n :: c :: r) else _) = _
    rw [if_pos h92]
    have e3 : pm_word C n (c :: r) = [n] := by unfold pm_word; rw [if_neg hn]
    have e4 : pm_rest C n (c :: r) = c :: r := by unfold pm_rest; rw [if_neg hn]
    show (if 8 < (pm_word C n (c :: r)).length then (none, (4, pm_rest C n (c :: r), [], ns)) else pm_look ns (pm_word C n (c :: r)) (pm_rest C n (c :: r))) = _
    rw [e3, e4]
    exact if_neg (by show ¬ 8 < 1; decide)
/-- a char that is neither escape nor ignored -/
theorem qa_chr {e : Nat} {C : Nat → Nat} {ns : List (List Nat)} {c k : Nat} {r : List Nat} (h : C c = k) (h0 : k ≠ 0) (h7 : k ≠ 7) (st : Nat) : pm_take e C (st, c :: r, [], ns) = (some (k * 128 + c), (0, r, [], ns)) := by
  show (if C c = 0 then pm_cs C ns r else if C c = 7 then pm_raw e C ns r else (some (C c * 128 + c), (0, r, [], ns))) = _
  rw [h, if_neg h0, if_neg h7]
/-- the names with one more, if it wants -/
def qa_add (ns : List (List Nat)) (w : List Nat) : List (List Nat) := if ns.idxOf w < ns.length then ns else ns ++ [w]
theorem qa_look {ns : List (List Nat)} {w r : List Nat} (h : ns.idxOf w < ns.length ∨ ns.length < 32) : pm_look ns w r = (some (1024 + (qa_add ns w).idxOf w), (0, r, [], qa_add ns w)) ∧ (qa_add ns w).idxOf w < (qa_add ns w).length ∧ (qa_add ns w).getD ((qa_add ns w).idxOf w) [] = w ∧ ns <+: qa_add ns w := by
  have hg : ∀ l : List (List Nat), l.idxOf w < l.length → l.getD (l.idxOf w) [] = w := fun l hl => by
    rw [List.getD_eq_getElem?_getD, List.getElem?_eq_getElem hl]
    exact List.getElem_idxOf hl
  unfold qa_add pm_look
  by_cases h1 : ns.idxOf w < ns.length
  · rw [if_pos h1, if_pos h1]
    exact ⟨rfl, h1, hg ns h1, List.prefix_refl _⟩
  · have hnm : w ∉ ns := fun z => h1 (List.idxOf_lt_length_iff.mpr z)
    have e : (ns ++ [w]).idxOf w = ns.length := by
      rw [List.idxOf_append, if_neg hnm]
      simp
    have hl : (ns ++ [w]).idxOf w < (ns ++ [w]).length := by
      rw [e, List.length_append]
      exact Nat.lt_succ_self _
    rw [if_neg h1, if_neg h1, if_neg (by omega)]
    exact ⟨by rw [e], hl, hg _ hl, List.prefix_append _ _⟩
theorem qa_first {ns : List (List Nat)} {w : List Nat} (h : ci_ns <+: ns) (hw : w ∈ ci_ns) : ns.idxOf w = ci_ns.idxOf w ∧ ns.idxOf w < ns.length := by
  obtain ⟨t, rfl⟩ := h
  have e : (ci_ns ++ t).idxOf w = ci_ns.idxOf w := by rw [List.idxOf_append, if_pos hw]
  exact ⟨e, by rw [e, List.length_append]; have := List.idxOf_lt_length_iff.mpr hw; omega⟩
end QA
