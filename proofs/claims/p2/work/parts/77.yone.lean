section YZ
/-- the depth behind a list of tokens -/
def yz_dep (l : List Nat) : Nat := l.foldl (fun d t => pm_nest t d) 0
theorem yz_snoc (l : List Nat) (t : Nat) : yz_dep (l ++ [t]) = pm_nest t (yz_dep l) := by
  unfold yz_dep
  rw [List.foldl_append]
  rfl
/-- one group: it begins with a brace, and depth 0 is not met before its end -/
def yz_one (l : List Nat) : Prop := (∃ a r, l = a :: r ∧ pm_cat a = 1) ∧ ∀ i, 0 < i → i < l.length → 0 < yz_dep (l.take i)
theorem yz_nil : ¬ yz_one [] := fun ⟨⟨a, r, h, _⟩, _⟩ => nomatch h
theorem yz_og {og : Bool} {d t : Nat} {acc : List Nat} (hd : d = yz_dep acc) (ho : og = true ↔ yz_one acc) : pm_og og d t acc = true ↔ yz_one (acc ++ [t]) := by
  unfold pm_og
  by_cases h0 : d = 0
  · rw [if_pos h0]
    cases acc with
    | nil =>
      rw [Bool.and_eq_true]
      constructor
      · intro z
        refine ⟨⟨t, [], rfl, eq_of_beq z.1⟩, fun i h1 h2 => ?_⟩
        have h2' : i < 1 := h2
        omega
      · intro ⟨⟨a, r, e, hc⟩, _⟩
        have e' : [t] = a :: r := e
        cases e'
        exact ⟨beq_iff_eq.mpr hc, rfl⟩
    | cons a r =>
      constructor
      · intro z
        rw [Bool.and_eq_true] at z
        exact Bool.noConfusion (show false = true from z.2)
      · intro ⟨_, h⟩
        have := h (a :: r).length (Nat.succ_pos _) (by rw [List.length_append]; exact Nat.lt_succ_self _)
        rw [List.take_left' rfl] at this
        omega
  · rw [if_neg h0, ho]
    have hne : acc ≠ [] := fun z => by
      rw [z] at hd
      exact h0 hd
    constructor
    · intro ⟨⟨a, r, e, hc⟩, h⟩
      refine ⟨⟨a, r ++ [t], by rw [e]; rfl, hc⟩, fun i h1 h2 => ?_⟩
      rw [List.length_append] at h2
      simp only [List.length_cons, List.length_nil] at h2
      by_cases e2 : i = acc.length
      · rw [e2, List.take_left' rfl]
        omega
      · rw [List.take_append_of_le_length (by omega)]
        exact h i h1 (by omega)
    · intro ⟨⟨a, r, e, hc⟩, h⟩
      cases acc with
      | nil => exact absurd rfl hne
      | cons x xs =>
        have e' : x :: (xs ++ [t]) = a :: r := e
        have ea : x = a := (List.cons.inj e').1
        refine ⟨⟨x, xs, rfl, by rw [ea]; exact hc⟩, fun i h1 h2 => ?_⟩
        have := h i h1 (by rw [List.length_append]; omega)
        rw [List.take_append_of_le_length (by omega)] at this
        exact this
end YZ
