section YZ
/-- the depth behind a list of tokens -/
def yz_dep (l : List Nat) : Nat := l.foldl (fun d t => pm_nest t d) 0
theorem yz_snoc (l : List Nat) (t : Nat) : yz_dep (l ++ [t]) = pm_nest t (yz_dep l) := by
  unfold yz_dep
  rw [List.foldl_append]
  rfl
/-- one group: it begins with a brace, and depth 0 is not met before its end -/
def yz_one (l : List Nat) : Prop := (∃ a r, l = a :: r ∧ pm_cat a = 1) ∧ ∀ i, 0 < i → i < l.length → 0 < yz_dep (l.take i)
theorem yz_nil : ¬ yz_one [] := fun ⟨⟨a, r, h, _⟩, _⟩ => nomatch h
theorem yz_og {og : Bool} {d t : Nat} {acc : List Nat} (hd : d = yz_dep acc) (ho : og = true ↔ yz_one acc) : pm_og og d t acc = true ↔ yz_one (acc ++ [t]) := by
  unfold pm_og
  by_cases h0 : d = 0
  · rw [if_pos h0]
    cases acc with
    | nil =>
      rw [Bool.and_eq_true]
      constructor
      · intro z
        refine ⟨⟨t, [], rfl, eq_of_beq z.1⟩, fun i h1 h2 => ?_⟩
        have h2' : i < 1 := h2
        omega
      · intro ⟨⟨a, r, e, hc⟩, _⟩
        have e' : [t] = a :: r := e
        cases e'
        exact ⟨beq_iff_eq.mpr hc, rfl⟩
    | cons a r =>
      constructor
      · intro z
        rw [Bool.and_eq_true] at z
        exact Bool.noConfusion (show false = true from z.2)
      · intro ⟨_, h⟩
        have := h (a :: r).length (Nat.succ_pos _) (by rw [List.length_append]; exact Nat.lt_succ_self _)
        rw [List.take_left' rfl] at this
        omega
  · rw [if_neg h0, ho]
    have hne : acc ≠ [] := fun z => by
      rw [z] at hd
      exact h0 hd
    constructor
    · intro ⟨⟨a, r, e, hc⟩, h⟩
      refine ⟨⟨a, r ++ [t], by rw [e]; rfl, hc⟩, fun i h1 h2 => ?_⟩
      rw [List.length_append] at h2
      simp only [List.length_cons, List.length_nil] at h2
      by_cases e2 : i = acc.length
      · rw [e2, List.take_left' rfl]
        omega
      · rw [List.take_append_of_le_length (by omega)]
        exact h i h1 (by omega)
    · intro ⟨⟨a, r, e, hc⟩, h⟩
      cases acc with
      | nil => exact absurd rfl hne
      | cons x xs =>
        have e' : x :: (xs ++ [t]) = a :: r := e
        have ea : x = a := (List.cons.inj e').1
        refine ⟨⟨x, xs, rfl, by rw [ea]; exact hc⟩, fun i h1 h2 => ?_⟩
        have := h i h1 (by rw [List.length_append]; omega)
        rw [List.take_append_of_le_length (by omega)] at this
        exact this
end YZ
section YZ2
variable {post : SY → Prop} {F1 F2 F3 F4 F5 F6 F7 F8 F9 F10 F11 F12 : Int32} {A1 A2 A3 A4 A5 A6 A7 A8 A9 A10 A11 A12 A13 A14 A15 A16 A17 A18 A19 : Nat → Int32}
theorem yz_take {l : List Nat} {i : Nat} (hi : i < l.length) : l.take (i + 1) = l.take i ++ [l.getD i 0] := by
  rw [List.take_add_one, List.getD_eq_getElem?_getD, List.getElem?_eq_getElem hi]
  rfl
theorem yz_356 {l : List Nat} {s : Nat} {x4 : Int32} (hs : s ≤ 256) (hl : l.length ≤ 520) (hA : xe_C A16 s l) (hb : ∀ j, l.getD j 0 < 2048) (hok : ∀ i, i < l.length → pm_cat (l.getD i 0) = 2 → 0 < yz_dep (l.take i)) (hdl : ∀ i, yz_dep (l.take i) ≤ 520)
    (Kn : (∃ j, 0 < j ∧ j < l.length ∧ yz_dep (l.take j) = 0) → (vp_in x4 10 ∧ ∀ a' : Nat → Int32, a' = upd A18 x4.toNatClampNeg (nI l.length) → post (F1, F2, F3, F4, F5, F6, F7, F8, F9, F10, F11, F12, A1, A2, A3, A4, A5, A6, A7, A8, A9, A10, A11, A12, A13, A14, A15, A16, A17, a', A19)))
    (Ky : (∀ j, 0 < j → j < l.length → 0 < yz_dep (l.take j)) → ∃ n434 : Nat, wY_scanArg_434 post x4 (nI s) (nI l.length) F1 F2 F3 F4 F5 F6 F7 F8 F9 F10 F11 F12 n434 0 A1 A2 A3 A4 A5 A6 A7 A8 A9 A10 A11 A12 A13 A14 A15 A16 A17 A18 A19) :
    ∀ (n i : Nat) (one : Int32), l.length < n + i → i ≤ l.length → (one = 0 ↔ ∃ j, 0 < j ∧ j ≤ i ∧ j < l.length ∧ yz_dep (l.take j) = 0) → wY_scanArg_356 post x4 (nI s) (nI l.length) F1 F2 F3 F4 F5 F6 F7 F8 F9 F10 F11 F12 A1 A2 A3 A4 A5 A6 A7 A8 A9 A10 A11 A12 A13 A14 A15 A16 A17 A18 A19 n (nI (yz_dep (l.take i))) one (nI i) := by
  intro n
  induction n with
  | zero => intro i one h1 h2; omega
  | succ n ih =>
    intro i one h1 h2 ho
    by_cases hi : i = l.length
    · refine br_t (by rw [hi]; exact nI_le (Nat.le_refl _) (by omega)) ?_
      by_cases hz : one = 0
      · obtain ⟨j, j1, j2, j3, j4⟩ := ho.mp hz
        exact br_t hz (Kn ⟨j, j1, j3, j4⟩)
      · refine br_f hz (Ky fun j j1 j2 => ?_)
        rcases Nat.eq_zero_or_pos (yz_dep (l.take j)) with z | z
        · exact absurd (ho.mpr ⟨j, j1, by omega, j2, z⟩) hz
        · exact z
    · have hi' : i < l.length := by omega
      have e : nI s + nI i = nI (s + i) := nI_add _ _
      have hbi := hb i
      have hv : A16 (nI s + nI i).toNatClampNeg = nI (l.getD i 0) := by rw [e, nI_clamp (by omega)]; exact hA i hi'
      have hc1 := yp_c (k := 1) hbi (by decide) (by decide)
      have hc2 := yp_c (k := 2) hbi (by decide) (by decide)
      have hd1 := hdl i
      have hd2 := hdl (i + 1)
      have hdep : yz_dep (l.take (i + 1)) = pm_nest (l.getD i 0) (yz_dep (l.take i)) := by rw [yz_take hi', yz_snoc]
      have vi : vp_in (nI s + nI i) 800 := by rw [e]; exact vp_in_nI (by omega) (by decide)
      have e1 : nI l.length - 1 = nI (l.length - 1) := pk_sub (b := 1) (by omega)
      -- behind the change of the depth
      have h403 : wY_scanArg_403 post (wY_scanArg_356 post x4 (nI s) (nI l.length) F1 F2 F3 F4 F5 F6 F7 F8 F9 F10 F11 F12 A1 A2 A3 A4 A5 A6 A7 A8 A9 A10 A11 A12 A13 A14 A15 A16 A17 A18 A19 n) x4 (nI s) (nI l.length) (nI (yz_dep (l.take (i + 1)))) one (nI i) F1 F2 F3 F4 F5 F6 F7 F8 F9 F10 F11 F12 A1 A2 A3 A4 A5 A6 A7 A8 A9 A10 A11 A12 A13 A14 A15 A16 A17 A18 A19 := by
        by_cases hz : yz_dep (l.take (i + 1)) = 0
        · refine br_t (by rw [hz]; rfl) ?_
          rw [e1]
          by_cases hlast : l.length - 1 ≤ i
          · refine br_t (nI_le hlast (by omega)) (nm_r (nI_1 _) (ih (i + 1) one (by omega) (by omega) (ho.trans ⟨fun ⟨j, j1, j2, j3, j4⟩ => ⟨j, j1, by omega, j3, j4⟩, fun ⟨j, j1, j2, j3, j4⟩ => ⟨j, j1, by omega, j3, j4⟩⟩)))
          · exact br_f (nI_ge (by omega) (by omega)) (nm_r (nI_1 _) (ih (i + 1) 0 (by omega) (by omega) ⟨fun _ => ⟨i + 1, by omega, Nat.le_refl _, by omega, hz⟩, fun _ => rfl⟩))
        · refine br_f (nI_ne0 (by omega) (by omega)) (nm_r (nI_1 _) (ih (i + 1) one (by omega) (by omega) (ho.trans ⟨fun ⟨j, j1, j2, j3, j4⟩ => ⟨j, j1, by omega, j3, j4⟩, fun ⟨j, j1, j2, j3, j4⟩ => ⟨j, j1, ?_, j3, j4⟩⟩)))
          rcases Nat.lt_or_ge j (i + 1) with y | y
          · omega
          · have : j = i + 1 := by omega
            rw [this] at j4
            exact absurd j4 hz
      refine br_f (nI_ge hi' (by omega)) ⟨vi, ?_⟩
      rw [hv, yp_shr (by omega)]
      unfold pm_nest at hdep
      by_cases c1 : pm_cat (l.getD i 0) = 1
      · rw [if_pos c1] at hdep
        refine br_t (hc1.mpr c1) (nm_r (show nI (yz_dep (l.take i)) + 1 = nI (yz_dep (l.take (i + 1))) by rw [nI_1, hdep]) ⟨vi, ?_⟩)
        rw [hv, yp_shr (by omega)]
        exact br_f (fun z => by have := hc2.mp z; omega) h403
      · rw [if_neg c1] at hdep
        refine br_f (fun z => c1 (hc1.mp z)) ⟨vi, ?_⟩
        rw [hv, yp_shr (by omega)]
        by_cases c2 : pm_cat (l.getD i 0) = 2
        · rw [if_pos c2] at hdep
          have hp := hok i hi' c2
          exact br_t (hc2.mpr c2) (nm_r (show nI (yz_dep (l.take i)) + (-1) = nI (yz_dep (l.take (i + 1))) by rw [xg_m1, hdep]; exact pk_sub (b := 1) hp) h403)
        · rw [if_neg c2] at hdep
          rw [hdep] at h403
          exact br_f (fun z => c2 (hc2.mp z)) h403
end YZ2
