section NM
theorem xr_getD_append_left {α : Type} {l r : List α} {j : Nat} {d : α} (h : j < l.length) : (l ++ r).getD j d = l.getD j d := by
  rw [List.getD_eq_getElem?_getD, List.getElem?_append_left h, ← List.getD_eq_getElem?_getD]
theorem xr_getD_append_here {α : Type} {l : List α} {t d : α} : (l ++ [t]).getD l.length d = t := by
  rw [List.getD_eq_getElem?_getD, List.getElem?_append_right (Nat.le_refl _), Nat.sub_self]
  rfl
/-- the names: eleven cells each -/
def xr_N (nl ch : Nat → Int32) (ns : List (List Nat)) : Prop := ∀ i, i < ns.length → nl i = nI (ns.getD i []).length ∧ ∀ j, j < (ns.getD i []).length → ch (i * 11 + j) = nI ((ns.getD i []).getD j 0)
theorem xr_N_push {nl ch nl' ch' : Nat → Int32} {ns : List (List Nat)} {w : List Nat} (h : xr_N nl ch ns) (hw : ∀ v, v ∈ ns → v.length ≤ 11) (h1 : nl' ns.length = nI w.length) (h2 : ∀ j, j < w.length → ch' (ns.length * 11 + j) = nI (w.getD j 0)) (h3 : ∀ i, i < ns.length → nl' i = nl i) (h4 : ∀ k, k < ns.length * 11 → ch' k = ch k) : xr_N nl' ch' (ns ++ [w]) := by
  intro i hi
  rw [List.length_append] at hi
  simp only [List.length_cons, List.length_nil] at hi
  by_cases e : i = ns.length
  · subst e
    rw [xr_getD_append_here]
    exact ⟨h1, h2⟩
  · have hi' : i < ns.length := by omega
    rw [xr_getD_append_left hi']
    have hm : (ns.getD i []).length ≤ 11 := by
      rw [List.getD_eq_getElem?_getD, List.getElem?_eq_getElem hi']
      exact hw _ (List.getElem_mem hi')
    refine ⟨(h3 i hi').trans (h i hi').1, fun j hj => (h4 _ ?_).trans ((h i hi').2 j hj)⟩
    omega
end NM
