section RQ
theorem xr_V_mm {it lv sc mm mm' : Nat → Int32} : ∀ S : List pm_Sv, (∀ j, 1152 ≤ j → j < 1152 + S.length * 36 → mm' j = mm j) → xr_V it lv sc mm S → xr_V it lv sc mm' S := by
  intro S
  induction S with
  | nil => intro _ _; trivial
  | cons s S ih =>
    intro hm h
    have l : (s :: S).length = S.length + 1 := rfl
    refine ⟨⟨h.1.1, h.1.2.1, fun z i hi => ?_, h.1.2.2.2⟩, ih (fun j h1 h2 => hm j h1 (by omega)) h.2⟩
    rw [hm _ (by omega) (by omega)]
    exact h.1.2.2.1 z i hi
theorem xr_V_fr {it lv sc it' lv' sc' mm : Nat → Int32} : ∀ S : List pm_Sv, (∀ j, j < S.length → it' j = it j ∧ lv' j = lv j ∧ sc' j = sc j) → xr_V it lv sc mm S → xr_V it' lv' sc' mm S := by
  intro S
  induction S with
  | nil => intro _ _; trivial
  | cons s S ih =>
    intro hm h
    have l : (s :: S).length = S.length + 1 := rfl
    obtain ⟨a, b, c⟩ := hm S.length (by omega)
    exact ⟨⟨a.trans h.1.1, b.trans h.1.2.1, h.1.2.2.1, fun z => c.trans (h.1.2.2.2 z)⟩, ih (fun j hj => hm j (by omega)) h.2⟩
theorem xr_V_mid {it lv sc mm : Nat → Int32} {s : pm_Sv} {B : List pm_Sv} : ∀ A : List pm_Sv, xr_V it lv sc mm (A ++ s :: B) → it B.length = nI s.1 ∧ lv B.length = nI s.2.1 ∧ (s.1 < 32 → xr_M mm (32 + B.length) s.2.2.1) ∧ (32 ≤ s.1 → sc B.length = nI s.2.2.2) := by
  intro A
  induction A with
  | nil => intro h; exact h.1
  | cons a A ih => intro h; exact ih h.2
/-- one save gets another value -/
theorem xr_V_set {it lv sc sc' mm mm' : Nat → Int32} {s s' : pm_Sv} {B : List pm_Sv} (e1 : s'.1 = s.1) (e2 : s'.2.1 = s.2.1) (hmm : ∀ j, (j < (32 + B.length) * 36 ∨ (32 + B.length) * 36 + 36 ≤ j) → mm' j = mm j) (hsc : ∀ j, j ≠ B.length → sc' j = sc j) (h1 : s.1 < 32 → xr_M mm' (32 + B.length) s'.2.2.1) (h2 : 32 ≤ s.1 → sc' B.length = nI s'.2.2.2) :
    ∀ A : List pm_Sv, xr_V it lv sc mm (A ++ s :: B) → xr_V it lv sc' mm' (A ++ s' :: B) := by
  intro A
  induction A with
  | nil =>
    intro h
    refine ⟨⟨by rw [e1]; exact h.1.1, by rw [e2]; exact h.1.2.1, fun z => h1 (by rw [← e1]; exact z), fun z => h2 (by rw [← e1]; exact z)⟩, ?_⟩
    exact xr_V_mm B (fun j h3 h4 => hmm j (by omega)) (xr_V_fr B (fun j hj => ⟨rfl, rfl, hsc j (by omega)⟩) h.2)
  | cons a A ih =>
    intro h
    have l1 : (A ++ s :: B).length = (A ++ s' :: B).length := by rw [List.length_append, List.length_append]; rfl
    have l2 : (A ++ s' :: B).length = A.length + (B.length + 1) := List.length_append
    have h' : xr_V it lv sc mm (a :: (A ++ s :: B)) := h
    obtain ⟨⟨g1, g2, g3, g4⟩, g5⟩ := h'
    show xr_V it lv sc' mm' (a :: (A ++ s' :: B))
    rw [l1] at g1 g2 g3 g4
    refine ⟨⟨g1, g2, fun z i hi => ?_, fun z => ?_⟩, ih g5⟩
    · rw [hmm _ (by omega)]
      exact g3 z i hi
    · rw [hsc _ (by omega)]
      exact g4 z
end RQ
