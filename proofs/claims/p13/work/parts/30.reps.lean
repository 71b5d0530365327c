section RP
/-- a list that stands in an array from its first cell on -/
def xr_L (a : Nat → Int32) (l : List Nat) : Prop := ∀ j, j < l.length → a j = nI (l.getD j 0)
/-- a stack: its top is the last cell in use -/
def xr_S (a : Nat → Int32) : List Nat → Prop
  | [] => True
  | t :: l => a l.length = nI t ∧ xr_S a l
theorem xr_S_up {a : Nat → Int32} {k : Nat} {v : Int32} : ∀ l : List Nat, l.length ≤ k → xr_S a l → xr_S (upd a k v) l := by
  intro l
  induction l with
  | nil => intro _ _; trivial
  | cons t l ih =>
    intro hk h
    have hk' : l.length + 1 ≤ k := hk
    exact ⟨(pk_un (by omega)).trans h.1, ih (by omega) h.2⟩
theorem xr_S_push {a : Nat → Int32} {t : Nat} {l : List Nat} (h : xr_S a l) : xr_S (upd a l.length (nI t)) (t :: l) := ⟨pk_us, xr_S_up l (Nat.le_refl _) h⟩
theorem xr_L_push {a : Nat → Int32} {t : Nat} {l : List Nat} (h : xr_L a l) : xr_L (upd a l.length (nI t)) (l ++ [t]) := by
  intro j hj
  rw [List.length_append] at hj
  simp only [List.length_cons, List.length_nil] at hj
  by_cases e : j = l.length
  · subst e
    rw [pk_us, xr_getD_append_here]
  · rw [pk_un e, xr_getD_append_left (by omega)]
    exact h j (by omega)
theorem xr_L_up {a : Nat → Int32} {k : Nat} {v : Int32} {l : List Nat} (hk : l.length ≤ k) (h : xr_L a l) : xr_L (upd a k v) l := fun j hj => by
  rw [pk_un (by omega)]
  exact h j hj
/-- the cells of a meaning -/
def xr_e (m : pm_Mn) (i : Nat) : Nat := if i = 0 then m.1 else if i = 1 then m.2.1 else if i = 2 then m.2.2.1.length else if i = 3 then m.2.2.2.length else if i < 12 then m.2.2.1.getD (i - 4) 0 else m.2.2.2.getD (i - 12) 0
def xr_M (mm : Nat → Int32) (s : Nat) (m : pm_Mn) : Prop := ∀ i, i < 36 → mm (s * 36 + i) = nI (xr_e m i)
/-- mm' is mm with slot f copied to slot t -/
def xr_cp (mm mm' : Nat → Int32) (f t : Nat) : Prop := (∀ i, i < 36 → mm' (t * 36 + i) = mm (f * 36 + i)) ∧ ∀ j, (j < t * 36 ∨ t * 36 + 36 ≤ j) → mm' j = mm j
theorem xr_cp_to {mm mm' : Nat → Int32} {f t : Nat} {m : pm_Mn} (h : xr_cp mm mm' f t) (g : xr_M mm f m) : xr_M mm' t m := fun i hi => (h.1 i hi).trans (g i hi)
theorem xr_cp_ne {mm mm' : Nat → Int32} {f t s : Nat} {m : pm_Mn} (h : xr_cp mm mm' f t) (hs : s ≠ t) (g : xr_M mm s m) : xr_M mm' s m := fun i hi => (h.2 _ (by omega)).trans (g i hi)
theorem xr_M_up {mm : Nat → Int32} {s k : Nat} {v : Int32} {m : pm_Mn} (g : xr_M mm s m) (hk : k < s * 36 ∨ s * 36 + 36 ≤ k) : xr_M (upd mm k v) s m := fun i hi => (pk_un (by omega)).trans (g i hi)
/-- the saves -/
def xr_V (it lv sc mm : Nat → Int32) : List pm_Sv → Prop
  | [] => True
  | s :: S => (it S.length = nI s.1 ∧ lv S.length = nI s.2.1 ∧ (s.1 < 32 → xr_M mm (32 + S.length) s.2.2.1) ∧ (32 ≤ s.1 → sc S.length = nI s.2.2.2)) ∧ xr_V it lv sc mm S
theorem xr_ext {l r : List Nat} (hl : l.length = r.length) (h : ∀ j, j < l.length → l.getD j 0 = r.getD j 0) : l = r := by
  apply List.ext_getElem hl
  intro j h1 h2
  have := h j h1
  rw [List.getD_eq_getElem?_getD, List.getD_eq_getElem?_getD, List.getElem?_eq_getElem h1, List.getElem?_eq_getElem h2] at this
  exact this
/-- a meaning is what its cells say -/
theorem xr_e_inj {m m' : pm_Mn} (h1 : m.2.2.1.length ≤ 8) (h2 : m.2.2.2.length ≤ 24) (h : ∀ i, i < 36 → xr_e m i = xr_e m' i) : m = m' := by
  obtain ⟨k, v, p, r⟩ := m
  obtain ⟨k', v', p', r'⟩ := m'
  have e0 : k = k' := h 0 (by decide)
  have e1 : v = v' := h 1 (by decide)
  have e2 : p.length = p'.length := h 2 (by decide)
  have e3 : r.length = r'.length := h 3 (by decide)
  have h1' : p.length ≤ 8 := h1
  have h2' : r.length ≤ 24 := h2
  have e4 : p = p' := xr_ext e2 fun j hj => by
    have := h (4 + j) (by omega)
    unfold xr_e at this
    rw [if_neg (by omega), if_neg (by omega), if_neg (by omega), if_neg (by omega), if_pos (by omega), if_neg (by omega), if_neg (by omega), if_neg (by omega), if_neg (by omega), if_pos (by omega), show 4 + j - 4 = j from by omega] at this
    exact this
  have e5 : r = r' := xr_ext e3 fun j hj => by
    have := h (12 + j) (by omega)
    unfold xr_e at this
    rw [if_neg (by omega), if_neg (by omega), if_neg (by omega), if_neg (by omega), if_neg (by omega), if_neg (by omega), if_neg (by omega), if_neg (by omega), if_neg (by omega), if_neg (by omega), show 12 + j - 12 = j from by omega] at this
    exact this
  subst e0 e1 e4 e5
  rfl
end RP
