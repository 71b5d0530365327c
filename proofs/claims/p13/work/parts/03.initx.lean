section IX
variable {f_expansionLimit f_expansionCount f_state f_inputLength f_inputPosition f_outputCount f_pendingCount f_namesUsed f_saveCount f_depth f_conditionalCount f_argumentsUsed f_argumentsLimit f_heldCount : Int32} {a_input a_output a_pending a_catcodes a_nameChars a_nameLengths a_meanings a_savedItems a_savedLevels a_savedCatcodes a_conditionals a_arguments a_argumentStarts a_argumentEnds a_held : Nat → Int32}
variable {post : SX → Prop}
theorem ci_10 : ¬ (1 : Int32) = 0 := by decide
/-- the first catcodes -/
def ci_c (j : Nat) : Nat := if (65 ≤ j ∧ j ≤ 90) ∨ (97 ≤ j ∧ j ≤ 122) then 5 else if j < 32 ∨ j = 127 then 7 else 6
def ci_C (j : Nat) : Nat := if j = 32 then 4 else if j = 35 then 3 else if j = 125 then 2 else if j = 123 then 1 else if j = 92 then 0 else ci_c j
theorem ci_five {a : Nat → Int32} (h : ∀ j, j < 128 → a j = nI (ci_c j)) : ∀ j, j < 128 → upd (upd (upd (upd (upd a 92 0) 123 1) 125 2) 35 3) 32 4 j = nI (ci_C j) := by
  intro j hj
  unfold ci_C
  by_cases h1 : j = 32
  · rw [if_pos h1, h1, pk_us]; rfl
  · rw [if_neg h1, pk_un h1]
    by_cases h2 : j = 35
    · rw [if_pos h2, h2, pk_us]; rfl
    · rw [if_neg h2, pk_un h2]
      by_cases h3 : j = 125
      · rw [if_pos h3, h3, pk_us]; rfl
      · rw [if_neg h3, pk_un h3]
        by_cases h4 : j = 123
        · rw [if_pos h4, h4, pk_us]; rfl
        · rw [if_neg h4, pk_un h4]
          by_cases h5 : j = 92
          · rw [if_pos h5, h5, pk_us]; rfl
          · rw [if_neg h5, pk_un h5]
            exact h j hj
theorem ci_up {a : Nat → Int32} {i : Nat} {v : Int32} {f : Nat → Nat} (h : ∀ j, j < i → a j = nI (f j)) (hv : v = nI (f i)) : ∀ j, j < i + 1 → upd a i v j = nI (f j) := by
  intro j hj
  by_cases e : j = i
  · rw [e, pk_us, hv]
  · rw [pk_un e]
    exact h j (by omega)
theorem ci_x (K : ∀ a : Nat → Int32, (∀ j, j < 128 → a j = nI (ci_C j)) → post (f_expansionLimit, f_expansionCount, f_state, f_inputLength, f_inputPosition, f_outputCount, f_pendingCount, f_namesUsed, f_saveCount, f_depth, f_conditionalCount, f_argumentsUsed, f_argumentsLimit, f_heldCount, a_input, a_output, a_pending, a, a_nameChars, a_nameLengths, a_meanings, a_savedItems, a_savedLevels, a_savedCatcodes, a_conditionals, a_arguments, a_argumentStarts, a_argumentEnds, a_held)) : ∀ (n i : Nat) (cat : Nat → Int32), 128 < n + i → i ≤ 128 → (∀ j, j < i → cat j = nI (ci_c j)) → wX_setFirstCatcodes_2 post f_expansionLimit f_expansionCount f_state f_inputLength f_inputPosition f_outputCount f_pendingCount f_namesUsed f_saveCount f_depth f_conditionalCount f_argumentsUsed f_argumentsLimit f_heldCount n (nI i) a_input a_output a_pending cat a_nameChars a_nameLengths a_meanings a_savedItems a_savedLevels a_savedCatcodes a_conditionals a_arguments a_argumentStarts a_argumentEnds a_held := by
  intro n
  induction n with
  | zero => intro i cat h1 h2; omega
  | succ n ih =>
    intro i cat h1 h2 h
    by_cases he : i = 128
    · subst he
      exact br_t (nI_le (Nat.le_refl 128) (by decide)) (nm_e (nm_e (nm_e (nm_e (nm_e (K _ (ci_five h)))))))
    · refine br_f (nI_ge (b := 128) (by omega) (by decide)) ?_
      have leaf : ∀ v : Int32, v = nI (ci_c i) → (vp_in (nI i) 128 ∧ ∀ a : Nat → Int32, a = upd cat (nI i).toNatClampNeg v → ∀ y : Int32, y = nI i + 1 → wX_setFirstCatcodes_2 post f_expansionLimit f_expansionCount f_state f_inputLength f_inputPosition f_outputCount f_pendingCount f_namesUsed f_saveCount f_depth f_conditionalCount f_argumentsUsed f_argumentsLimit f_heldCount n y a_input a_output a_pending a a_nameChars a_nameLengths a_meanings a_savedItems a_savedLevels a_savedCatcodes a_conditionals a_arguments a_argumentStarts a_argumentEnds a_held) := fun v hv => by
        refine ⟨vp_in_nI (by omega) (by decide), fun a ea y ey => ?_⟩
        rw [ea, ey, nI_1, nI_clamp (by omega)]
        exact ih (i + 1) _ (by omega) (by omega) (ci_up h hv)
      have c65 : (nI i < 65) ↔ i < 65 := nI_ltI (b := 65) (by omega) (by decide)
      have c90 : (nI i ≤ 90) ↔ i ≤ 90 := nI_leI (b := 90) (by omega) (by decide)
      have c97 : (nI i < 97) ↔ i < 97 := nI_ltI (b := 97) (by omega) (by decide)
      have c122 : (122 < nI i) ↔ 122 < i := nI_ltI (a := 122) (by decide) (by omega)
      have c32 : (nI i < 32) ↔ i < 32 := nI_ltI (b := 32) (by omega) (by decide)
      have c127 : (nI i = 127) ↔ i = 127 := nI_eq (b := 127) (by omega) (by decide)
      unfold wX_setFirstCatcodes_21 wX_setFirstCatcodes_33 wX_setFirstCatcodes_37 wX_setFirstCatcodes_38 wX_setFirstCatcodes_51 wX_setFirstCatcodes_56
      rw [c65, c90, c97, c122, c32, c127]
      repeat' (first | (refine leaf _ ?_) | (refine And.intro (fun _ => ?_) (fun _ => ?_)))
      all_goals (unfold ci_c; repeat' split)
      all_goals (first | rfl | (exfalso; omega) | exact absurd ‹(1 : Int32) = 0› ci_10 | exact absurd rfl ‹¬ (0 : Int32) = 0›)
/-- names: eleven cells each -/
def ci_XN (nl ch : Nat → Int32) (ns : List (List Nat)) : Prop := xr_N nl ch ns ∧ ∀ i, ns.length ≤ i → nl i = 0
def ci_ext (w : List Nat) (c : Nat) : List Nat := if c = 0 then w else w ++ [c]
theorem ci_add {A : List (List Nat)} {w : List Nat} {c : Nat} (hN : ci_XN a_nameLengths a_nameChars (A ++ [w])) (hA : A.length < 32) (hw : w.length < 11) (h11 : ∀ v, v ∈ A → v.length ≤ 11) (hc : c < 128)
    (K : ∀ nl ch : Nat → Int32, ci_XN nl ch (A ++ [ci_ext w c]) → post (f_expansionLimit, f_expansionCount, f_state, f_inputLength, f_inputPosition, f_outputCount, f_pendingCount, nI (A.length + 1), f_saveCount, f_depth, f_conditionalCount, f_argumentsUsed, f_argumentsLimit, f_heldCount, a_input, a_output, a_pending, a_catcodes, ch, nl, a_meanings, a_savedItems, a_savedLevels, a_savedCatcodes, a_conditionals, a_arguments, a_argumentStarts, a_argumentEnds, a_held)) : wpX_addCharToLastName post (f_expansionLimit, f_expansionCount, f_state, f_inputLength, f_inputPosition, f_outputCount, f_pendingCount, nI (A.length + 1), f_saveCount, f_depth, f_conditionalCount, f_argumentsUsed, f_argumentsLimit, f_heldCount, a_input, a_output, a_pending, a_catcodes, a_nameChars, a_nameLengths, a_meanings, a_savedItems, a_savedLevels, a_savedCatcodes, a_conditionals, a_arguments, a_argumentStarts, a_argumentEnds, a_held) (nI c) := by
  have hl := hN.1 A.length (by rw [List.length_append]; exact Nat.lt_succ_self _)
  rw [xr_getD_append_here] at hl
  have e : nI (A.length + 1) - 1 = nI A.length := nI_pred _
  unfold wpX_addCharToLastName
  refine nm_r e ?_
  by_cases h0 : c = 0
  · subst h0
    refine br_t rfl ?_
    have := K a_nameLengths a_nameChars (by unfold ci_ext; rw [if_pos rfl]; exact hN)
    exact this
  · refine br_f (fun z => h0 ((nI_eq (b := 0) (by omega) (by decide)).mp z)) ?_
    have v : vp_in (nI A.length) 32 := vp_in_nI hA (by decide)
    have cl : (nI A.length).toNatClampNeg = A.length := nI_clamp (by omega)
    refine ⟨v, ?_⟩
    rw [cl, hl.1]
    have ix : nI A.length * 11 + nI w.length = nI (A.length * 11 + w.length) := by rw [← nI_add, ← pk_mul]; rfl
    rw [ix]
    refine br_f (nI_ge (b := 11) hw (by decide)) ⟨v, vp_in_nI (by omega) (by decide), fun ch ech => ⟨v, v, fun nl enl => ?_⟩⟩
    rw [nI_clamp (by omega)] at ech
    rw [nI_1] at enl
    refine K nl ch ⟨?_, fun i hi => ?_⟩
    · unfold ci_ext
      rw [if_neg h0]
      have hA' : xr_N a_nameLengths a_nameChars A := fun i hi => by
        have := hN.1 i (by rw [List.length_append]; omega)
        rw [xr_getD_append_left hi] at this
        exact this
      refine xr_N_push hA' h11 ?_ (fun j hj => ?_) (fun i hi => ?_) (fun k hk => ?_)
      · rw [enl, pk_us, List.length_append]; rfl
      · rw [ech]
        rw [List.length_append] at hj
        simp only [List.length_cons, List.length_nil] at hj
        by_cases ej : j = w.length
        · subst ej
          rw [pk_us, xr_getD_append_here]
        · rw [pk_un (by omega), xr_getD_append_left (by omega)]
          exact hl.2 j (by omega)
      · rw [enl, pk_un (by omega)]
      · rw [ech, pk_un (by omega)]
    · rw [List.length_append] at hi
      simp only [List.length_cons, List.length_nil] at hi
      rw [enl, pk_un (by omega)]
      exact hN.2 i (by rw [List.length_append]; simp only [List.length_cons, List.length_nil]; omega)
theorem ci_ext_l {w : List Nat} {c : Nat} : (ci_ext w c).length ≤ w.length + 1 := by
  unfold ci_ext
  split
  · omega
  · rw [List.length_append]; exact Nat.le_refl _
theorem ci_len {A : List (List Nat)} {w : List Nat} {c1 c2 c3 c4 : Nat} (hN : ci_XN a_nameLengths a_nameChars (A ++ [w])) (hA : A.length < 32) (hw : w.length + 4 ≤ 11) (h11 : ∀ v, v ∈ A → v.length ≤ 11) (h1 : c1 < 128) (h2 : c2 < 128) (h3 : c3 < 128) (h4 : c4 < 128)
    (K : ∀ nl ch : Nat → Int32, ci_XN nl ch (A ++ [ci_ext (ci_ext (ci_ext (ci_ext w c1) c2) c3) c4]) → post (f_expansionLimit, f_expansionCount, f_state, f_inputLength, f_inputPosition, f_outputCount, f_pendingCount, nI (A.length + 1), f_saveCount, f_depth, f_conditionalCount, f_argumentsUsed, f_argumentsLimit, f_heldCount, a_input, a_output, a_pending, a_catcodes, ch, nl, a_meanings, a_savedItems, a_savedLevels, a_savedCatcodes, a_conditionals, a_arguments, a_argumentStarts, a_argumentEnds, a_held)) : wpX_lengthenLastName post (f_expansionLimit, f_expansionCount, f_state, f_inputLength, f_inputPosition, f_outputCount, f_pendingCount, nI (A.length + 1), f_saveCount, f_depth, f_conditionalCount, f_argumentsUsed, f_argumentsLimit, f_heldCount, a_input, a_output, a_pending, a_catcodes, a_nameChars, a_nameLengths, a_meanings, a_savedItems, a_savedLevels, a_savedCatcodes, a_conditionals, a_arguments, a_argumentStarts, a_argumentEnds, a_held) (nI c1) (nI c2) (nI c3) (nI c4) := by
  unfold wpX_lengthenLastName
  have l1 := ci_ext_l (w := w) (c := c1)
  have l2 := ci_ext_l (w := ci_ext w c1) (c := c2)
  have l3 := ci_ext_l (w := ci_ext (ci_ext w c1) c2) (c := c3)
  refine ci_add hN hA (by omega) h11 h1 fun nl ch hN => ?_
  refine ci_add hN hA (by omega) h11 h2 fun nl ch hN => ?_
  refine ci_add hN hA (by omega) h11 h3 fun nl ch hN => ?_
  exact ci_add hN hA (by omega) h11 h4 K
/-- the first meanings -/
def ci_MM (mm : Nat → Int32) (k : Nat) : Prop := ∀ j, mm j = if j < k * 36 then (if j % 36 = 0 then 1 else if j % 36 = 1 then nI (j / 36) else 0) else 0
theorem ci_MM_s {mm : Nat → Int32} {k : Nat} (h : ci_MM mm k) : ci_MM (upd (upd mm (k * 36) 1) (k * 36 + 1) (nI k)) (k + 1) := by
  intro j
  by_cases e1 : j = k * 36 + 1
  · rw [e1, pk_us, if_pos (by omega), if_neg (by omega), if_pos (by omega), show (k * 36 + 1) / 36 = k from by omega]
  · rw [pk_un e1]
    by_cases e0 : j = k * 36
    · rw [e0, pk_us, if_pos (by omega), if_pos (by omega)]
    · rw [pk_un e0, h j]
      by_cases hj : j < k * 36
      · have hj2 : j < (k + 1) * 36 := by omega
        rw [if_pos hj, if_pos hj2]
      · rw [if_neg hj]
        by_cases hj2 : j < (k + 1) * 36
        · rw [if_pos hj2, if_neg (by omega), if_neg (by omega)]
        · rw [if_neg hj2]
theorem ci_prim {A : List (List Nat)} {c1 c2 c3 c4 c5 c6 c7 : Nat} (hN : ci_XN a_nameLengths a_nameChars A) (hM : ci_MM a_meanings A.length) (hA : A.length < 32) (h11 : ∀ v, v ∈ A → v.length ≤ 11) (h1 : c1 < 128) (h2 : c2 < 128) (h3 : c3 < 128) (h4 : c4 < 128) (h5 : c5 < 128) (h6 : c6 < 128) (h7 : c7 < 128)
    (K : ∀ nl ch mm : Nat → Int32, ci_XN nl ch (A ++ [ci_ext (ci_ext (ci_ext (ci_ext (ci_ext (ci_ext (ci_ext (ci_ext [] c1) c2) c3) c4) c5) c6) c7) 0]) → ci_MM mm (A.length + 1) → post (f_expansionLimit, f_expansionCount, f_state, f_inputLength, f_inputPosition, f_outputCount, f_pendingCount, nI (A.length + 1), f_saveCount, f_depth, f_conditionalCount, f_argumentsUsed, f_argumentsLimit, f_heldCount, a_input, a_output, a_pending, a_catcodes, ch, nl, mm, a_savedItems, a_savedLevels, a_savedCatcodes, a_conditionals, a_arguments, a_argumentStarts, a_argumentEnds, a_held)) : wpX_addPrimitive post (f_expansionLimit, f_expansionCount, f_state, f_inputLength, f_inputPosition, f_outputCount, f_pendingCount, nI A.length, f_saveCount, f_depth, f_conditionalCount, f_argumentsUsed, f_argumentsLimit, f_heldCount, a_input, a_output, a_pending, a_catcodes, a_nameChars, a_nameLengths, a_meanings, a_savedItems, a_savedLevels, a_savedCatcodes, a_conditionals, a_arguments, a_argumentStarts, a_argumentEnds, a_held) (nI c1) (nI c2) (nI c3) (nI c4) (nI c5) (nI c6) (nI c7) := by
  unfold wpX_addPrimitive
  have i0 : nI A.length * 36 + 0 = nI (A.length * 36) := by
    have : nI A.length * 36 = nI (A.length * 36) := pk_mul _ 36
    rw [this]; exact nI_add _ 0
  have i1 : nI A.length * 36 + 1 = nI (A.length * 36 + 1) := by
    have : nI A.length * 36 = nI (A.length * 36) := pk_mul _ 36
    rw [this]; exact nI_1 _
  refine ⟨by rw [i0]; exact vp_in_nI (by omega) (by decide), fun m1 e1 => ⟨by rw [i1]; exact vp_in_nI (by omega) (by decide), fun m2 e2 => nm_r (nI_1 _) ?_⟩⟩
  rw [i0, nI_clamp (by omega)] at e1
  rw [i1, nI_clamp (by omega)] at e2
  subst e1
  have hM2 : ci_MM m2 (A.length + 1) := by rw [e2]; exact ci_MM_s hM
  have hN0 : ci_XN a_nameLengths a_nameChars (A ++ [[]]) := by
    refine ⟨fun i hi => ?_, fun i hi => hN.2 i ?_⟩
    · rw [List.length_append] at hi
      simp only [List.length_cons, List.length_nil] at hi
      by_cases e : i = A.length
      · subst e
        rw [xr_getD_append_here]
        exact ⟨hN.2 _ (Nat.le_refl _), fun j hj => absurd hj (Nat.not_lt_zero _)⟩
      · rw [xr_getD_append_left (by omega)]
        exact hN.1 i (by omega)
    · rw [List.length_append] at hi
      omega
  have l1 := ci_ext_l (w := []) (c := c1)
  have l2 := ci_ext_l (w := ci_ext [] c1) (c := c2)
  have l3 := ci_ext_l (w := ci_ext (ci_ext [] c1) c2) (c := c3)
  have l4 := ci_ext_l (w := ci_ext (ci_ext (ci_ext [] c1) c2) c3) (c := c4)
  have l0 : ([] : List Nat).length = 0 := rfl
  refine ci_len hN0 hA (by decide) h11 h1 h2 h3 h4 fun nl ch hN1 => ?_
  refine ci_len hN1 hA (by omega) h11 h5 h6 h7 (show 0 < 128 by decide) fun nl ch hN2 => ?_
  exact K nl ch m2 hN2 hM2
end IX
section IX2
variable {f_expansionLimit f_expansionCount f_state f_inputLength f_inputPosition f_outputCount f_pendingCount f_namesUsed f_saveCount f_depth f_conditionalCount f_argumentsUsed f_argumentsLimit f_heldCount : Int32} {a_input a_output a_pending a_catcodes a_nameChars a_nameLengths a_meanings a_savedItems a_savedLevels a_savedCatcodes a_conditionals a_arguments a_argumentStarts a_argumentEnds a_held : Nat → Int32}
variable {post : SX → Prop}
/-- the first names -/
def ci_ns : List (List Nat) := [[100, 101, 102], [103, 100, 101, 102], [108, 101, 116], [103, 108, 101, 116], [101, 120, 112, 97, 110, 100, 97, 102, 116, 101, 114], [98, 101, 103, 105, 110, 103, 114, 111, 117, 112], [101, 110, 100, 103, 114, 111, 117, 112], [99, 97, 116, 99, 111, 100, 101], [103, 99, 97, 116, 99, 111, 100, 101], [105, 102, 116, 114, 117, 101], [105, 102, 102, 97, 108, 115, 101], [105, 102, 120], [101, 108, 115, 101], [102, 105]]
theorem ci_all (hN : ci_XN a_nameLengths a_nameChars []) (hM : ci_MM a_meanings 0)
    (K : ∀ nl ch mm : Nat → Int32, ci_XN nl ch ci_ns → ci_MM mm 14 → post (f_expansionLimit, f_expansionCount, f_state, f_inputLength, f_inputPosition, f_outputCount, f_pendingCount, 14, f_saveCount, f_depth, f_conditionalCount, f_argumentsUsed, f_argumentsLimit, f_heldCount, a_input, a_output, a_pending, a_catcodes, ch, nl, mm, a_savedItems, a_savedLevels, a_savedCatcodes, a_conditionals, a_arguments, a_argumentStarts, a_argumentEnds, a_held)) : wpX_addAllPrimitives post (f_expansionLimit, f_expansionCount, f_state, f_inputLength, f_inputPosition, f_outputCount, f_pendingCount, 0, f_saveCount, f_depth, f_conditionalCount, f_argumentsUsed, f_argumentsLimit, f_heldCount, a_input, a_output, a_pending, a_catcodes, a_nameChars, a_nameLengths, a_meanings, a_savedItems, a_savedLevels, a_savedCatcodes, a_conditionals, a_arguments, a_argumentStarts, a_argumentEnds, a_held) := by
  unfold wpX_addAllPrimitives
  refine ci_prim (A := []) (c1 := 100) (c2 := 101) (c3 := 102) (c4 := 0) (c5 := 0) (c6 := 0) (c7 := 0) hN hM (by decide) (by decide) (by decide) (by decide) (by decide) (by decide) (by decide) (by decide) (by decide) fun nl ch mm hN hM => ?_
  refine ci_prim (A := [[100, 101, 102]]) (c1 := 103) (c2 := 100) (c3 := 101) (c4 := 102) (c5 := 0) (c6 := 0) (c7 := 0) hN hM (by decide) (by decide) (by decide) (by decide) (by decide) (by decide) (by decide) (by decide) (by decide) fun nl ch mm hN hM => ?_
  refine ci_prim (A := ci_ns.take 2) (c1 := 108) (c2 := 101) (c3 := 116) (c4 := 0) (c5 := 0) (c6 := 0) (c7 := 0) hN hM (by decide) (by decide) (by decide) (by decide) (by decide) (by decide) (by decide) (by decide) (by decide) fun nl ch mm hN hM => ?_
  refine ci_prim (A := ci_ns.take 3) (c1 := 103) (c2 := 108) (c3 := 101) (c4 := 116) (c5 := 0) (c6 := 0) (c7 := 0) hN hM (by decide) (by decide) (by decide) (by decide) (by decide) (by decide) (by decide) (by decide) (by decide) fun nl ch mm hN hM => ?_
  refine ci_prim (A := ci_ns.take 4) (c1 := 101) (c2 := 120) (c3 := 112) (c4 := 97) (c5 := 110) (c6 := 100) (c7 := 97) hN hM (by decide) (by decide) (by decide) (by decide) (by decide) (by decide) (by decide) (by decide) (by decide) fun nl ch mm hN hM => ?_
  refine ci_len (A := ci_ns.take 4) (w := [101, 120, 112, 97, 110, 100, 97]) (c1 := 102) (c2 := 116) (c3 := 101) (c4 := 114) hN (by decide) (by decide) (by decide) (by decide) (by decide) (by decide) (by decide) fun nl ch hN => ?_
  refine ci_prim (A := ci_ns.take 5) (c1 := 98) (c2 := 101) (c3 := 103) (c4 := 105) (c5 := 110) (c6 := 103) (c7 := 114) hN hM (by decide) (by decide) (by decide) (by decide) (by decide) (by decide) (by decide) (by decide) (by decide) fun nl ch mm hN hM => ?_
  refine ci_len (A := ci_ns.take 5) (w := [98, 101, 103, 105, 110, 103, 114]) (c1 := 111) (c2 := 117) (c3 := 112) (c4 := 0) hN (by decide) (by decide) (by decide) (by decide) (by decide) (by decide) (by decide) fun nl ch hN => ?_
  refine ci_prim (A := ci_ns.take 6) (c1 := 101) (c2 := 110) (c3 := 100) (c4 := 103) (c5 := 114) (c6 := 111) (c7 := 117) hN hM (by decide) (by decide) (by decide) (by decide) (by decide) (by decide) (by decide) (by decide) (by decide) fun nl ch mm hN hM => ?_
  refine ci_len (A := ci_ns.take 6) (w := [101, 110, 100, 103, 114, 111, 117]) (c1 := 112) (c2 := 0) (c3 := 0) (c4 := 0) hN (by decide) (by decide) (by decide) (by decide) (by decide) (by decide) (by decide) fun nl ch hN => ?_
  refine ci_prim (A := ci_ns.take 7) (c1 := 99) (c2 := 97) (c3 := 116) (c4 := 99) (c5 := 111) (c6 := 100) (c7 := 101) hN hM (by decide) (by decide) (by decide) (by decide) (by decide) (by decide) (by decide) (by decide) (by decide) fun nl ch mm hN hM => ?_
  refine ci_prim (A := ci_ns.take 8) (c1 := 103) (c2 := 99) (c3 := 97) (c4 := 116) (c5 := 99) (c6 := 111) (c7 := 100) hN hM (by decide) (by decide) (by decide) (by decide) (by decide) (by decide) (by decide) (by decide) (by decide) fun nl ch mm hN hM => ?_
  refine ci_len (A := ci_ns.take 8) (w := [103, 99, 97, 116, 99, 111, 100]) (c1 := 101) (c2 := 0) (c3 := 0) (c4 := 0) hN (by decide) (by decide) (by decide) (by decide) (by decide) (by decide) (by decide) fun nl ch hN => ?_
  refine ci_prim (A := ci_ns.take 9) (c1 := 105) (c2 := 102) (c3 := 116) (c4 := 114) (c5 := 117) (c6 := 101) (c7 := 0) hN hM (by decide) (by decide) (by decide) (by decide) (by decide) (by decide) (by decide) (by decide) (by decide) fun nl ch mm hN hM => ?_
  refine ci_prim (A := ci_ns.take 10) (c1 := 105) (c2 := 102) (c3 := 102) (c4 := 97) (c5 := 108) (c6 := 115) (c7 := 101) hN hM (by decide) (by decide) (by decide) (by decide) (by decide) (by decide) (by decide) (by decide) (by decide) fun nl ch mm hN hM => ?_
  refine ci_prim (A := ci_ns.take 11) (c1 := 105) (c2 := 102) (c3 := 120) (c4 := 0) (c5 := 0) (c6 := 0) (c7 := 0) hN hM (by decide) (by decide) (by decide) (by decide) (by decide) (by decide) (by decide) (by decide) (by decide) fun nl ch mm hN hM => ?_
  refine ci_prim (A := ci_ns.take 12) (c1 := 101) (c2 := 108) (c3 := 115) (c4 := 101) (c5 := 0) (c6 := 0) (c7 := 0) hN hM (by decide) (by decide) (by decide) (by decide) (by decide) (by decide) (by decide) (by decide) (by decide) fun nl ch mm hN hM => ?_
  refine ci_prim (A := ci_ns.take 13) (c1 := 102) (c2 := 105) (c3 := 0) (c4 := 0) (c5 := 0) (c6 := 0) (c7 := 0) hN hM (by decide) (by decide) (by decide) (by decide) (by decide) (by decide) (by decide) (by decide) (by decide) fun nl ch mm hN hM => ?_
  exact K nl ch mm hN hM
theorem ci_MM0 : ci_MM (fun _ => 0) 0 := fun j => (if_neg (by omega)).symm
theorem ci_XN0 : ci_XN (fun _ => 0) (fun _ => 0) [] := ⟨fun i hi => absurd hi (Nat.not_lt_zero _), fun _ _ => rfl⟩
/-- the state that the constructor leaves -/
def ci_SX (L : Int32) (u : SX) : Prop := ∃ cat nl ch mm : Nat → Int32, (∀ j, j < 128 → cat j = nI (ci_C j)) ∧ ci_XN nl ch ci_ns ∧ ci_MM mm 14 ∧ u = (L, 0, 0, 0, 0, 0, 0, 14, 0, 0, 0, 0, 0, 0, (fun _ => 0), (fun _ => 0), (fun _ => 0), cat, ch, nl, mm, (fun _ => 0), (fun _ => 0), (fun _ => 0), (fun _ => 0), (fun _ => 0), (fun _ => 0), (fun _ => 0), (fun _ => 0))
theorem ci_230 {L : Int32} (K : ∀ u, ci_SX L u → post u) : wX_init_230 post L 0 0 0 0 0 0 0 0 0 0 0 0 0 (fun _ => 0) (fun _ => 0) (fun _ => 0) (fun _ => 0) (fun _ => 0) (fun _ => 0) (fun _ => 0) (fun _ => 0) (fun _ => 0) (fun _ => 0) (fun _ => 0) (fun _ => 0) (fun _ => 0) (fun _ => 0) (fun _ => 0) := by
  unfold wX_init_230 wpX_setFirstCatcodes
  refine ⟨129, ci_x (fun cat hc => ?_) 129 0 (fun _ => 0) (by decide) (by decide) (fun j hj => absurd hj (Nat.not_lt_zero _))⟩
  refine ci_all ci_XN0 ci_MM0 fun nl ch mm hN hM => ?_
  exact K _ ⟨cat, nl, ch, mm, hc, hN, hM, rfl⟩
/-- the limit as it is kept -/
def ci_lim (k0 : Int32) : Int32 := if 1 ≤ k0 then (if k0 ≤ 100 then k0 else 100) else 1
theorem ci_initX {k0 : Int32} (K : ∀ u, ci_SX (ci_lim k0) u → post u) : wpX_init post k0 := by
  unfold wpX_init
  unfold ci_lim at K
  refine br_c (fun h1 => br_c (fun h2 => ?_) (fun h2 => ?_)) (fun h1 => ?_)
  · rw [if_pos h1, if_pos h2] at K
    exact ci_230 K
  · rw [if_pos h1, if_neg h2] at K
    exact ci_230 K
  · rw [if_neg h1] at K
    exact ci_230 K
end IX2
