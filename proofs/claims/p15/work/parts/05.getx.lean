section GT
variable {f_expansionLimit f_expansionCount f_state f_inputLength f_inputPosition f_outputCount f_pendingCount f_namesUsed f_saveCount f_depth f_conditionalCount f_argumentsUsed f_argumentsLimit f_heldCount : Int32} {a_input a_output a_pending a_catcodes a_nameChars a_nameLengths a_meanings a_savedItems a_savedLevels a_savedCatcodes a_conditionals a_arguments a_argumentStarts a_argumentEnds a_held : Nat → Int32}
variable {p0 : Int32} {k : Nat}
theorem gt_isIn {post : Int32 → Prop} {j : Nat} (hj : j < k) (hk : k ≤ 32) (K : post 1) : wpX_isName post (f_expansionLimit, f_expansionCount, f_state, f_inputLength, f_inputPosition, f_outputCount, f_pendingCount, nI k, f_saveCount, f_depth, f_conditionalCount, f_argumentsUsed, f_argumentsLimit, f_heldCount, a_input, a_output, a_pending, a_catcodes, a_nameChars, a_nameLengths, a_meanings, a_savedItems, a_savedLevels, a_savedCatcodes, a_conditionals, a_arguments, a_argumentStarts, a_argumentEnds, a_held) (nI j) := br_f (nI_pos (by omega)) (br_f (nI_ge hj (by omega)) K)
theorem gt_isNot {post : Int32 → Prop} (h : p0 < 0 ∨ nI k ≤ p0) (K : post 0) : wpX_isName post (f_expansionLimit, f_expansionCount, f_state, f_inputLength, f_inputPosition, f_outputCount, f_pendingCount, nI k, f_saveCount, f_depth, f_conditionalCount, f_argumentsUsed, f_argumentsLimit, f_heldCount, a_input, a_output, a_pending, a_catcodes, a_nameChars, a_nameLengths, a_meanings, a_savedItems, a_savedLevels, a_savedCatcodes, a_conditionals, a_arguments, a_argumentStarts, a_argumentEnds, a_held) p0 := by
  by_cases z0 : p0 < 0
  · exact br_t z0 K
  · exact br_f z0 (br_t (h.resolve_left z0) K)
theorem gt_ix (x : Int32) (hk : k ≤ 32) : (x < 0 ∨ nI k ≤ x) ∨ ∃ j : Nat, j < k ∧ x = nI j := by
  rcases pk_ix x (n := k) (by omega) with z | z | z
  · exact Or.inl (Or.inl z)
  · exact Or.inl (Or.inr z)
  · exact Or.inr z
theorem gt_36 (j i : Nat) : nI j * 36 + nI i = nI (j * 36 + i) := by rw [← nI_add, ← pk_mul]; rfl
end GT
