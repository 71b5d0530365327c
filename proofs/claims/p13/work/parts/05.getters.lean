section GT
variable {f_expansionLimit f_expansionCount f_state f_inputLength f_inputPosition f_outputCount f_pendingCount f_namesUsed f_saveCount f_depth f_conditionalCount f_argumentsUsed f_argumentsLimit f_heldCount : Int32} {a_input a_output a_pending a_catcodes a_nameChars a_nameLengths a_meanings a_savedItems a_savedLevels a_savedCatcodes a_conditionals a_arguments a_argumentStarts a_argumentEnds a_held : Nat → Int32}
variable {f_limit f_used f_st f_ran f_inLen f_inPos f_pl f_ol f_nc f_sc f_yd f_cd : Int32} {a_in a_cat a_pend a_out a_nLen a_nCh a_kind a_val a_plen a_rlen a_ptx a_rtx a_sItem a_sLev a_conds a_arg a_aSt a_aLn a_stk : Nat → Int32}
variable {R : Prop} {p0 p1 p2 : Int32} {k : Nat}
theorem gt_outputToken {n : Nat} (hn : n ≤ 256) (h : ∀ j, j < n → a_output j = a_out j) (hR : R) : wpX_outputToken (fun r => wpY_outputToken (fun r' => r' = r ∧ R) (f_limit, f_used, f_st, f_ran, f_inLen, f_inPos, f_pl, nI n, f_nc, f_sc, f_yd, f_cd, a_in, a_cat, a_pend, a_out, a_nLen, a_nCh, a_kind, a_val, a_plen, a_rlen, a_ptx, a_rtx, a_sItem, a_sLev, a_conds, a_arg, a_aSt, a_aLn, a_stk) p0) (f_expansionLimit, f_expansionCount, f_state, f_inputLength, f_inputPosition, nI n, f_pendingCount, f_namesUsed, f_saveCount, f_depth, f_conditionalCount, f_argumentsUsed, f_argumentsLimit, f_heldCount, a_input, a_output, a_pending, a_catcodes, a_nameChars, a_nameLengths, a_meanings, a_savedItems, a_savedLevels, a_savedCatcodes, a_conditionals, a_arguments, a_argumentStarts, a_argumentEnds, a_held) p0 := by
  rcases pk_ix p0 (n := n) (by omega) with z | z | ⟨j, hj, rfl⟩
  · exact br_t z (br_t z ⟨rfl, hR⟩)
  · by_cases z0 : p0 < 0
    · exact br_t z0 (br_t z0 ⟨rfl, hR⟩)
    · exact br_f z0 (br_t z (br_f z0 (br_f (Int32.not_lt.mpr z) ⟨rfl, hR⟩)))
  · have v : vp_in (nI j) 256 := vp_in_nI (by omega) (by decide)
    have z0 : ¬ nI j < 0 := nI_pos (by omega)
    refine br_f z0 (br_f (nI_ge hj (by omega)) ⟨v, br_f z0 (br_t (nI_lt hj (by omega)) ⟨v, ?_, hR⟩)⟩)
    rw [nI_clamp (by omega)]
    exact (h j hj).symm
theorem gt_catcode (h : ∀ j, j < 128 → a_catcodes j = a_cat j) (hR : R) : wpX_catcode (fun r => wpY_catcode (fun r' => r' = r ∧ R) (f_limit, f_used, f_st, f_ran, f_inLen, f_inPos, f_pl, f_ol, f_nc, f_sc, f_yd, f_cd, a_in, a_cat, a_pend, a_out, a_nLen, a_nCh, a_kind, a_val, a_plen, a_rlen, a_ptx, a_rtx, a_sItem, a_sLev, a_conds, a_arg, a_aSt, a_aLn, a_stk) p0) (f_expansionLimit, f_expansionCount, f_state, f_inputLength, f_inputPosition, f_outputCount, f_pendingCount, f_namesUsed, f_saveCount, f_depth, f_conditionalCount, f_argumentsUsed, f_argumentsLimit, f_heldCount, a_input, a_output, a_pending, a_catcodes, a_nameChars, a_nameLengths, a_meanings, a_savedItems, a_savedLevels, a_savedCatcodes, a_conditionals, a_arguments, a_argumentStarts, a_argumentEnds, a_held) p0 := by
  rcases pk_ix p0 (n := 128) (by decide) with z | z | ⟨j, hj, rfl⟩
  · exact br_t z (br_t z ⟨rfl, hR⟩)
  · by_cases z0 : p0 < 0
    · exact br_t z0 (br_t z0 ⟨rfl, hR⟩)
    · refine br_f z0 (br_t z (br_f z0 (br_f ?_ ⟨rfl, hR⟩)))
      intro z2
      exact absurd (Int32.le_trans z z2) (by decide)
  · have v : vp_in (nI j) 128 := vp_in_nI hj (by decide)
    have z0 : ¬ nI j < 0 := nI_pos (by omega)
    refine br_f z0 (br_f (nI_ge (b := 128) hj (by decide)) ⟨v, br_f z0 (br_t (nI_le (b := 127) (by omega) (by decide)) ⟨v, ?_, hR⟩)⟩)
    rw [nI_clamp (by omega)]
    exact (h j hj).symm
theorem gt_isIn {post : Int32 → Prop} {j : Nat} (hj : j < k) (hk : k ≤ 32) (K : post 1) : wpX_isName post (f_expansionLimit, f_expansionCount, f_state, f_inputLength, f_inputPosition, f_outputCount, f_pendingCount, nI k, f_saveCount, f_depth, f_conditionalCount, f_argumentsUsed, f_argumentsLimit, f_heldCount, a_input, a_output, a_pending, a_catcodes, a_nameChars, a_nameLengths, a_meanings, a_savedItems, a_savedLevels, a_savedCatcodes, a_conditionals, a_arguments, a_argumentStarts, a_argumentEnds, a_held) (nI j) := br_f (nI_pos (by omega)) (br_f (nI_ge hj (by omega)) K)
theorem gt_isNot {post : Int32 → Prop} (h : p0 < 0 ∨ nI k ≤ p0) (K : post 0) : wpX_isName post (f_expansionLimit, f_expansionCount, f_state, f_inputLength, f_inputPosition, f_outputCount, f_pendingCount, nI k, f_saveCount, f_depth, f_conditionalCount, f_argumentsUsed, f_argumentsLimit, f_heldCount, a_input, a_output, a_pending, a_catcodes, a_nameChars, a_nameLengths, a_meanings, a_savedItems, a_savedLevels, a_savedCatcodes, a_conditionals, a_arguments, a_argumentStarts, a_argumentEnds, a_held) p0 := by
  by_cases z0 : p0 < 0
  · exact br_t z0 K
  · exact br_f z0 (br_t (h.resolve_left z0) K)
theorem gt_ix (x : Int32) (hk : k ≤ 32) : (x < 0 ∨ nI k ≤ x) ∨ ∃ j : Nat, j < k ∧ x = nI j := by
  rcases pk_ix x (n := k) (by omega) with z | z | z
  · exact Or.inl (Or.inl z)
  · exact Or.inl (Or.inr z)
  · exact Or.inr z
theorem gt_nameLength (hk : k ≤ 32) (h : ∀ j, j < k → a_nameLengths j = a_nLen j) (hR : R) : wpX_nameLength (fun r => wpY_nameLength (fun r' => r' = r ∧ R) (f_limit, f_used, f_st, f_ran, f_inLen, f_inPos, f_pl, f_ol, nI k, f_sc, f_yd, f_cd, a_in, a_cat, a_pend, a_out, a_nLen, a_nCh, a_kind, a_val, a_plen, a_rlen, a_ptx, a_rtx, a_sItem, a_sLev, a_conds, a_arg, a_aSt, a_aLn, a_stk) p0) (f_expansionLimit, f_expansionCount, f_state, f_inputLength, f_inputPosition, f_outputCount, f_pendingCount, nI k, f_saveCount, f_depth, f_conditionalCount, f_argumentsUsed, f_argumentsLimit, f_heldCount, a_input, a_output, a_pending, a_catcodes, a_nameChars, a_nameLengths, a_meanings, a_savedItems, a_savedLevels, a_savedCatcodes, a_conditionals, a_arguments, a_argumentStarts, a_argumentEnds, a_held) p0 := by
  unfold wpX_nameLength
  rcases gt_ix p0 hk with z | ⟨j, hj, rfl⟩
  · refine gt_isNot z (br_t rfl ?_)
    by_cases z0 : p0 < 0
    · exact br_t z0 ⟨rfl, hR⟩
    · exact br_f z0 (br_f (Int32.not_lt.mpr (z.resolve_left z0)) ⟨rfl, hR⟩)
  · have v : vp_in (nI j) 32 := vp_in_nI (by omega) (by decide)
    refine gt_isIn hj hk (br_f ci_10 ⟨v, br_f (nI_pos (by omega)) (br_t (nI_lt hj (by omega)) ⟨v, ?_, hR⟩)⟩)
    rw [nI_clamp (by omega)]
    exact (h j hj).symm
theorem gt_nameChar {ns : List (List Nat)} (hk : ns.length ≤ 32) (h11 : ∀ v, v ∈ ns → v.length ≤ 11) (hX : xr_N a_nameLengths a_nameChars ns) (hY : yr_N a_nLen a_nCh ns) (hR : R) : wpX_nameChar (fun r => wpY_nameChar (fun r' => r' = r ∧ R) (f_limit, f_used, f_st, f_ran, f_inLen, f_inPos, f_pl, f_ol, nI ns.length, f_sc, f_yd, f_cd, a_in, a_cat, a_pend, a_out, a_nLen, a_nCh, a_kind, a_val, a_plen, a_rlen, a_ptx, a_rtx, a_sItem, a_sLev, a_conds, a_arg, a_aSt, a_aLn, a_stk) p0 p1) (f_expansionLimit, f_expansionCount, f_state, f_inputLength, f_inputPosition, f_outputCount, f_pendingCount, nI ns.length, f_saveCount, f_depth, f_conditionalCount, f_argumentsUsed, f_argumentsLimit, f_heldCount, a_input, a_output, a_pending, a_catcodes, a_nameChars, a_nameLengths, a_meanings, a_savedItems, a_savedLevels, a_savedCatcodes, a_conditionals, a_arguments, a_argumentStarts, a_argumentEnds, a_held) p0 p1 := by
  unfold wpX_nameChar
  rcases gt_ix p0 hk with z | ⟨j, hj, rfl⟩
  · refine gt_isNot z (br_t rfl ?_)
    by_cases z0 : p0 < 0
    · exact br_t z0 ⟨rfl, hR⟩
    · exact br_f z0 (br_t (z.resolve_left z0) ⟨rfl, hR⟩)
  · have v : vp_in (nI j) 32 := vp_in_nI (by omega) (by decide)
    have z0 : ¬ nI j < 0 := nI_pos (by omega)
    have z1 := nI_ge hj (show ns.length < 2 ^ 31 by omega)
    have cl : (nI j).toNatClampNeg = j := nI_clamp (by omega)
    have hw : (ns.getD j []).length ≤ 11 := by
      rw [List.getD_eq_getElem?_getD, List.getElem?_eq_getElem hj]
      exact h11 _ (List.getElem_mem hj)
    obtain ⟨x1, x2⟩ := hX j hj
    obtain ⟨y1, y2⟩ := hY j hj
    refine gt_isIn hj hk (br_f ci_10 ?_)
    rcases pk_ix p1 (n := (ns.getD j []).length) (by omega) with w | w | ⟨i, hi, rfl⟩
    · exact br_t w (br_f z0 (br_f z1 (br_t w ⟨rfl, hR⟩)))
    · by_cases w0 : p1 < 0
      · exact br_t w0 (br_f z0 (br_f z1 (br_t w0 ⟨rfl, hR⟩)))
      · refine br_f w0 ⟨v, br_f ?_ (br_f z0 (br_f z1 (br_f w0 ⟨v, br_f ?_ ⟨rfl, hR⟩⟩)))⟩
        · rw [cl, x1]; exact Int32.not_lt.mpr w
        · rw [cl, y1]; exact Int32.not_lt.mpr w
    · have w0 : ¬ nI i < 0 := nI_pos (by omega)
      have lt : nI i < nI (ns.getD j []).length := nI_lt hi (by omega)
      have ix : nI j * 11 + nI i = nI (j * 11 + i) := by rw [← nI_add, ← pk_mul]; rfl
      have iy : nI j * 12 + nI i = nI (j * 12 + i) := by rw [← nI_add, ← pk_mul]; rfl
      refine br_f w0 ⟨v, br_t (by rw [cl, x1]; exact lt) ⟨by rw [ix]; exact vp_in_nI (by omega) (by decide), br_f z0 (br_f z1 (br_f w0 ⟨v, br_t (by rw [cl, y1]; exact lt) ⟨by rw [iy]; exact vp_in_nI (by omega) (by decide), ?_, hR⟩⟩))⟩⟩
      rw [ix, iy, nI_clamp (by omega), nI_clamp (by omega), x2 i hi, y2 i hi]
theorem gt_36 (j i : Nat) : nI j * 36 + nI i = nI (j * 36 + i) := by rw [← nI_add, ← pk_mul]; rfl
theorem gt_meaningKind (hk : k ≤ 32) (h : ∀ j, j < k → a_meanings (j * 36) = a_kind j) (hR : R) : wpX_meaningKind (fun r => wpY_meaningKind (fun r' => r' = r ∧ R) (f_limit, f_used, f_st, f_ran, f_inLen, f_inPos, f_pl, f_ol, nI k, f_sc, f_yd, f_cd, a_in, a_cat, a_pend, a_out, a_nLen, a_nCh, a_kind, a_val, a_plen, a_rlen, a_ptx, a_rtx, a_sItem, a_sLev, a_conds, a_arg, a_aSt, a_aLn, a_stk) p0) (f_expansionLimit, f_expansionCount, f_state, f_inputLength, f_inputPosition, f_outputCount, f_pendingCount, nI k, f_saveCount, f_depth, f_conditionalCount, f_argumentsUsed, f_argumentsLimit, f_heldCount, a_input, a_output, a_pending, a_catcodes, a_nameChars, a_nameLengths, a_meanings, a_savedItems, a_savedLevels, a_savedCatcodes, a_conditionals, a_arguments, a_argumentStarts, a_argumentEnds, a_held) p0 := by
  unfold wpX_meaningKind
  rcases gt_ix p0 hk with z | ⟨j, hj, rfl⟩
  · refine gt_isNot z (br_t rfl ?_)
    by_cases z0 : p0 < 0
    · exact br_t z0 ⟨rfl, hR⟩
    · exact br_f z0 (br_f (Int32.not_lt.mpr (z.resolve_left z0)) ⟨rfl, hR⟩)
  · have v : vp_in (nI j) 65 := vp_in_nI (by omega) (by decide)
    have ix : nI j * 36 + 0 = nI (j * 36) := gt_36 j 0
    refine gt_isIn hj hk (br_f ci_10 ⟨by rw [ix]; exact vp_in_nI (by omega) (by decide), br_f (nI_pos (by omega)) (br_t (nI_lt hj (by omega)) ⟨v, ?_, hR⟩)⟩)
    rw [ix, nI_clamp (by omega), nI_clamp (by omega)]
    exact (h j hj).symm
theorem gt_meaningValue (hk : k ≤ 32) (h : ∀ j, j < k → (a_kind j = 0 → a_meanings (j * 36 + 1) = 0) ∧ (¬ a_kind j = 0 → a_meanings (j * 36 + 1) = a_val j)) (hR : R) : wpX_meaningValue (fun r => wpY_meaningValue (fun r' => r' = r ∧ R) (f_limit, f_used, f_st, f_ran, f_inLen, f_inPos, f_pl, f_ol, nI k, f_sc, f_yd, f_cd, a_in, a_cat, a_pend, a_out, a_nLen, a_nCh, a_kind, a_val, a_plen, a_rlen, a_ptx, a_rtx, a_sItem, a_sLev, a_conds, a_arg, a_aSt, a_aLn, a_stk) p0) (f_expansionLimit, f_expansionCount, f_state, f_inputLength, f_inputPosition, f_outputCount, f_pendingCount, nI k, f_saveCount, f_depth, f_conditionalCount, f_argumentsUsed, f_argumentsLimit, f_heldCount, a_input, a_output, a_pending, a_catcodes, a_nameChars, a_nameLengths, a_meanings, a_savedItems, a_savedLevels, a_savedCatcodes, a_conditionals, a_arguments, a_argumentStarts, a_argumentEnds, a_held) p0 := by
  unfold wpX_meaningValue
  rcases gt_ix p0 hk with z | ⟨j, hj, rfl⟩
  · refine gt_isNot z (br_t rfl ?_)
    by_cases z0 : p0 < 0
    · exact br_t z0 ⟨rfl, hR⟩
    · exact br_f z0 (br_f (Int32.not_lt.mpr (z.resolve_left z0)) ⟨rfl, hR⟩)
  · have v : vp_in (nI j) 65 := vp_in_nI (by omega) (by decide)
    have ix : nI j * 36 + 1 = nI (j * 36 + 1) := gt_36 j 1
    have cl : (nI j).toNatClampNeg = j := nI_clamp (by omega)
    refine gt_isIn hj hk (br_f ci_10 ⟨by rw [ix]; exact vp_in_nI (by omega) (by decide), br_f (nI_pos (by omega)) (br_t (nI_lt hj (by omega)) ⟨v, br_c (fun q => ⟨?_, hR⟩) (fun q => ⟨v, ?_, hR⟩)⟩)⟩)
    · rw [cl] at q
      rw [ix, nI_clamp (by omega)]
      exact ((h j hj).1 q).symm
    · rw [cl] at q
      rw [ix, cl, nI_clamp (by omega)]
      exact ((h j hj).2 q).symm
/-- no macro among the names: the texts are nowhere -/
theorem gt_noText (hk : k ≤ 32) {post : Int32 → Prop} (h : ∀ j, j < k → a_meanings (j * 36) ≠ 2) (K : post (-1)) : wpX_textLength post (f_expansionLimit, f_expansionCount, f_state, f_inputLength, f_inputPosition, f_outputCount, f_pendingCount, nI k, f_saveCount, f_depth, f_conditionalCount, f_argumentsUsed, f_argumentsLimit, f_heldCount, a_input, a_output, a_pending, a_catcodes, a_nameChars, a_nameLengths, a_meanings, a_savedItems, a_savedLevels, a_savedCatcodes, a_conditionals, a_arguments, a_argumentStarts, a_argumentEnds, a_held) p0 p1 := by
  unfold wpX_textLength
  rcases gt_ix p0 hk with z | ⟨j, hj, rfl⟩
  · exact gt_isNot z (br_t rfl K)
  · have ix : nI j * 36 + 0 = nI (j * 36) := gt_36 j 0
    refine gt_isIn hj hk (br_f ci_10 (br_c (fun _ => K) (fun _ => br_c (fun _ => K) (fun _ => ⟨by rw [ix]; exact vp_in_nI (by omega) (by decide), br_f ?_ K⟩))))
    rw [ix, nI_clamp (by omega)]
    exact h j hj
theorem gt_noTextY (hk : k ≤ 32) {post : Int32 → Prop} (h : ∀ j, j < k → a_kind j ≠ 2) (K : post (-1)) : wpY_macroTextLength post (f_limit, f_used, f_st, f_ran, f_inLen, f_inPos, f_pl, f_ol, nI k, f_sc, f_yd, f_cd, a_in, a_cat, a_pend, a_out, a_nLen, a_nCh, a_kind, a_val, a_plen, a_rlen, a_ptx, a_rtx, a_sItem, a_sLev, a_conds, a_arg, a_aSt, a_aLn, a_stk) p0 p1 := by
  rcases gt_ix p0 hk with z | ⟨j, hj, rfl⟩
  · by_cases z0 : p0 < 0
    · exact br_t z0 K
    · exact br_f z0 (br_t (z.resolve_left z0) K)
  · refine br_f (nI_pos (by omega)) (br_f (nI_ge hj (by omega)) ⟨vp_in_nI (by omega) (by decide), br_f ?_ K⟩)
    rw [nI_clamp (by omega)]
    exact h j hj
end GT
