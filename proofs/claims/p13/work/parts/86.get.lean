section IG
variable {f_expansionLimit f_expansionCount f_state f_inputLength f_inputPosition f_outputCount f_pendingCount f_namesUsed f_saveCount f_depth f_conditionalCount f_argumentsUsed f_argumentsLimit f_heldCount : Int32} {a_input a_output a_pending a_catcodes a_nameChars a_nameLengths a_meanings a_savedItems a_savedLevels a_savedCatcodes a_conditionals a_arguments a_argumentStarts a_argumentEnds a_held : Nat → Int32}
variable {f_limit f_used f_st f_ran f_inLen f_inPos f_pl f_ol f_nc f_sc f_yd f_cd : Int32} {a_in a_cat a_pend a_out a_nLen a_nCh a_kind a_val a_plen a_rlen a_ptx a_rtx a_sItem a_sLev a_conds a_arg a_aSt a_aLn a_stk : Nat → Int32}
variable {p0 p1 p2 : Int32} {k : Nat} {M : Nat → pm_Mn}
theorem ig_otok {post : Int32 → Int32 → Prop} {n : Nat} (hn : n ≤ 256) (h : ∀ j, j < n → a_output j = a_out j) (K : ∀ r, post r r) : wpX_outputToken (fun r => wpY_outputToken (fun r' => post r r') (f_limit, f_used, f_st, f_ran, f_inLen, f_inPos, f_pl, nI n, f_nc, f_sc, f_yd, f_cd, a_in, a_cat, a_pend, a_out, a_nLen, a_nCh, a_kind, a_val, a_plen, a_rlen, a_ptx, a_rtx, a_sItem, a_sLev, a_conds, a_arg, a_aSt, a_aLn, a_stk) p0) (f_expansionLimit, f_expansionCount, f_state, f_inputLength, f_inputPosition, nI n, f_pendingCount, f_namesUsed, f_saveCount, f_depth, f_conditionalCount, f_argumentsUsed, f_argumentsLimit, f_heldCount, a_input, a_output, a_pending, a_catcodes, a_nameChars, a_nameLengths, a_meanings, a_savedItems, a_savedLevels, a_savedCatcodes, a_conditionals, a_arguments, a_argumentStarts, a_argumentEnds, a_held) p0 := by
  rcases pk_ix p0 (n := n) (by omega) with z | z | ⟨j, hj, rfl⟩
  · exact br_t z (br_t z (K _))
  · by_cases z0 : p0 < 0
    · exact br_t z0 (br_t z0 (K _))
    · exact br_f z0 (br_t z (br_f z0 (br_f (Int32.not_lt.mpr z) (K _))))
  · have v : vp_in (nI j) 256 := vp_in_nI (by omega) (by decide)
    have z0 : ¬ nI j < 0 := nI_pos (by omega)
    refine br_f z0 (br_f (nI_ge hj (by omega)) ⟨v, br_f z0 (br_t (nI_lt hj (by omega)) ⟨v, ?_⟩)⟩)
    rw [nI_clamp (by omega), h j hj]
    exact K _
theorem ig_cat {post : Int32 → Int32 → Prop} (h : ∀ j, j < 128 → a_catcodes j = a_cat j) (K : ∀ r, post r r) : wpX_catcode (fun r => wpY_catcode (fun r' => post r r') (f_limit, f_used, f_st, f_ran, f_inLen, f_inPos, f_pl, f_ol, f_nc, f_sc, f_yd, f_cd, a_in, a_cat, a_pend, a_out, a_nLen, a_nCh, a_kind, a_val, a_plen, a_rlen, a_ptx, a_rtx, a_sItem, a_sLev, a_conds, a_arg, a_aSt, a_aLn, a_stk) p0) (f_expansionLimit, f_expansionCount, f_state, f_inputLength, f_inputPosition, f_outputCount, f_pendingCount, f_namesUsed, f_saveCount, f_depth, f_conditionalCount, f_argumentsUsed, f_argumentsLimit, f_heldCount, a_input, a_output, a_pending, a_catcodes, a_nameChars, a_nameLengths, a_meanings, a_savedItems, a_savedLevels, a_savedCatcodes, a_conditionals, a_arguments, a_argumentStarts, a_argumentEnds, a_held) p0 := by
  rcases pk_ix p0 (n := 128) (by decide) with z | z | ⟨j, hj, rfl⟩
  · exact br_t z (br_t z (K _))
  · by_cases z0 : p0 < 0
    · exact br_t z0 (br_t z0 (K _))
    · refine br_f z0 (br_t z (br_f z0 (br_f ?_ (K _))))
      intro z2
      exact absurd (Int32.le_trans z z2) (by decide)
  · have v : vp_in (nI j) 128 := vp_in_nI hj (by decide)
    have z0 : ¬ nI j < 0 := nI_pos (by omega)
    refine br_f z0 (br_f (nI_ge (b := 128) hj (by decide)) ⟨v, br_f z0 (br_t (nI_le (b := 127) (by omega) (by decide)) ⟨v, ?_⟩)⟩)
    rw [nI_clamp (by omega), h j hj]
    exact K _
/-- calls that end, whatever they answer -/
theorem ig_xnl {post : Int32 → Prop} (hk : k ≤ 32) (K : ∀ r, post r) : wpX_nameLength post (f_expansionLimit, f_expansionCount, f_state, f_inputLength, f_inputPosition, f_outputCount, f_pendingCount, nI k, f_saveCount, f_depth, f_conditionalCount, f_argumentsUsed, f_argumentsLimit, f_heldCount, a_input, a_output, a_pending, a_catcodes, a_nameChars, a_nameLengths, a_meanings, a_savedItems, a_savedLevels, a_savedCatcodes, a_conditionals, a_arguments, a_argumentStarts, a_argumentEnds, a_held) p0 := by
  unfold wpX_nameLength
  rcases gt_ix p0 hk with z | ⟨j, hj, rfl⟩
  · exact gt_isNot z (br_t rfl (K _))
  · exact gt_isIn hj hk (br_f ci_10 ⟨vp_in_nI (by omega) (by decide), K _⟩)
theorem ig_ynl {post : Int32 → Prop} (hk : k ≤ 32) (K : ∀ r, post r) : wpY_nameLength post (f_limit, f_used, f_st, f_ran, f_inLen, f_inPos, f_pl, f_ol, nI k, f_sc, f_yd, f_cd, a_in, a_cat, a_pend, a_out, a_nLen, a_nCh, a_kind, a_val, a_plen, a_rlen, a_ptx, a_rtx, a_sItem, a_sLev, a_conds, a_arg, a_aSt, a_aLn, a_stk) p0 := by
  rcases gt_ix p0 hk with z | ⟨j, hj, rfl⟩
  · by_cases z0 : p0 < 0
    · exact br_t z0 (K _)
    · exact br_f z0 (br_f (Int32.not_lt.mpr (z.resolve_left z0)) (K _))
  · exact br_f (nI_pos (by omega)) (br_t (nI_lt hj (by omega)) ⟨vp_in_nI (by omega) (by decide), K _⟩)
theorem ig_w {ns : List (List Nat)} {j : Nat} (h11 : ∀ v, v ∈ ns → v.length ≤ 11) (hj : j < ns.length) : (ns.getD j []).length ≤ 11 := by
  rw [List.getD_eq_getElem?_getD, List.getElem?_eq_getElem hj]
  exact h11 _ (List.getElem_mem hj)
theorem ig_xnc {post : Int32 → Prop} {ns : List (List Nat)} (hk : ns.length ≤ 32) (h11 : ∀ v, v ∈ ns → v.length ≤ 11) (hX : xr_N a_nameLengths a_nameChars ns) (K : ∀ r, post r) : wpX_nameChar post (f_expansionLimit, f_expansionCount, f_state, f_inputLength, f_inputPosition, f_outputCount, f_pendingCount, nI ns.length, f_saveCount, f_depth, f_conditionalCount, f_argumentsUsed, f_argumentsLimit, f_heldCount, a_input, a_output, a_pending, a_catcodes, a_nameChars, a_nameLengths, a_meanings, a_savedItems, a_savedLevels, a_savedCatcodes, a_conditionals, a_arguments, a_argumentStarts, a_argumentEnds, a_held) p0 p1 := by
  unfold wpX_nameChar
  rcases gt_ix p0 hk with z | ⟨j, hj, rfl⟩
  · exact gt_isNot z (br_t rfl (K _))
  · have v : vp_in (nI j) 32 := vp_in_nI (by omega) (by decide)
    have cl : (nI j).toNatClampNeg = j := nI_clamp (by omega)
    have hw := ig_w h11 hj
    obtain ⟨x1, x2⟩ := hX j hj
    refine gt_isIn hj hk (br_f ci_10 ?_)
    rcases pk_ix p1 (n := (ns.getD j []).length) (by omega) with w | w | ⟨i, hi, rfl⟩
    · exact br_t w (K _)
    · by_cases w0 : p1 < 0
      · exact br_t w0 (K _)
      · refine br_f w0 ⟨v, br_f ?_ (K _)⟩
        rw [cl, x1]; exact Int32.not_lt.mpr w
    · have ix : nI j * 11 + nI i = nI (j * 11 + i) := by rw [← nI_add, ← pk_mul]; rfl
      exact br_f (nI_pos (by omega)) ⟨v, br_t (by rw [cl, x1]; exact nI_lt hi (by omega)) ⟨by rw [ix]; exact vp_in_nI (by omega) (by decide), K _⟩⟩
theorem ig_ync {post : Int32 → Prop} {ns : List (List Nat)} (hk : ns.length ≤ 32) (h11 : ∀ v, v ∈ ns → v.length ≤ 11) (hY : yr_N a_nLen a_nCh ns) (K : ∀ r, post r) : wpY_nameChar post (f_limit, f_used, f_st, f_ran, f_inLen, f_inPos, f_pl, f_ol, nI ns.length, f_sc, f_yd, f_cd, a_in, a_cat, a_pend, a_out, a_nLen, a_nCh, a_kind, a_val, a_plen, a_rlen, a_ptx, a_rtx, a_sItem, a_sLev, a_conds, a_arg, a_aSt, a_aLn, a_stk) p0 p1 := by
  rcases gt_ix p0 hk with z | ⟨j, hj, rfl⟩
  · by_cases z0 : p0 < 0
    · exact br_t z0 (K _)
    · exact br_f z0 (br_t (z.resolve_left z0) (K _))
  · have v : vp_in (nI j) 32 := vp_in_nI (by omega) (by decide)
    have cl : (nI j).toNatClampNeg = j := nI_clamp (by omega)
    have hw := ig_w h11 hj
    obtain ⟨y1, y2⟩ := hY j hj
    refine br_f (nI_pos (by omega)) (br_f (nI_ge hj (by omega)) ?_)
    rcases pk_ix p1 (n := (ns.getD j []).length) (by omega) with w | w | ⟨i, hi, rfl⟩
    · exact br_t w (K _)
    · by_cases w0 : p1 < 0
      · exact br_t w0 (K _)
      · refine br_f w0 ⟨v, br_f ?_ (K _)⟩
        rw [cl, y1]; exact Int32.not_lt.mpr w
    · have iy : nI j * 12 + nI i = nI (j * 12 + i) := by rw [← nI_add, ← pk_mul]; rfl
      exact br_f (nI_pos (by omega)) ⟨v, br_t (by rw [cl, y1]; exact nI_lt hi (by omega)) ⟨by rw [iy]; exact vp_in_nI (by omega) (by decide), K _⟩⟩
theorem ig_xmk {post : Int32 → Prop} (hk : k ≤ 32) (K : ∀ r, post r) : wpX_meaningKind post (f_expansionLimit, f_expansionCount, f_state, f_inputLength, f_inputPosition, f_outputCount, f_pendingCount, nI k, f_saveCount, f_depth, f_conditionalCount, f_argumentsUsed, f_argumentsLimit, f_heldCount, a_input, a_output, a_pending, a_catcodes, a_nameChars, a_nameLengths, a_meanings, a_savedItems, a_savedLevels, a_savedCatcodes, a_conditionals, a_arguments, a_argumentStarts, a_argumentEnds, a_held) p0 := by
  unfold wpX_meaningKind
  rcases gt_ix p0 hk with z | ⟨j, hj, rfl⟩
  · exact gt_isNot z (br_t rfl (K _))
  · have ix : nI j * 36 + 0 = nI (j * 36) := gt_36 j 0
    exact gt_isIn hj hk (br_f ci_10 ⟨by rw [ix]; exact vp_in_nI (by omega) (by decide), K _⟩)
theorem ig_ymk {post : Int32 → Prop} (hk : k ≤ 32) (K : ∀ r, post r) : wpY_meaningKind post (f_limit, f_used, f_st, f_ran, f_inLen, f_inPos, f_pl, f_ol, nI k, f_sc, f_yd, f_cd, a_in, a_cat, a_pend, a_out, a_nLen, a_nCh, a_kind, a_val, a_plen, a_rlen, a_ptx, a_rtx, a_sItem, a_sLev, a_conds, a_arg, a_aSt, a_aLn, a_stk) p0 := by
  rcases gt_ix p0 hk with z | ⟨j, hj, rfl⟩
  · by_cases z0 : p0 < 0
    · exact br_t z0 (K _)
    · exact br_f z0 (br_f (Int32.not_lt.mpr (z.resolve_left z0)) (K _))
  · exact br_f (nI_pos (by omega)) (br_t (nI_lt hj (by omega)) ⟨vp_in_nI (by omega) (by decide), K _⟩)
theorem ig_xmv {post : Int32 → Prop} (hk : k ≤ 32) (K : ∀ r, post r) : wpX_meaningValue post (f_expansionLimit, f_expansionCount, f_state, f_inputLength, f_inputPosition, f_outputCount, f_pendingCount, nI k, f_saveCount, f_depth, f_conditionalCount, f_argumentsUsed, f_argumentsLimit, f_heldCount, a_input, a_output, a_pending, a_catcodes, a_nameChars, a_nameLengths, a_meanings, a_savedItems, a_savedLevels, a_savedCatcodes, a_conditionals, a_arguments, a_argumentStarts, a_argumentEnds, a_held) p0 := by
  unfold wpX_meaningValue
  rcases gt_ix p0 hk with z | ⟨j, hj, rfl⟩
  · exact gt_isNot z (br_t rfl (K _))
  · have ix : nI j * 36 + 1 = nI (j * 36 + 1) := gt_36 j 1
    exact gt_isIn hj hk (br_f ci_10 ⟨by rw [ix]; exact vp_in_nI (by omega) (by decide), K _⟩)
theorem ig_ymv {post : Int32 → Prop} (hk : k ≤ 32) (K : ∀ r, post r) : wpY_meaningValue post (f_limit, f_used, f_st, f_ran, f_inLen, f_inPos, f_pl, f_ol, nI k, f_sc, f_yd, f_cd, a_in, a_cat, a_pend, a_out, a_nLen, a_nCh, a_kind, a_val, a_plen, a_rlen, a_ptx, a_rtx, a_sItem, a_sLev, a_conds, a_arg, a_aSt, a_aLn, a_stk) p0 := by
  rcases gt_ix p0 hk with z | ⟨j, hj, rfl⟩
  · by_cases z0 : p0 < 0
    · exact br_t z0 (K _)
    · exact br_f z0 (br_f (Int32.not_lt.mpr (z.resolve_left z0)) (K _))
  · have v : vp_in (nI j) 65 := vp_in_nI (by omega) (by decide)
    exact br_f (nI_pos (by omega)) (br_t (nI_lt hj (by omega)) ⟨v, br_c (fun _ => K _) (fun _ => ⟨v, K _⟩)⟩)
/-- the texts of a macro: what both sides answer -/
def mt_t (M : Nat → pm_Mn) (p0 p1 : Int32) : Option (List Nat) := if 0 ≤ p0 ∧ p0 < 32 ∧ (M p0.toNatClampNeg).1 = 2 then (if p1 = 0 then some (M p0.toNatClampNeg).2.2.1 else if p1 = 1 then some (M p0.toNatClampNeg).2.2.2 else none) else none
def mt_l : Option (List Nat) → Int32
  | none => -1
  | some l => nI l.length
theorem mt_in {j : Nat} (hj : j < 32) : mt_t M (nI j) p1 = if (M j).1 = 2 then (if p1 = 0 then some (M j).2.2.1 else if p1 = 1 then some (M j).2.2.2 else none) else none := by
  unfold mt_t
  rw [nI_clamp (by omega)]
  by_cases h : (M j).1 = 2
  · rw [if_pos h, if_pos ⟨nI_pos' (by omega), nI_lt (b := 32) hj (by decide), h⟩]
  · rw [if_neg h, if_neg (fun z => h z.2.2)]
theorem mt_out (h0 : ∀ i, k ≤ i → M i = pm_m0) (hk : k ≤ 32) (z : p0 < 0 ∨ nI k ≤ p0) : mt_t M p0 p1 = none := by
  unfold mt_t
  refine if_neg (fun ⟨q1, q2, q3⟩ => ?_)
  have z0 : ¬ p0 < 0 := Int32.not_lt.mpr q1
  obtain ⟨j, hj, rfl⟩ := nI_of z0
  have hkj : k ≤ j := (nI_leI (by omega) hj).mp (z.resolve_left z0)
  rw [nI_clamp hj, h0 j hkj] at q3
  exact absurd q3 (by decide)
theorem mt_12 : ∀ x : Int32, ¬ x < 0 → ¬ 1 < x → ¬ x = 0 → x = 1 := fun x h1 h2 h3 => by
  obtain ⟨j, hj, rfl⟩ := nI_of h1
  have a : j ≤ 1 := by
    rcases Nat.lt_or_ge 1 j with z | z
    · exact absurd (nI_lt (a := 1) z hj) h2
    · exact z
  have b : j ≠ 0 := fun z => h3 (by rw [z]; rfl)
  rw [show j = 1 from by omega]
  rfl
theorem ig_xtl {post : Int32 → Prop} {mm : Nat → Int32} (hk : k ≤ 32) (hM : ∀ i, i < 32 → xr_M mm i (M i)) (hs : ∀ i, (M i).1 < 4096) (h0 : ∀ i, k ≤ i → M i = pm_m0) (K : post (mt_l (mt_t M p0 p1))) : wpX_textLength post (f_expansionLimit, f_expansionCount, f_state, f_inputLength, f_inputPosition, f_outputCount, f_pendingCount, nI k, f_saveCount, f_depth, f_conditionalCount, f_argumentsUsed, f_argumentsLimit, f_heldCount, a_input, a_output, a_pending, a_catcodes, a_nameChars, a_nameLengths, mm, a_savedItems, a_savedLevels, a_savedCatcodes, a_conditionals, a_arguments, a_argumentStarts, a_argumentEnds, a_held) p0 p1 := by
  unfold wpX_textLength
  rcases gt_ix p0 hk with z | ⟨j, hj, rfl⟩
  · rw [mt_out h0 hk z] at K
    exact gt_isNot z (br_t rfl K)
  · rw [mt_in (by omega)] at K
    have ix : nI j * 36 + 0 = nI (j * 36) := gt_36 j 0
    have ix2 : nI j * 36 + 2 = nI (j * 36 + 2) := gt_36 j 2
    have ix3 : nI j * 36 + 3 = nI (j * 36 + 3) := gt_36 j 3
    have kd : mm (nI j * 36 + 0).toNatClampNeg = nI (M j).1 := by rw [ix, nI_clamp (by omega)]; exact hM j (by omega) 0 (by decide)
    have kl : mm (nI j * 36 + 2).toNatClampNeg = nI (M j).2.2.1.length := by rw [ix2, nI_clamp (by omega)]; exact hM j (by omega) 2 (by decide)
    have kr : mm (nI j * 36 + 3).toNatClampNeg = nI (M j).2.2.2.length := by rw [ix3, nI_clamp (by omega)]; exact hM j (by omega) 3 (by decide)
    have hs' := hs j
    refine gt_isIn hj hk (br_f ci_10 ?_)
    by_cases w0 : p1 < 0
    · have e0 : ¬ p1 = 0 := fun z => by rw [z] at w0; exact absurd w0 (by decide)
      have e1 : ¬ p1 = 1 := fun z => by rw [z] at w0; exact absurd w0 (by decide)
      rw [if_neg e0, if_neg e1, ite_self] at K
      exact br_t w0 K
    · refine br_f w0 ?_
      by_cases w1 : 1 < p1
      · have e0 : ¬ p1 = 0 := fun z => by rw [z] at w1; exact absurd w1 (by decide)
        have e1 : ¬ p1 = 1 := fun z => by rw [z] at w1; exact absurd w1 (by decide)
        rw [if_neg e0, if_neg e1, ite_self] at K
        exact br_t w1 K
      · refine br_f w1 ⟨by rw [ix]; exact vp_in_nI (by omega) (by decide), ?_⟩
        rw [kd]
        by_cases h2 : (M j).1 = 2
        · rw [if_pos h2] at K
          refine br_t (by rw [h2]; rfl) ?_
          by_cases e0 : p1 = 0
          · rw [if_pos e0] at K
            refine br_t e0 ⟨by rw [ix2]; exact vp_in_nI (by omega) (by decide), ?_⟩
            rw [kl]
            exact K
          · rw [if_neg e0, if_pos (mt_12 p1 w0 w1 e0)] at K
            refine br_f e0 ⟨by rw [ix3]; exact vp_in_nI (by omega) (by decide), ?_⟩
            rw [kr]
            exact K
        · rw [if_neg h2] at K
          exact br_f (fun z => h2 ((nI_eq (b := 2) (by omega) (by decide)).mp z)) K
theorem ig_ytl {post : Int32 → Prop} {w : yr_W} (hk : k ≤ 32) (hM : ∀ i, i < 32 → yr_M w i (M i)) (hs : ∀ i, (M i).1 < 4096) (h0 : ∀ i, k ≤ i → M i = pm_m0) (K : post (mt_l (mt_t M p0 p1))) : wpY_macroTextLength post (f_limit, f_used, f_st, f_ran, f_inLen, f_inPos, f_pl, f_ol, nI k, f_sc, f_yd, f_cd, a_in, a_cat, a_pend, a_out, a_nLen, a_nCh, w.1, w.2.1, w.2.2.1, w.2.2.2.1, w.2.2.2.2.1, w.2.2.2.2.2, a_sItem, a_sLev, a_conds, a_arg, a_aSt, a_aLn, a_stk) p0 p1 := by
  rcases gt_ix p0 hk with z | ⟨j, hj, rfl⟩
  · rw [mt_out h0 hk z] at K
    by_cases z0 : p0 < 0
    · exact br_t z0 K
    · exact br_f z0 (br_t (z.resolve_left z0) K)
  · rw [mt_in (by omega)] at K
    have v65 : vp_in (nI j) 65 := vp_in_nI (by omega) (by decide)
    obtain ⟨m1, m2, m3⟩ := hM j (by omega)
    have hs' := hs j
    refine br_f (nI_pos (by omega)) (br_f (nI_ge hj (by omega)) ⟨v65, ?_⟩)
    rw [nI_clamp (by omega), m1]
    by_cases h2 : (M j).1 = 2
    · rw [if_pos h2] at K
      obtain ⟨g1, g2, g3, g4⟩ := m3 h2
      refine br_t (by rw [h2]; rfl) ?_
      by_cases w0 : p1 < 0
      · have e0 : ¬ p1 = 0 := fun z => by rw [z] at w0; exact absurd w0 (by decide)
        have e1 : ¬ p1 = 1 := fun z => by rw [z] at w0; exact absurd w0 (by decide)
        rw [if_neg e0, if_neg e1] at K
        exact br_t w0 K
      · refine br_f w0 ?_
        by_cases w1 : 1 < p1
        · have e0 : ¬ p1 = 0 := fun z => by rw [z] at w1; exact absurd w1 (by decide)
          have e1 : ¬ p1 = 1 := fun z => by rw [z] at w1; exact absurd w1 (by decide)
          rw [if_neg e0, if_neg e1] at K
          exact br_f (Int32.not_le.mpr w1) K
        · refine br_t (Int32.not_lt.mp w1) ?_
          by_cases e0 : p1 = 0
          · rw [if_pos e0] at K
            refine br_t e0 ⟨v65, ?_⟩
            rw [g1]
            exact K
          · rw [if_neg e0, if_pos (mt_12 p1 w0 w1 e0)] at K
            refine br_f e0 ⟨v65, ?_⟩
            rw [g2]
            exact K
    · rw [if_neg h2] at K
      exact br_f (fun z => h2 ((nI_eq (b := 2) (by omega) (by decide)).mp z)) K
/-- the token of a text -/
def mt_k (o : Option (List Nat)) (p2 : Int32) : Int32 := match o with
  | none => -1
  | some l => if p2 < 0 ∨ nI l.length ≤ p2 then -1 else nI (l.getD p2.toNatClampNeg 0)
theorem mt_some {l : List Nat} (h : mt_t M p0 p1 = some l) : ∃ j, j < 32 ∧ p0 = nI j ∧ (M j).1 = 2 ∧ ((p1 = 0 ∧ l = (M j).2.2.1) ∨ (¬ p1 = 0 ∧ p1 = 1 ∧ l = (M j).2.2.2)) := by
  unfold mt_t at h
  split at h
  · next q =>
    obtain ⟨q1, q2, q3⟩ := q
    obtain ⟨j, hj, rfl⟩ := nI_of (Int32.not_lt.mpr q1)
    have hj2 : j < 32 := (nI_ltI (b := 32) hj (by decide)).mp q2
    rw [nI_clamp hj] at h q3
    refine ⟨j, hj2, rfl, q3, ?_⟩
    split at h
    · next e0 => cases h; exact Or.inl ⟨e0, rfl⟩
    · next e0 =>
      split at h
      · next e1 => cases h; exact Or.inr ⟨e0, e1, rfl⟩
      · cases h
  · cases h
theorem mt_k_in {l : List Nat} {i : Nat} (hi : i < l.length) (hl : l.length ≤ 24) : mt_k (some l) (nI i) = nI (l.getD i 0) := by
  unfold mt_k
  show (if nI i < 0 ∨ nI l.length ≤ nI i then (-1 : Int32) else nI (l.getD (nI i).toNatClampNeg 0)) = _
  rw [if_neg, nI_clamp (by omega)]
  intro z
  rcases z with z | z
  · exact nI_pos (by omega) z
  · exact nI_ge hi (by omega) z
theorem mt_k_out {l : List Nat} (h : p2 < 0 ∨ nI l.length ≤ p2) : mt_k (some l) p2 = -1 := by
  unfold mt_k
  exact if_pos h
theorem ig_xtk {post : Int32 → Prop} {mm : Nat → Int32} (hk : k ≤ 32) (hM : ∀ i, i < 32 → xr_M mm i (M i)) (hs : ∀ i, (M i).1 < 4096) (hl : ∀ i, (M i).2.2.1.length ≤ 8 ∧ (M i).2.2.2.length ≤ 24) (h0 : ∀ i, k ≤ i → M i = pm_m0) (K : post (mt_k (mt_t M p0 p1) p2)) : wpX_macroTextToken post (f_expansionLimit, f_expansionCount, f_state, f_inputLength, f_inputPosition, f_outputCount, f_pendingCount, nI k, f_saveCount, f_depth, f_conditionalCount, f_argumentsUsed, f_argumentsLimit, f_heldCount, a_input, a_output, a_pending, a_catcodes, a_nameChars, a_nameLengths, mm, a_savedItems, a_savedLevels, a_savedCatcodes, a_conditionals, a_arguments, a_argumentStarts, a_argumentEnds, a_held) p0 p1 p2 := by
  unfold wpX_macroTextToken
  refine ig_xtl hk hM hs h0 ?_
  cases e : mt_t M p0 p1 with
  | none =>
    rw [e] at K
    by_cases z0 : p2 < 0
    · exact br_t z0 K
    · refine br_f z0 (br_f ?_ K)
      intro z1
      exact z0 (Int32.lt_trans z1 (by decide))
  | some l =>
    rw [e] at K
    obtain ⟨j, hj, rfl, h2, hp⟩ := mt_some e
    have hl' := hl j
    have hll : l.length ≤ 24 := by rcases hp with ⟨_, rfl⟩ | ⟨_, _, rfl⟩ <;> omega
    show _ ∧ _
    rcases pk_ix p2 (n := l.length) (by omega) with z | z | ⟨i, hi, rfl⟩
    · rw [mt_k_out (Or.inl z)] at K
      exact br_t z K
    · rw [mt_k_out (Or.inr z)] at K
      by_cases z0 : p2 < 0
      · exact br_t z0 K
      · exact br_f z0 (br_f (Int32.not_lt.mpr z) K)
    · rw [mt_k_in hi hll] at K
      refine br_f (nI_pos (by omega)) (br_t (nI_lt hi (by omega)) ?_)
      rcases hp with ⟨e0, rfl⟩ | ⟨e0, e1, rfl⟩
      · have ix : nI j * 36 + 4 + nI i = nI (j * 36 + (4 + i)) := by
          rw [show nI j * 36 + 4 = nI (j * 36 + 4) from gt_36 j 4, nI_add, Nat.add_assoc]
        refine br_t e0 ⟨by rw [ix]; exact vp_in_nI (by omega) (by decide), ?_⟩
        rw [ix, nI_clamp (by omega), hM j hj (4 + i) (by omega)]
        unfold xr_e
        rw [if_neg (by omega), if_neg (by omega), if_neg (by omega), if_neg (by omega), if_pos (by omega), show 4 + i - 4 = i from by omega]
        exact K
      · have ix : nI j * 36 + 12 + nI i = nI (j * 36 + (12 + i)) := by
          rw [show nI j * 36 + 12 = nI (j * 36 + 12) from gt_36 j 12, nI_add, Nat.add_assoc]
        refine br_f e0 ⟨by rw [ix]; exact vp_in_nI (by omega) (by decide), ?_⟩
        rw [ix, nI_clamp (by omega), hM j hj (12 + i) (by omega)]
        unfold xr_e
        rw [if_neg (by omega), if_neg (by omega), if_neg (by omega), if_neg (by omega), if_neg (by omega), show 12 + i - 12 = i from by omega]
        exact K
theorem ig_ytk {post : Int32 → Prop} {w : yr_W} (hk : k ≤ 32) (hM : ∀ i, i < 32 → yr_M w i (M i)) (hs : ∀ i, (M i).1 < 4096) (hl : ∀ i, (M i).2.2.1.length ≤ 8 ∧ (M i).2.2.2.length ≤ 24) (h0 : ∀ i, k ≤ i → M i = pm_m0) (K : post (mt_k (mt_t M p0 p1) p2)) : wpY_macroTextToken post (f_limit, f_used, f_st, f_ran, f_inLen, f_inPos, f_pl, f_ol, nI k, f_sc, f_yd, f_cd, a_in, a_cat, a_pend, a_out, a_nLen, a_nCh, w.1, w.2.1, w.2.2.1, w.2.2.2.1, w.2.2.2.2.1, w.2.2.2.2.2, a_sItem, a_sLev, a_conds, a_arg, a_aSt, a_aLn, a_stk) p0 p1 p2 := by
  unfold wpY_macroTextToken
  refine ig_ytl hk hM hs h0 ?_
  cases e : mt_t M p0 p1 with
  | none =>
    rw [e] at K
    exact br_t (by decide) K
  | some l =>
    rw [e] at K
    obtain ⟨j, hj, rfl, h2, hp⟩ := mt_some e
    have hl' := hl j
    have hll : l.length ≤ 24 := by rcases hp with ⟨_, rfl⟩ | ⟨_, _, rfl⟩ <;> omega
    obtain ⟨m1, m2, m3⟩ := hM j hj
    obtain ⟨g1, g2, g3, g4⟩ := m3 h2
    refine br_f (nI_pos (n := l.length) (by omega)) ?_
    rcases pk_ix p2 (n := l.length) (by omega) with z | z | ⟨i, hi, rfl⟩
    · rw [mt_k_out (Or.inl z)] at K
      exact br_t z K
    · rw [mt_k_out (Or.inr z)] at K
      by_cases z0 : p2 < 0
      · exact br_t z0 K
      · exact br_f z0 (br_f (Int32.not_lt.mpr z) K)
    · rw [mt_k_in hi hll] at K
      refine br_f (nI_pos (by omega)) (br_t (nI_lt hi (by omega)) ?_)
      rcases hp with ⟨e0, rfl⟩ | ⟨e0, e1, rfl⟩
      · have ix : nI j * 8 + nI i = nI (j * 8 + i) := by rw [← nI_add, ← pk_mul]; rfl
        refine br_t e0 ⟨by rw [ix]; exact vp_in_nI (by omega) (by decide), ?_⟩
        rw [ix, nI_clamp (by omega), g3 i hi]
        exact K
      · have ix : nI j * 24 + nI i = nI (j * 24 + i) := by rw [← nI_add, ← pk_mul]; rfl
        refine br_f e0 ⟨by rw [ix]; exact vp_in_nI (by omega) (by decide), ?_⟩
        rw [ix, nI_clamp (by omega), g4 i hi]
        exact K
end IG
