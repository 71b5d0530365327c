section XS
variable {f_expansionLimit f_expansionCount f_state f_inputLength f_inputPosition f_outputCount f_pendingCount f_namesUsed f_saveCount f_depth f_conditionalCount f_argumentsUsed f_argumentsLimit f_heldCount : Int32} {a_input a_output a_pending a_catcodes a_nameChars a_nameLengths a_meanings a_savedItems a_savedLevels a_savedCatcodes a_conditionals a_arguments a_argumentStarts a_argumentEnds a_held : Nat → Int32}
variable {post : SX → Prop}
theorem xs_copyL {f t : Nat} (hf : f < 66) (ht : t < 66) (hne : f ≠ t) (K : ∀ mm : Nat → Int32, xr_cp a_meanings mm f t → post (f_expansionLimit, f_expansionCount, f_state, f_inputLength, f_inputPosition, f_outputCount, f_pendingCount, f_namesUsed, f_saveCount, f_depth, f_conditionalCount, f_argumentsUsed, f_argumentsLimit, f_heldCount, a_input, a_output, a_pending, a_catcodes, a_nameChars, a_nameLengths, mm, a_savedItems, a_savedLevels, a_savedCatcodes, a_conditionals, a_arguments, a_argumentStarts, a_argumentEnds, a_held)) : ∀ (n i : Nat) (mm : Nat → Int32), 36 < n + i → i ≤ 36 → (∀ j, j < i → mm (t * 36 + j) = a_meanings (f * 36 + j)) → (∀ j, (j < t * 36 ∨ t * 36 + i ≤ j) → mm j = a_meanings j) →
    wX_copySlot_2 post (nI f) (nI t) f_expansionLimit f_expansionCount f_state f_inputLength f_inputPosition f_outputCount f_pendingCount f_namesUsed f_saveCount f_depth f_conditionalCount f_argumentsUsed f_argumentsLimit f_heldCount n (nI i) a_input a_output a_pending a_catcodes a_nameChars a_nameLengths mm a_savedItems a_savedLevels a_savedCatcodes a_conditionals a_arguments a_argumentStarts a_argumentEnds a_held := by
  intro n
  induction n with
  | zero => intro i mm h1 h2; omega
  | succ n ih =>
    intro i mm h1 h2 h3 h4
    by_cases he : i = 36
    · subst he
      exact br_t (nI_le (Nat.le_refl 36) (by decide)) (K mm ⟨h3, h4⟩)
    · have e1 : nI f * 36 + nI i = nI (f * 36 + i) := gt_36 f i
      have e2 : nI t * 36 + nI i = nI (t * 36 + i) := gt_36 t i
      refine br_f (nI_ge (b := 36) (by omega) (by decide)) ?_
      rw [e1, e2, nI_clamp (by omega), nI_clamp (by omega)]
      refine ⟨vp_in_nI (by omega) (by decide), vp_in_nI (by omega) (by decide), fun mm' e => nm_r (nI_1 _) ?_⟩
      subst e
      refine ih (i + 1) _ (by omega) (by omega) (fun j hj => ?_) (fun j hj => ?_)
      · by_cases ej : j = i
        · rw [ej, pk_us]
          exact h4 _ (by omega)
        · rw [pk_un (by omega)]
          exact h3 j (by omega)
      · rw [pk_un (by omega)]
        exact h4 j (by omega)
theorem xs_copy {f t : Nat} (hf : f < 66) (ht : t < 66) (hne : f ≠ t) (K : ∀ mm : Nat → Int32, xr_cp a_meanings mm f t → post (f_expansionLimit, f_expansionCount, f_state, f_inputLength, f_inputPosition, f_outputCount, f_pendingCount, f_namesUsed, f_saveCount, f_depth, f_conditionalCount, f_argumentsUsed, f_argumentsLimit, f_heldCount, a_input, a_output, a_pending, a_catcodes, a_nameChars, a_nameLengths, mm, a_savedItems, a_savedLevels, a_savedCatcodes, a_conditionals, a_arguments, a_argumentStarts, a_argumentEnds, a_held)) : wpX_copySlot post (f_expansionLimit, f_expansionCount, f_state, f_inputLength, f_inputPosition, f_outputCount, f_pendingCount, f_namesUsed, f_saveCount, f_depth, f_conditionalCount, f_argumentsUsed, f_argumentsLimit, f_heldCount, a_input, a_output, a_pending, a_catcodes, a_nameChars, a_nameLengths, a_meanings, a_savedItems, a_savedLevels, a_savedCatcodes, a_conditionals, a_arguments, a_argumentStarts, a_argumentEnds, a_held) (nI f) (nI t) :=
  ⟨37, xs_copyL hf ht hne K 37 0 a_meanings (by decide) (by decide) (fun j hj => absurd hj (Nat.not_lt_zero _)) (fun j _ => rfl)⟩
theorem xs_clearL {t : Nat} (ht : t < 66) (K : ∀ mm : Nat → Int32, (∀ j, j < 36 → mm (t * 36 + j) = 0) → (∀ j, (j < t * 36 ∨ t * 36 + 36 ≤ j) → mm j = a_meanings j) → post (f_expansionLimit, f_expansionCount, f_state, f_inputLength, f_inputPosition, f_outputCount, f_pendingCount, f_namesUsed, f_saveCount, f_depth, f_conditionalCount, f_argumentsUsed, f_argumentsLimit, f_heldCount, a_input, a_output, a_pending, a_catcodes, a_nameChars, a_nameLengths, mm, a_savedItems, a_savedLevels, a_savedCatcodes, a_conditionals, a_arguments, a_argumentStarts, a_argumentEnds, a_held)) : ∀ (n i : Nat) (mm : Nat → Int32), 36 < n + i → i ≤ 36 → (∀ j, j < i → mm (t * 36 + j) = 0) → (∀ j, (j < t * 36 ∨ t * 36 + i ≤ j) → mm j = a_meanings j) →
    wX_clearSlot_2 post (nI t) f_expansionLimit f_expansionCount f_state f_inputLength f_inputPosition f_outputCount f_pendingCount f_namesUsed f_saveCount f_depth f_conditionalCount f_argumentsUsed f_argumentsLimit f_heldCount n (nI i) a_input a_output a_pending a_catcodes a_nameChars a_nameLengths mm a_savedItems a_savedLevels a_savedCatcodes a_conditionals a_arguments a_argumentStarts a_argumentEnds a_held := by
  intro n
  induction n with
  | zero => intro i mm h1 h2; omega
  | succ n ih =>
    intro i mm h1 h2 h3 h4
    by_cases he : i = 36
    · subst he
      exact br_t (nI_le (Nat.le_refl 36) (by decide)) (K mm h3 h4)
    · have e2 : nI t * 36 + nI i = nI (t * 36 + i) := gt_36 t i
      refine br_f (nI_ge (b := 36) (by omega) (by decide)) ?_
      rw [e2, nI_clamp (by omega)]
      refine ⟨vp_in_nI (by omega) (by decide), fun mm' e => nm_r (nI_1 _) ?_⟩
      subst e
      refine ih (i + 1) _ (by omega) (by omega) (fun j hj => ?_) (fun j hj => ?_)
      · by_cases ej : j = i
        · rw [ej, pk_us]
        · rw [pk_un (by omega)]
          exact h3 j (by omega)
      · rw [pk_un (by omega)]
        exact h4 j (by omega)
theorem xs_clear {t : Nat} (ht : t < 66) (K : ∀ mm : Nat → Int32, (∀ j, j < 36 → mm (t * 36 + j) = 0) → (∀ j, (j < t * 36 ∨ t * 36 + 36 ≤ j) → mm j = a_meanings j) → post (f_expansionLimit, f_expansionCount, f_state, f_inputLength, f_inputPosition, f_outputCount, f_pendingCount, f_namesUsed, f_saveCount, f_depth, f_conditionalCount, f_argumentsUsed, f_argumentsLimit, f_heldCount, a_input, a_output, a_pending, a_catcodes, a_nameChars, a_nameLengths, mm, a_savedItems, a_savedLevels, a_savedCatcodes, a_conditionals, a_arguments, a_argumentStarts, a_argumentEnds, a_held)) : wpX_clearSlot post (f_expansionLimit, f_expansionCount, f_state, f_inputLength, f_inputPosition, f_outputCount, f_pendingCount, f_namesUsed, f_saveCount, f_depth, f_conditionalCount, f_argumentsUsed, f_argumentsLimit, f_heldCount, a_input, a_output, a_pending, a_catcodes, a_nameChars, a_nameLengths, a_meanings, a_savedItems, a_savedLevels, a_savedCatcodes, a_conditionals, a_arguments, a_argumentStarts, a_argumentEnds, a_held) (nI t) :=
  ⟨37, xs_clearL ht K 37 0 a_meanings (by decide) (by decide) (fun j hj => absurd hj (Nat.not_lt_zero _)) (fun j _ => rfl)⟩
theorem xs_e3 {t i : Nat} : xr_e (3, t, [], []) i = if i = 0 then 3 else if i = 1 then t else 0 := by
  unfold xr_e
  split
  · rfl
  · split
    · rfl
    · split
      · rfl
      · split
        · rfl
        · split <;> rfl
theorem xs_load {M : Nat → pm_Mn} {k t s : Nat} (h64 : 64 ≤ s) (hs : s < 66) (hk : k ≤ 32) (ht : pi_tok k t) (hM : ∀ i, i < 32 → xr_M a_meanings i (M i)) (K : ∀ mm : Nat → Int32, xr_M mm s (pm_mng M t) → (∀ j, (j < s * 36 ∨ s * 36 + 36 ≤ j) → mm j = a_meanings j) → post (f_expansionLimit, f_expansionCount, f_state, f_inputLength, f_inputPosition, f_outputCount, f_pendingCount, f_namesUsed, f_saveCount, f_depth, f_conditionalCount, f_argumentsUsed, f_argumentsLimit, f_heldCount, a_input, a_output, a_pending, a_catcodes, a_nameChars, a_nameLengths, mm, a_savedItems, a_savedLevels, a_savedCatcodes, a_conditionals, a_arguments, a_argumentStarts, a_argumentEnds, a_held)) : wpX_loadMeaning post (f_expansionLimit, f_expansionCount, f_state, f_inputLength, f_inputPosition, f_outputCount, f_pendingCount, f_namesUsed, f_saveCount, f_depth, f_conditionalCount, f_argumentsUsed, f_argumentsLimit, f_heldCount, a_input, a_output, a_pending, a_catcodes, a_nameChars, a_nameLengths, a_meanings, a_savedItems, a_savedLevels, a_savedCatcodes, a_conditionals, a_arguments, a_argumentStarts, a_argumentEnds, a_held) (nI t) (nI s) := by
  unfold wpX_loadMeaning
  have hb : t < 2048 := by rcases ht with h | h <;> omega
  by_cases hlt : t < 1024
  · refine br_t (nI_lt (b := 1024) hlt (by decide)) ?_
    refine xs_clear hs fun mm c1 c2 => ?_
    have e0 : nI s * 36 + 0 = nI (s * 36 + 0) := gt_36 s 0
    have e1 : nI s * 36 + 1 = nI (s * 36 + 1) := gt_36 s 1
    refine ⟨by rw [e0]; exact vp_in_nI (by omega) (by decide), fun m1 q1 => ⟨by rw [e1]; exact vp_in_nI (by omega) (by decide), fun m2 q2 => ?_⟩⟩
    rw [e0, nI_clamp (by omega)] at q1
    rw [e1, nI_clamp (by omega)] at q2
    subst q1 q2
    refine K _ (fun i hi => ?_) (fun j hj => ?_)
    · unfold pm_mng
      rw [if_pos hlt, xs_e3]
      by_cases i1 : i = 1
      · rw [i1, pk_us]; rfl
      · rw [pk_un (by omega)]
        by_cases i0 : i = 0
        · rw [i0, pk_us]; rfl
        · rw [pk_un (by omega), c1 i hi, if_neg i0, if_neg i1]; rfl
    · rw [pk_un (by omega), pk_un (by omega)]
      exact c2 j hj
  · obtain ⟨q1, q2, q3⟩ := pi_id ht hk hlt
    refine br_f (nI_nlt (b := 1024) (by omega) (by omega)) ?_
    have e : nI t - 1024 = nI (t - 1024) := pk_sub (b := 1024) (by omega)
    rw [e]
    refine xs_copy (by omega) hs (by omega) fun mm hc => K mm ?_ hc.2
    unfold pm_mng
    rw [if_neg hlt]
    exact xr_cp_to hc (hM _ q2)
theorem xs_eqL {pb : Int32 → Prop} {a b : Nat} {m m' : pm_Mn} (ha : a < 66) (hb : b < 66) (hm : xr_M a_meanings a m) (hm' : xr_M a_meanings b m') (bm : ∀ i, xr_e m i < 4096) (bm' : ∀ i, xr_e m' i < 4096) (K1 : (∀ i, i < 36 → xr_e m i = xr_e m' i) → pb 1) (K0 : m ≠ m' → pb 0) : ∀ (n i : Nat), 36 < n + i → i ≤ 36 → (∀ j, j < i → xr_e m j = xr_e m' j) → wX_slotsAreEqual_2 pb (nI a) (nI b) f_expansionLimit f_expansionCount f_state f_inputLength f_inputPosition f_outputCount f_pendingCount f_namesUsed f_saveCount f_depth f_conditionalCount f_argumentsUsed f_argumentsLimit f_heldCount a_input a_output a_pending a_catcodes a_nameChars a_nameLengths a_meanings a_savedItems a_savedLevels a_savedCatcodes a_conditionals a_arguments a_argumentStarts a_argumentEnds a_held n (nI i) := by
  intro n
  induction n with
  | zero => intro i h1 h2; omega
  | succ n ih =>
    intro i h1 h2 h3
    by_cases he : i = 36
    · subst he
      exact br_t (nI_le (Nat.le_refl 36) (by decide)) (K1 h3)
    · have e1 : nI a * 36 + nI i = nI (a * 36 + i) := gt_36 a i
      have e2 : nI b * 36 + nI i = nI (b * 36 + i) := gt_36 b i
      have b1 := bm i
      have b2 := bm' i
      refine br_f (nI_ge (b := 36) (by omega) (by decide)) ?_
      rw [e1, e2, nI_clamp (by omega), nI_clamp (by omega), hm i (by omega), hm' i (by omega)]
      refine ⟨vp_in_nI (by omega) (by decide), vp_in_nI (by omega) (by decide), ?_⟩
      by_cases hq : xr_e m i = xr_e m' i
      · refine br_t (by rw [hq]) (nm_r (nI_1 _) (ih (i + 1) (by omega) (by omega) (fun j hj => ?_)))
        by_cases ej : j = i
        · rw [ej]; exact hq
        · exact h3 j (by omega)
      · exact br_f (fun z => hq ((nI_eq (by omega) (by omega)).mp z)) (K0 (fun z => hq (by rw [z])))
theorem xs_eq {pb : Int32 → Prop} {a b : Nat} {m m' : pm_Mn} (ha : a < 66) (hb : b < 66) (hm : xr_M a_meanings a m) (hm' : xr_M a_meanings b m') (bm : ∀ i, xr_e m i < 4096) (bm' : ∀ i, xr_e m' i < 4096) (h8 : m.2.2.1.length ≤ 8) (h24 : m.2.2.2.length ≤ 24) (K1 : m = m' → pb 1) (K0 : m ≠ m' → pb 0) : wpX_slotsAreEqual pb (f_expansionLimit, f_expansionCount, f_state, f_inputLength, f_inputPosition, f_outputCount, f_pendingCount, f_namesUsed, f_saveCount, f_depth, f_conditionalCount, f_argumentsUsed, f_argumentsLimit, f_heldCount, a_input, a_output, a_pending, a_catcodes, a_nameChars, a_nameLengths, a_meanings, a_savedItems, a_savedLevels, a_savedCatcodes, a_conditionals, a_arguments, a_argumentStarts, a_argumentEnds, a_held) (nI a) (nI b) :=
  ⟨37, xs_eqL ha hb hm hm' bm bm' (fun z => K1 (xr_e_inj h8 h24 z)) K0 37 0 (by decide) (by decide) (fun j hj => absurd hj (Nat.not_lt_zero _))⟩
/-- the cells of a meaning are small -/
theorem xs_getD {l : List Nat} {b i : Nat} (h : ∀ t, t ∈ l → t < b) (hb : 0 < b) : l.getD i 0 < b := by
  by_cases hi : i < l.length
  · rw [List.getD_eq_getElem?_getD, List.getElem?_eq_getElem hi]
    exact h _ (List.getElem_mem hi)
  · rw [List.getD_eq_getElem?_getD, List.getElem?_eq_none (by omega)]
    exact hb
theorem xs_tok {k t : Nat} (hk : k ≤ 32) (h : pi_tok k t) : t < 2048 := by rcases h with h | h <;> omega
theorem xs_small {k : Nat} {m : pm_Mn} (hk : k ≤ 32) (h : pi_mn k m ∨ m = (1, 4, [], [])) : (∀ i, xr_e m i < 4096) ∧ m.2.2.1.length ≤ 8 ∧ m.2.2.2.length ≤ 24 := by
  have key : m.1 < 4096 → m.2.1 < 4096 → m.2.2.1.length ≤ 8 → m.2.2.2.length ≤ 24 → (∀ t, t ∈ m.2.2.1 → t < 4096) → (∀ t, t ∈ m.2.2.2 → t < 4096) → (∀ i, xr_e m i < 4096) ∧ m.2.2.1.length ≤ 8 ∧ m.2.2.2.length ≤ 24 := fun h1 h2 h3 h4 h5 h6 => by
    refine ⟨fun i => ?_, h3, h4⟩
    unfold xr_e
    split
    · exact h1
    · split
      · exact h2
      · split
        · omega
        · split
          · omega
          · split
            · exact xs_getD h5 (by decide)
            · exact xs_getD h6 (by decide)
  rcases h with (h | h | h | h) | h
  · subst h; exact key (by decide) (by decide) (by decide) (by decide) (fun t ht => (nomatch ht)) (fun t ht => (nomatch ht))
  · obtain ⟨a, b, c, d, e⟩ := h
    exact key (by omega) (by omega) (by rw [d]; decide) (by rw [e]; decide) (by rw [d]; exact fun t ht => (nomatch ht)) (by rw [e]; exact fun t ht => (nomatch ht))
  · obtain ⟨a, b, c, d, e, f⟩ := h
    have hv : m.2.1 ≤ 8 := by rw [← d]; exact Nat.le_trans List.countP_le_length b
    refine key (by omega) (by omega) b c (fun t ht => ?_) (fun t ht => ?_)
    · rcases e t ht with z | z
      · have := xs_tok hk z; omega
      · omega
    · rcases f t ht with z | z
      · have := xs_tok hk z; omega
      · omega
  · obtain ⟨a, b, c, d, e⟩ := h
    exact key (by omega) (by omega) (by rw [d]; decide) (by rw [e]; decide) (by rw [d]; exact fun t ht => (nomatch ht)) (by rw [e]; exact fun t ht => (nomatch ht))
  · subst h; exact key (by decide) (by decide) (by decide) (by decide) (fun t ht => (nomatch ht)) (fun t ht => (nomatch ht))
end XS
