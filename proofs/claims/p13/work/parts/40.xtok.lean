section XT
variable {f_expansionLimit f_expansionCount f_state f_inputLength f_inputPosition f_outputCount f_pendingCount f_namesUsed f_saveCount f_depth f_conditionalCount f_argumentsUsed f_argumentsLimit f_heldCount : Int32} {a_input a_output a_pending a_catcodes a_nameChars a_nameLengths a_meanings a_savedItems a_savedLevels a_savedCatcodes a_conditionals a_arguments a_argumentStarts a_argumentEnds a_held : Nat → Int32}
variable {post : Int32 → SX → Prop} {C : Nat → Nat} {L : List Nat}
theorem xt_at {a : Nat → Int32} {l r : List Nat} {c : Nat} (h : xr_L a (l ++ c :: r)) : a l.length = nI c := by
  rw [h l.length (by rw [List.length_append]; exact Nat.lt_add_of_pos_right (Nat.succ_pos _)), List.getD_eq_getElem?_getD, List.getElem?_append_right (Nat.le_refl _), Nat.sub_self]
  rfl
theorem xt_lt {l r : List Nat} {c : Nat} (h : L = l ++ c :: r) : l.length < L.length ∧ L = (l ++ [c]) ++ r ∧ (l ++ [c]).length = l.length + 1 := by
  refine ⟨?_, ?_, ?_⟩
  · rw [h, List.length_append]
    exact Nat.lt_add_of_pos_right (Nat.succ_pos _)
  · rw [h, List.append_assoc]; rfl
  · rw [List.length_append]; rfl
theorem xt_75 (hL : L.length ≤ 256) (hc : ∀ c, c ∈ L → c < 128) (hin : xr_L a_input L) (hcat : ∀ j, j < 128 → a_catcodes j = nI (C j)) (hC : ∀ a, a < 128 → C a < 8) {x1 x2 : Int32} : ∀ (cs pre : List Nat) (n : Nat), L = pre ++ cs → cs.length < n →
    (∀ pre' : List Nat, L = pre' ++ cs.dropWhile (fun c => C c == 4) → wX_scanName_104 post x1 x2 (nI pre'.length) f_expansionLimit f_expansionCount f_state (nI L.length) f_inputPosition f_outputCount f_pendingCount f_namesUsed f_saveCount f_depth f_conditionalCount f_argumentsUsed f_argumentsLimit f_heldCount a_input a_output a_pending a_catcodes a_nameChars a_nameLengths a_meanings a_savedItems a_savedLevels a_savedCatcodes a_conditionals a_arguments a_argumentStarts a_argumentEnds a_held) → wX_scanName_75 post x1 x2 f_expansionLimit f_expansionCount f_state (nI L.length) f_inputPosition f_outputCount f_pendingCount f_namesUsed f_saveCount f_depth f_conditionalCount f_argumentsUsed f_argumentsLimit f_heldCount a_input a_output a_pending a_catcodes a_nameChars a_nameLengths a_meanings a_savedItems a_savedLevels a_savedCatcodes a_conditionals a_arguments a_argumentStarts a_argumentEnds a_held n (nI pre.length) := by
  intro cs
  induction cs with
  | nil =>
    intro pre n hl hn K
    obtain ⟨n, rfl⟩ : ∃ m, n = m + 1 := ⟨n - 1, by omega⟩
    refine br_t ?_ (K pre hl)
    rw [hl, List.append_nil]
    exact nI_le (Nat.le_refl _) (by rw [hl, List.append_nil] at hL; omega)
  | cons c cs ih =>
    intro pre n hl hn K
    obtain ⟨n, rfl⟩ : ∃ m, n = m + 1 := ⟨n - 1, by omega⟩
    obtain ⟨l1, l2, l3⟩ := xt_lt hl
    have hcm : c < 128 := hc c (by rw [hl]; exact List.mem_append_right _ List.mem_cons_self)
    have ea : a_input (nI pre.length).toNatClampNeg = nI c := by rw [nI_clamp (by omega)]; rw [hl] at hin; exact xt_at hin
    have ec : a_catcodes (nI c).toNatClampNeg = nI (C c) := by rw [nI_clamp (by omega)]; exact hcat c hcm
    refine br_f (nI_ge l1 (by omega)) ⟨vp_in_nI (by omega) (by decide), ?_⟩
    rw [ea, ec]
    refine ⟨vp_in_nI hcm (by decide), ?_⟩
    have h8 := hC c hcm
    by_cases h4 : C c = 4
    · refine br_t (by rw [h4]; rfl) (nm_r (nI_1 _) ?_)
      rw [← l3]
      refine ih (pre ++ [c]) n l2 (by simpa using hn) (fun pre' hp => K pre' ?_)
      rw [List.dropWhile_cons_of_pos (by rw [h4]; rfl)]
      exact hp
    · refine br_f (fun z => h4 ((nI_eq (b := 4) (by omega) (by decide)).mp z)) (K pre ?_)
      rw [List.dropWhile_cons_of_neg (by simpa using h4)]
      exact hl
theorem xt_44 (hL : L.length ≤ 256) (hc : ∀ c, c ∈ L → c < 128) (hin : xr_L a_input L) (hcat : ∀ j, j < 128 → a_catcodes j = nI (C j)) (hC : ∀ a, a < 128 → C a < 8) {x1 : Int32} : ∀ (cs pre : List Nat) (n : Nat), L = pre ++ cs → cs.length < n →
    (∀ pre' : List Nat, L = pre' ++ cs.dropWhile (fun c => C c == 5) → pre'.length = pre.length + (cs.takeWhile (fun c => C c == 5)).length → ∃ n75 : Nat, wX_scanName_75 post x1 (nI pre'.length) f_expansionLimit f_expansionCount f_state (nI L.length) f_inputPosition f_outputCount f_pendingCount f_namesUsed f_saveCount f_depth f_conditionalCount f_argumentsUsed f_argumentsLimit f_heldCount a_input a_output a_pending a_catcodes a_nameChars a_nameLengths a_meanings a_savedItems a_savedLevels a_savedCatcodes a_conditionals a_arguments a_argumentStarts a_argumentEnds a_held n75 (nI pre'.length)) → wX_scanName_44 post x1 f_expansionLimit f_expansionCount f_state (nI L.length) f_inputPosition f_outputCount f_pendingCount f_namesUsed f_saveCount f_depth f_conditionalCount f_argumentsUsed f_argumentsLimit f_heldCount a_input a_output a_pending a_catcodes a_nameChars a_nameLengths a_meanings a_savedItems a_savedLevels a_savedCatcodes a_conditionals a_arguments a_argumentStarts a_argumentEnds a_held n (nI pre.length) := by
  intro cs
  induction cs with
  | nil =>
    intro pre n hl hn K
    obtain ⟨n, rfl⟩ : ∃ m, n = m + 1 := ⟨n - 1, by omega⟩
    refine br_t ?_ (K pre hl rfl)
    rw [hl, List.append_nil]
    exact nI_le (Nat.le_refl _) (by rw [hl, List.append_nil] at hL; omega)
  | cons c cs ih =>
    intro pre n hl hn K
    obtain ⟨n, rfl⟩ : ∃ m, n = m + 1 := ⟨n - 1, by omega⟩
    obtain ⟨l1, l2, l3⟩ := xt_lt hl
    have hcm : c < 128 := hc c (by rw [hl]; exact List.mem_append_right _ List.mem_cons_self)
    have ea : a_input (nI pre.length).toNatClampNeg = nI c := by rw [nI_clamp (by omega)]; rw [hl] at hin; exact xt_at hin
    have ec : a_catcodes (nI c).toNatClampNeg = nI (C c) := by rw [nI_clamp (by omega)]; exact hcat c hcm
    refine br_f (nI_ge l1 (by omega)) ⟨vp_in_nI (by omega) (by decide), ?_⟩
    rw [ea, ec]
    refine ⟨vp_in_nI hcm (by decide), ?_⟩
    have h8 := hC c hcm
    by_cases h5 : C c = 5
    · refine br_t (by rw [h5]; rfl) (nm_r (nI_1 _) ?_)
      rw [← l3]
      refine ih (pre ++ [c]) n l2 (by simpa using hn) (fun pre' hp hp2 => K pre' ?_ ?_)
      · rw [List.dropWhile_cons_of_pos (by rw [h5]; rfl)]
        exact hp
      · rw [List.takeWhile_cons_of_pos (by rw [h5]; rfl), hp2, l3, List.length_cons]
        omega
    · refine br_f (fun z => h5 ((nI_eq (b := 5) (by omega) (by decide)).mp z)) (K pre ?_ ?_)
      · rw [List.dropWhile_cons_of_neg (by simpa using h5)]
        exact hl
      · rw [List.takeWhile_cons_of_neg (by simpa using h5)]
        rfl
theorem xt_104 {p q : Nat} {x3 : Int32} (hq : p ≤ q) (hb : q < 2 ^ 31) (K1 : q - p ≤ 8 → post (nI (q - p)) (f_expansionLimit, f_expansionCount, f_state, f_inputLength, x3, f_outputCount, f_pendingCount, f_namesUsed, f_saveCount, f_depth, f_conditionalCount, f_argumentsUsed, f_argumentsLimit, f_heldCount, a_input, a_output, a_pending, a_catcodes, a_nameChars, a_nameLengths, a_meanings, a_savedItems, a_savedLevels, a_savedCatcodes, a_conditionals, a_arguments, a_argumentStarts, a_argumentEnds, a_held)) (K2 : 8 < q - p → post 0 (f_expansionLimit, f_expansionCount, 4, f_inputLength, x3, f_outputCount, f_pendingCount, f_namesUsed, f_saveCount, f_depth, f_conditionalCount, f_argumentsUsed, f_argumentsLimit, f_heldCount, a_input, a_output, a_pending, a_catcodes, a_nameChars, a_nameLengths, a_meanings, a_savedItems, a_savedLevels, a_savedCatcodes, a_conditionals, a_arguments, a_argumentStarts, a_argumentEnds, a_held)) : wX_scanName_104 post (nI p) (nI q) x3 f_expansionLimit f_expansionCount f_state f_inputLength f_inputPosition f_outputCount f_pendingCount f_namesUsed f_saveCount f_depth f_conditionalCount f_argumentsUsed f_argumentsLimit f_heldCount a_input a_output a_pending a_catcodes a_nameChars a_nameLengths a_meanings a_savedItems a_savedLevels a_savedCatcodes a_conditionals a_arguments a_argumentStarts a_argumentEnds a_held := by
  unfold wX_scanName_104
  rw [pk_sub hq]
  by_cases h : q - p ≤ 8
  · exact br_t (nI_le (b := 8) h (by decide)) (K1 h)
  · exact br_f (nI_ge (a := 8) (by omega) (by omega)) (K2 (by omega))
theorem xt_scan (hL : L.length ≤ 256) (hc : ∀ c, c ∈ L → c < 128) (hin : xr_L a_input L) (hcat : ∀ j, j < 128 → a_catcodes j = nI (C j)) (hC : ∀ a, a < 128 → C a < 8) {pre cs : List Nat} (hl : L = pre ++ cs)
    (K0 : cs = [] → post 0 (f_expansionLimit, f_expansionCount, 3, nI L.length, nI pre.length, f_outputCount, f_pendingCount, f_namesUsed, f_saveCount, f_depth, f_conditionalCount, f_argumentsUsed, f_argumentsLimit, f_heldCount, a_input, a_output, a_pending, a_catcodes, a_nameChars, a_nameLengths, a_meanings, a_savedItems, a_savedLevels, a_savedCatcodes, a_conditionals, a_arguments, a_argumentStarts, a_argumentEnds, a_held))
    (K1 : ∀ (m : Nat) (r pre' : List Nat), cs = m :: r → L = pre' ++ pm_rest C m r → (pm_word C m r).length ≤ 8 → post (nI (pm_word C m r).length) (f_expansionLimit, f_expansionCount, f_state, nI L.length, nI pre'.length, f_outputCount, f_pendingCount, f_namesUsed, f_saveCount, f_depth, f_conditionalCount, f_argumentsUsed, f_argumentsLimit, f_heldCount, a_input, a_output, a_pending, a_catcodes, a_nameChars, a_nameLengths, a_meanings, a_savedItems, a_savedLevels, a_savedCatcodes, a_conditionals, a_arguments, a_argumentStarts, a_argumentEnds, a_held))
    (K2 : ∀ (m : Nat) (r pre' : List Nat), cs = m :: r → L = pre' ++ pm_rest C m r → 8 < (pm_word C m r).length → post 0 (f_expansionLimit, f_expansionCount, 4, nI L.length, nI pre'.length, f_outputCount, f_pendingCount, f_namesUsed, f_saveCount, f_depth, f_conditionalCount, f_argumentsUsed, f_argumentsLimit, f_heldCount, a_input, a_output, a_pending, a_catcodes, a_nameChars, a_nameLengths, a_meanings, a_savedItems, a_savedLevels, a_savedCatcodes, a_conditionals, a_arguments, a_argumentStarts, a_argumentEnds, a_held)) : wpX_scanName post (f_expansionLimit, f_expansionCount, f_state, nI L.length, nI pre.length, f_outputCount, f_pendingCount, f_namesUsed, f_saveCount, f_depth, f_conditionalCount, f_argumentsUsed, f_argumentsLimit, f_heldCount, a_input, a_output, a_pending, a_catcodes, a_nameChars, a_nameLengths, a_meanings, a_savedItems, a_savedLevels, a_savedCatcodes, a_conditionals, a_arguments, a_argumentStarts, a_argumentEnds, a_held) := by
  cases cs with
  | nil =>
    have e : L.length = pre.length := by rw [hl, List.append_nil]
    refine br_f ?_ (K0 rfl)
    rw [e]
    exact nI_nlt (Nat.le_refl _) (by omega)
  | cons c cs =>
    obtain ⟨l1, l2, l3⟩ := xt_lt hl
    have hcm : c < 128 := hc c (by rw [hl]; exact List.mem_append_right _ List.mem_cons_self)
    have ea : a_input (nI pre.length).toNatClampNeg = nI c := by rw [nI_clamp (by omega)]; rw [hl] at hin; exact xt_at hin
    have ec : a_catcodes (nI c).toNatClampNeg = nI (C c) := by rw [nI_clamp (by omega)]; exact hcat c hcm
    have h8 := hC c hcm
    refine br_t (nI_lt l1 (by omega)) (nm_r (nI_1 _) ⟨vp_in_nI (by omega) (by decide), ?_⟩)
    rw [ea, ec]
    refine ⟨vp_in_nI hcm (by decide), ?_⟩
    by_cases h5 : C c = 5
    · have ew : (pm_word C c cs).length = (cs.takeWhile (fun c => C c == 5)).length + 1 := by unfold pm_word; rw [if_pos h5]; rfl
      have er : pm_rest C c cs = (cs.dropWhile (fun c => C c == 5)).dropWhile (fun c => C c == 4) := by unfold pm_rest; rw [if_pos h5]
      refine br_t (by rw [h5]; rfl) ⟨cs.length + 1, ?_⟩
      rw [← l3]
      refine xt_44 hL hc hin hcat hC cs (pre ++ [c]) _ l2 (by omega) fun pre' hp hp2 => ⟨(cs.dropWhile (fun c => C c == 5)).length + 1, ?_⟩
      have lp : pre'.length ≤ L.length := by rw [hp, List.length_append]; omega
      refine xt_75 hL hc hin hcat hC _ pre' _ hp (by omega) fun pre'' hp3 => ?_
      have ed : pre'.length - pre.length = (pm_word C c cs).length := by omega
      refine xt_104 (by omega) (by omega) (fun z => ?_) (fun z => ?_)
      · rw [ed]
        rw [ed] at z
        exact K1 c cs pre'' rfl (by rw [er]; exact hp3) z
      · rw [ed] at z
        exact K2 c cs pre'' rfl (by rw [er]; exact hp3) z
    · have ew : (pm_word C c cs).length = 1 := by unfold pm_word; rw [if_neg h5]; rfl
      have er : pm_rest C c cs = cs := by unfold pm_rest; rw [if_neg h5]
      refine br_f (fun z => h5 ((nI_eq (b := 5) (by omega) (by decide)).mp z)) ?_
      refine xt_104 (by omega) (by omega) (fun z => ?_) (fun z => by omega)
      have := K1 c cs (pre ++ [c]) rfl (by rw [er]; exact l2) (by omega)
      rw [ew, l3] at this
      rw [show pre.length + 1 - pre.length = 1 from by omega]
      exact this
end XT
