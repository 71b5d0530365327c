section XN
variable {f_expansionLimit f_expansionCount f_state f_inputLength f_inputPosition f_outputCount f_pendingCount f_namesUsed f_saveCount f_depth f_conditionalCount f_argumentsUsed f_argumentsLimit f_heldCount : Int32} {a_input a_output a_pending a_catcodes a_nameChars a_nameLengths a_meanings a_savedItems a_savedLevels a_savedCatcodes a_conditionals a_arguments a_argumentStarts a_argumentEnds a_held : Nat → Int32}
variable {post : Int32 → SX → Prop}
theorem xn_113 {k s : Nat} {w : List Nat} (hk : k < 32) (hw : w.length ≤ 8) (hs : s + w.length ≤ 256) (hin : ∀ j, j < w.length → a_input (s + j) = nI (w.getD j 0))
    (K : ∀ ch : Nat → Int32, (∀ j, j < w.length → ch (k * 11 + j) = nI (w.getD j 0)) → (∀ q, q < k * 11 → ch q = a_nameChars q) → post (nI (1024 + k)) (f_expansionLimit, f_expansionCount, f_state, f_inputLength, f_inputPosition, f_outputCount, f_pendingCount, nI (k + 1), f_saveCount, f_depth, f_conditionalCount, f_argumentsUsed, f_argumentsLimit, f_heldCount, a_input, a_output, a_pending, a_catcodes, ch, upd a_nameLengths k (nI w.length), a_meanings, a_savedItems, a_savedLevels, a_savedCatcodes, a_conditionals, a_arguments, a_argumentStarts, a_argumentEnds, a_held)) :
    ∀ (n i : Nat) (ch : Nat → Int32), w.length < n + i → i ≤ w.length → (∀ j, j < i → ch (k * 11 + j) = nI (w.getD j 0)) → (∀ q, q < k * 11 → ch q = a_nameChars q) → wX_nameToken_113 post (nI s) (nI w.length) f_expansionLimit f_expansionCount f_state f_inputLength f_inputPosition f_outputCount f_pendingCount (nI k) f_saveCount f_depth f_conditionalCount f_argumentsUsed f_argumentsLimit f_heldCount n (nI i) a_input a_output a_pending a_catcodes ch a_nameLengths a_meanings a_savedItems a_savedLevels a_savedCatcodes a_conditionals a_arguments a_argumentStarts a_argumentEnds a_held := by
  intro n
  induction n with
  | zero => intro i ch h1 h2; omega
  | succ n ih =>
    intro i ch h1 h2 h3 h4
    by_cases he : i = w.length
    · subst he
      refine br_t (nI_le (Nat.le_refl _) (by omega)) ⟨vp_in_nI hk (by decide), fun nl enl => nm_r (nI_1 _) ?_⟩
      rw [nI_clamp (by omega)] at enl
      subst enl
      have e : (1024 : Int32) + nI (k + 1) - 1 = nI (1024 + k) := by
        have : (1024 : Int32) + nI (k + 1) = nI (1024 + k + 1) := nI_add 1024 (k + 1)
        rw [this, nI_pred]
      rw [e]
      exact K ch h3 h4
    · have e1 : nI s + nI i = nI (s + i) := nI_add _ _
      have e2 : nI k * 11 + nI i = nI (k * 11 + i) := by rw [← nI_add, ← pk_mul]; rfl
      refine br_f (nI_ge (by omega) (by omega)) ?_
      rw [e1, e2, nI_clamp (by omega), nI_clamp (by omega)]
      refine ⟨vp_in_nI (by omega) (by decide), vp_in_nI (by omega) (by decide), fun ch' e => nm_r (nI_1 _) ?_⟩
      subst e
      refine ih (i + 1) _ (by omega) (by omega) (fun j hj => ?_) (fun q hq => ?_)
      · by_cases ej : j = i
        · rw [ej, pk_us]
          exact hin i (by omega)
        · rw [pk_un (by omega)]
          exact h3 j (by omega)
      · rw [pk_un (by omega)]
        exact h4 q hq
theorem xn_30 {J2 : Int32 → Prop} {i s : Nat} {w v : List Nat} (hi : i < 32) (hw : w.length ≤ 8) (hs : s + w.length ≤ 256) (hin : ∀ j, j < w.length → a_input (s + j) = nI (w.getD j 0)) (hv : ∀ j, j < v.length → a_nameChars (i * 11 + j) = nI (v.getD j 0)) (bw : ∀ j, w.getD j 0 < 128) (bv : ∀ j, v.getD j 0 < 128)
    (Ky : v = w → wX_nameToken_78 post J2 (nI s) (nI w.length) (nI i) 1 f_expansionLimit f_expansionCount f_state f_inputLength f_inputPosition f_outputCount f_pendingCount f_namesUsed f_saveCount f_depth f_conditionalCount f_argumentsUsed f_argumentsLimit f_heldCount a_input a_output a_pending a_catcodes a_nameChars a_nameLengths a_meanings a_savedItems a_savedLevels a_savedCatcodes a_conditionals a_arguments a_argumentStarts a_argumentEnds a_held) (Kn : v ≠ w → wX_nameToken_78 post J2 (nI s) (nI w.length) (nI i) 0 f_expansionLimit f_expansionCount f_state f_inputLength f_inputPosition f_outputCount f_pendingCount f_namesUsed f_saveCount f_depth f_conditionalCount f_argumentsUsed f_argumentsLimit f_heldCount a_input a_output a_pending a_catcodes a_nameChars a_nameLengths a_meanings a_savedItems a_savedLevels a_savedCatcodes a_conditionals a_arguments a_argumentStarts a_argumentEnds a_held) (hl : v.length = w.length) :
    ∀ (n j : Nat), w.length + 1 < n + j → j ≤ w.length → (∀ q, q < j → v.getD q 0 = w.getD q 0) → wX_nameToken_30 post J2 (nI s) (nI w.length) (nI i) f_expansionLimit f_expansionCount f_state f_inputLength f_inputPosition f_outputCount f_pendingCount f_namesUsed f_saveCount f_depth f_conditionalCount f_argumentsUsed f_argumentsLimit f_heldCount a_input a_output a_pending a_catcodes a_nameChars a_nameLengths a_meanings a_savedItems a_savedLevels a_savedCatcodes a_conditionals a_arguments a_argumentStarts a_argumentEnds a_held n 1 (nI j) := by
  intro n
  induction n with
  | zero => intro j h1 h2; omega
  | succ n ih =>
    intro j h1 h2 h3
    by_cases he : j = w.length
    · refine br_t (by rw [he]; exact nI_le (Nat.le_refl _) (by omega)) (Ky ?_)
      exact xr_ext hl (fun q hq => h3 q (by omega))
    · have e1 : nI s + nI j = nI (s + j) := nI_add _ _
      have e2 : nI i * 11 + nI j = nI (i * 11 + j) := by rw [← nI_add, ← pk_mul]; rfl
      have b1 := bw j
      have b2 := bv j
      refine br_f (nI_ge (by omega) (by omega)) (br_f ci_10 ?_)
      rw [e1, e2, nI_clamp (by omega), nI_clamp (by omega), hin j (by omega), hv j (by omega)]
      refine ⟨vp_in_nI (by omega) (by decide), vp_in_nI (by omega) (by decide), ?_⟩
      by_cases hq : v.getD j 0 = w.getD j 0
      · refine br_t (by rw [hq]) (nm_r (nI_1 _) (ih (j + 1) (by omega) (by omega) (fun q hq' => ?_)))
        by_cases eq : q = j
        · rw [eq]; exact hq
        · exact h3 q (by omega)
      · refine br_f (fun z => hq ((nI_eq (by omega) (by omega)).mp z)) (nm_r (nI_1 _) ?_)
        obtain ⟨n, rfl⟩ : ∃ m, n = m + 1 := ⟨n - 1, by omega⟩
        have hne : v ≠ w := fun z => hq (by rw [z])
        exact br_c (fun _ => Kn hne) (fun _ => br_t rfl (Kn hne))
theorem xn_idx {ns : List (List Nat)} {w : List Nat} {j : Nat} (hj : j < ns.length) (e : ns.getD j [] = w) (h : ∀ q, q < j → ns.getD q [] ≠ w) : ns.idxOf w = j := by
  induction ns generalizing j with
  | nil => exact absurd hj (Nat.not_lt_zero _)
  | cons a ns ih =>
    cases j with
    | zero =>
      have : a = w := e
      rw [this]
      exact List.idxOf_cons_self
    | succ j =>
      have h0 : a ≠ w := h 0 (Nat.succ_pos _)
      rw [List.idxOf_cons, show (a == w) = false from by simpa using h0, cond_false, ih (Nat.lt_of_succ_lt_succ hj) e (fun q hq => h (q + 1) (by omega))]
theorem xn_idxN {ns : List (List Nat)} {w : List Nat} (h : ∀ q, q < ns.length → ns.getD q [] ≠ w) : ns.idxOf w = ns.length := by
  apply List.idxOf_eq_length
  intro hm
  obtain ⟨q, hq, e⟩ := List.getElem_of_mem hm
  apply h q hq
  rw [List.getD_eq_getElem?_getD, List.getElem?_eq_getElem hq]
  exact e
theorem xn_bd {ns : List (List Nat)} (hn : ∀ w, w ∈ ns → 1 ≤ w.length ∧ w.length ≤ 11 ∧ ∀ c, c ∈ w → c < 128) {i : Nat} (hi : i < ns.length) : (ns.getD i []).length ≤ 11 ∧ ∀ c, c ∈ ns.getD i [] → c < 128 := by
  rw [List.getD_eq_getElem?_getD, List.getElem?_eq_getElem hi]
  exact (hn _ (List.getElem_mem hi)).2
theorem xn_gb {w : List Nat} (h : ∀ c, c ∈ w → c < 128) (j : Nat) : w.getD j 0 < 128 := by
  by_cases hj : j < w.length
  · rw [List.getD_eq_getElem?_getD, List.getElem?_eq_getElem hj]
    exact h _ (List.getElem_mem hj)
  · rw [List.getD_eq_getElem?_getD, List.getElem?_eq_none (by omega)]
    decide
theorem xn_2 {ns : List (List Nat)} {s : Nat} {w : List Nat} (hn : pi_ns ns) (hN : xr_N a_nameLengths a_nameChars ns) (hw : w.length ≤ 8) (hs : s + w.length ≤ 256) (hwc : ∀ c, c ∈ w → c < 128) (hin : ∀ j, j < w.length → a_input (s + j) = nI (w.getD j 0))
    (K1 : ∀ j, j < ns.length → ns.idxOf w = j → post (nI (1024 + j)) (f_expansionLimit, f_expansionCount, f_state, f_inputLength, f_inputPosition, f_outputCount, f_pendingCount, nI ns.length, f_saveCount, f_depth, f_conditionalCount, f_argumentsUsed, f_argumentsLimit, f_heldCount, a_input, a_output, a_pending, a_catcodes, a_nameChars, a_nameLengths, a_meanings, a_savedItems, a_savedLevels, a_savedCatcodes, a_conditionals, a_arguments, a_argumentStarts, a_argumentEnds, a_held))
    (K2 : 32 ≤ ns.length → ns.idxOf w = ns.length → post (-1) (f_expansionLimit, f_expansionCount, 5, f_inputLength, f_inputPosition, f_outputCount, f_pendingCount, nI ns.length, f_saveCount, f_depth, f_conditionalCount, f_argumentsUsed, f_argumentsLimit, f_heldCount, a_input, a_output, a_pending, a_catcodes, a_nameChars, a_nameLengths, a_meanings, a_savedItems, a_savedLevels, a_savedCatcodes, a_conditionals, a_arguments, a_argumentStarts, a_argumentEnds, a_held))
    (K3 : ns.length < 32 → ns.idxOf w = ns.length → ∀ nl ch : Nat → Int32, xr_N nl ch (ns ++ [w]) → post (nI (1024 + ns.length)) (f_expansionLimit, f_expansionCount, f_state, f_inputLength, f_inputPosition, f_outputCount, f_pendingCount, nI (ns.length + 1), f_saveCount, f_depth, f_conditionalCount, f_argumentsUsed, f_argumentsLimit, f_heldCount, a_input, a_output, a_pending, a_catcodes, ch, nl, a_meanings, a_savedItems, a_savedLevels, a_savedCatcodes, a_conditionals, a_arguments, a_argumentStarts, a_argumentEnds, a_held)) :
    ∀ (n i : Nat), ns.length < n + i → i ≤ ns.length → (∀ j, j < i → ns.getD j [] ≠ w) → wX_nameToken_2 post (nI s) (nI w.length) f_expansionLimit f_expansionCount f_state f_inputLength f_inputPosition f_outputCount f_pendingCount (nI ns.length) f_saveCount f_depth f_conditionalCount f_argumentsUsed f_argumentsLimit f_heldCount a_input a_output a_pending a_catcodes a_nameChars a_nameLengths a_meanings a_savedItems a_savedLevels a_savedCatcodes a_conditionals a_arguments a_argumentStarts a_argumentEnds a_held n (nI i) := by
  obtain ⟨n1, n2, n3, n4⟩ := hn
  intro n
  induction n with
  | zero => intro i h1 h2; omega
  | succ n ih =>
    intro i h1 h2 h3
    by_cases he : i = ns.length
    · subst he
      have hx := xn_idxN h3
      refine br_t (nI_le (Nat.le_refl _) (by omega)) ?_
      by_cases h32 : ns.length < 32
      · refine br_t (nI_lt (b := 32) h32 (by decide)) ⟨w.length + 1, ?_⟩
        refine xn_113 h32 hw hs hin (fun ch c1 c2 => K3 h32 hx _ _ ?_) (w.length + 1) 0 a_nameChars (by omega) (by omega) (fun j hj => absurd hj (Nat.not_lt_zero _)) (fun q hq => rfl)
        refine xr_N_push hN (fun v hv => (n4 v hv).2.1) pk_us c1 (fun i hi => pk_un (by omega)) c2
      · exact br_f (nI_nlt (b := 32) (by omega) (by omega)) (K2 (by omega) hx)
    · have hi : i < ns.length := by omega
      obtain ⟨b1, b2⟩ := xn_bd n4 hi
      obtain ⟨x1, x2⟩ := hN i hi
      refine br_f (nI_ge hi (by omega)) ⟨vp_in_nI (by omega) (by decide), ?_⟩
      rw [nI_clamp (by omega), x1]
      have Ky : ns.getD i [] = w → wX_nameToken_78 post (wX_nameToken_2 post (nI s) (nI w.length) f_expansionLimit f_expansionCount f_state f_inputLength f_inputPosition f_outputCount f_pendingCount (nI ns.length) f_saveCount f_depth f_conditionalCount f_argumentsUsed f_argumentsLimit f_heldCount a_input a_output a_pending a_catcodes a_nameChars a_nameLengths a_meanings a_savedItems a_savedLevels a_savedCatcodes a_conditionals a_arguments a_argumentStarts a_argumentEnds a_held n) (nI s) (nI w.length) (nI i) 1 f_expansionLimit f_expansionCount f_state f_inputLength f_inputPosition f_outputCount f_pendingCount (nI ns.length) f_saveCount f_depth f_conditionalCount f_argumentsUsed f_argumentsLimit f_heldCount a_input a_output a_pending a_catcodes a_nameChars a_nameLengths a_meanings a_savedItems a_savedLevels a_savedCatcodes a_conditionals a_arguments a_argumentStarts a_argumentEnds a_held := fun e => by
        refine br_f ci_10 ?_
        have e2 : (1024 : Int32) + nI i = nI (1024 + i) := nI_add 1024 i
        rw [e2]
        exact K1 i hi (xn_idx hi e h3)
      have Kn : ns.getD i [] ≠ w → wX_nameToken_78 post (wX_nameToken_2 post (nI s) (nI w.length) f_expansionLimit f_expansionCount f_state f_inputLength f_inputPosition f_outputCount f_pendingCount (nI ns.length) f_saveCount f_depth f_conditionalCount f_argumentsUsed f_argumentsLimit f_heldCount a_input a_output a_pending a_catcodes a_nameChars a_nameLengths a_meanings a_savedItems a_savedLevels a_savedCatcodes a_conditionals a_arguments a_argumentStarts a_argumentEnds a_held n) (nI s) (nI w.length) (nI i) 0 f_expansionLimit f_expansionCount f_state f_inputLength f_inputPosition f_outputCount f_pendingCount (nI ns.length) f_saveCount f_depth f_conditionalCount f_argumentsUsed f_argumentsLimit f_heldCount a_input a_output a_pending a_catcodes a_nameChars a_nameLengths a_meanings a_savedItems a_savedLevels a_savedCatcodes a_conditionals a_arguments a_argumentStarts a_argumentEnds a_held := fun e => by
        refine br_t rfl (nm_r (nI_1 _) (ih (i + 1) (by omega) (by omega) (fun j hj => ?_)))
        by_cases ej : j = i
        · rw [ej]; exact e
        · exact h3 j (by omega)
      by_cases hl : (ns.getD i []).length = w.length
      · refine br_t (by rw [hl]) ⟨w.length + 2, ?_⟩
        exact xn_30 (by omega) hw hs hin x2 (xn_gb hwc) (xn_gb b2) Ky Kn hl (w.length + 2) 0 (by omega) (by omega) (fun q hq => absurd hq (Nat.not_lt_zero _))
      · have hne : ns.getD i [] ≠ w := fun z => hl (by rw [z])
        refine br_f (fun z => hl ((nI_eq (by omega) (by omega)).mp z)) ⟨1, ?_⟩
        exact br_c (fun _ => Kn hne) (fun _ => br_t rfl (Kn hne))
end XN
