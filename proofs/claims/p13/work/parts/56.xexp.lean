section XV
variable {L : List Nat} {lim : Nat} {mm ar ast ae : Nat → Int32} {au al hc : Int32} {u : SX} {post : SX → Prop} {f1 f2 f3 f4 f5 f6 f7 f8 f9 f10 f11 f12 f13 f14 : Int32} {a1 a2 a3 a4 a5 a6 a7 a8 a9 a10 a11 a12 a13 a14 a15 : Nat → Int32}
theorem xv_at {pre rest : List Nat} {a : Nat} : (pre ++ a :: rest).getD pre.length 0 = a := by
  rw [List.getD_eq_getElem?_getD, List.getElem?_append_right (Nat.le_refl _), Nat.sub_self]
  rfl
theorem xv_deL {pb : Int32 → Prop} {pt : List Nat} {b : Nat} (hb : b ≤ 1200) (h8 : pt.length ≤ 8) (hpt : ∀ t, t ∈ pt → t < 4096) (hD : ∀ j, j < pt.length → a7 (b + j) = nI (pt.getD j 0)) : ∀ (rest pre : List Nat) (N : Nat), pt = pre ++ rest → rest.length < N → pb (nI (b + pre.length + (rest.takeWhile (fun r => decide (r < 2048))).length)) → wX_delimiterEnd_2 pb (nI (b + pt.length)) f1 f2 f3 f4 f5 f6 f7 f8 f9 f10 f11 f12 f13 f14 a1 a2 a3 a4 a5 a6 a7 a8 a9 a10 a11 a12 a13 a14 a15 N (nI (b + pre.length)) := by
  intro rest
  induction rest with
  | nil =>
    intro pre N hpt' hN K
    obtain ⟨N, rfl⟩ : ∃ m, N = m + 1 := ⟨N - 1, by omega⟩
    have el : pt.length = pre.length := by rw [hpt', List.append_nil]
    refine br_t (by rw [el]; exact nI_le (Nat.le_refl _) (by omega)) ?_
    rw [el]
    exact K
  | cons a rest ih =>
    intro pre N hpt' hN K
    obtain ⟨N, rfl⟩ : ∃ m, N = m + 1 := ⟨N - 1, by omega⟩
    have hN' : rest.length + 1 < N + 1 := hN
    have el : pt.length = pre.length + (rest.length + 1) := by rw [hpt', List.length_append]; rfl
    have ha : a < 4096 := hpt a (by rw [hpt']; exact List.mem_append_right _ List.mem_cons_self)
    refine br_f (nI_ge (by omega) (by omega)) ⟨vp_in_nI (by omega) (by decide), ?_⟩
    rw [nI_clamp (by omega), hD pre.length (by omega), hpt', xv_at]
    by_cases hlt : a < 2048
    · refine br_t (nI_lt (b := 2048) hlt (by decide)) (nm_r (nI_1 _) ?_)
      have e2 : b + pre.length + 1 = b + (pre ++ [a]).length := by rw [List.length_append]; rfl
      rw [e2, ← hpt']
      refine ih (pre ++ [a]) N (by rw [hpt', List.append_assoc]; rfl) (by omega) ?_
      rw [List.takeWhile_cons_of_pos (by simpa using hlt)] at K
      have : b + (pre ++ [a]).length + (rest.takeWhile (fun r => decide (r < 2048))).length = b + pre.length + (a :: rest.takeWhile (fun r => decide (r < 2048))).length := by
        rw [List.length_append, List.length_cons]
        simp only [List.length_cons, List.length_nil]
        omega
      rw [this]
      exact K
    · refine br_f (nI_nlt (b := 2048) (by omega) (by omega)) ?_
      rw [List.takeWhile_cons_of_neg (by simpa using hlt)] at K
      exact K
theorem xv_de {pb : Int32 → Prop} {pt pre rest : List Nat} {b : Nat} (hb : b ≤ 1200) (h8 : pt.length ≤ 8) (hpt : ∀ t, t ∈ pt → t < 4096) (hD : ∀ j, j < pt.length → a7 (b + j) = nI (pt.getD j 0)) (hs : pt = pre ++ rest) (K : pb (nI (b + pre.length + (rest.takeWhile (fun r => decide (r < 2048))).length))) : wpX_delimiterEnd pb (f1, f2, f3, f4, f5, f6, f7, f8, f9, f10, f11, f12, f13, f14, a1, a2, a3, a4, a5, a6, a7, a8, a9, a10, a11, a12, a13, a14, a15) (nI (b + pre.length)) (nI (b + pt.length)) :=
  ⟨rest.length + 1, xv_deL hb h8 hpt hD rest pre _ hs (Nat.lt_succ_self _) K⟩
theorem xv_preL {C : Nat → Nat} {q : (Nat → pm_Mn) × List pm_Sv × Nat × List Nat × List Nat × Nat} {fx : List Nat} {b : Nat} (hL : xr_I L) (hC : ∀ a, a < 128 → C a < 8) (hb : b ≤ 1200) (h8 : fx.length ≤ 8) (hfx : ∀ t, t ∈ fx → t < 4096) (hD : ∀ j, j < fx.length → mm (b + j) = nI (fx.getD j 0)) : ∀ (as pre : List Nat) (T : pm_T) (N : Nat) (f1 f2 f3 f4 f5 f6 f7 f8 f9 f10 f11 f12 f13 f14 : Int32) (a1 a2 a3 a4 a5 a6 a7 a8 a9 a10 a11 a12 a13 a14 a15 : Nat → Int32), fx = pre ++ as → as.length < N → xr_R L lim (T, C, q) mm ar ast ae au al hc (f1, f2, f3, f4, f5, f6, f7, f8, f9, f10, f11, f12, f13, f14, a1, a2, a3, a4, a5, a6, a7, a8, a9, a10, a11, a12, a13, a14, a15) → pi_I lim (T, C, q) → T.1 = 0 → (∀ r T' u', pm_pre C as T = (r, T') → xr_R L lim (T', C, q) mm ar ast ae au al hc u' → post u') → wX_takePrefix_2 post (nI (b + fx.length)) N (nI (b + pre.length)) f1 f2 f3 f4 f5 f6 f7 f8 f9 f10 f11 f12 f13 f14 a1 a2 a3 a4 a5 a6 a7 a8 a9 a10 a11 a12 a13 a14 a15 := by
  intro as
  induction as with
  | nil =>
    intro pre T N f1 f2 f3 f4 f5 f6 f7 f8 f9 f10 f11 f12 f13 f14 a1 a2 a3 a4 a5 a6 a7 a8 a9 a10 a11 a12 a13 a14 a15 hf hN hR hI h0 K
    obtain ⟨N, rfl⟩ : ∃ m, N = m + 1 := ⟨N - 1, by omega⟩
    have el : fx.length = pre.length := by rw [hf, List.append_nil]
    exact br_t (by rw [el]; exact nI_le (Nat.le_refl _) (by omega)) (K true T _ rfl hR)
  | cons a as ih =>
    intro pre T N f1 f2 f3 f4 f5 f6 f7 f8 f9 f10 f11 f12 f13 f14 a1 a2 a3 a4 a5 a6 a7 a8 a9 a10 a11 a12 a13 a14 a15 hf hN hR hI h0 K
    obtain ⟨N, rfl⟩ : ∃ m, N = m + 1 := ⟨N - 1, by omega⟩
    have hN' : as.length + 1 < N + 1 := hN
    have el : fx.length = pre.length + (as.length + 1) := by rw [hf, List.length_append]; rfl
    have ha : a < 4096 := hfx a (by rw [hf]; exact List.mem_append_right _ List.mem_cons_self)
    refine br_f (nI_ge (by omega) (by omega)) ?_
    refine xt_take (e := 3) hL hR hI h0 (by decide) (fun t T1 u1 e1 hR1 => ?_) (fun T1 u1 e1 hR1 => ?_)
    · have e1' : pm_take 3 C T = (some t, T1) := e1
      obtain ⟨p1, p2, p3, p4⟩ := pi_tk hI.1 hC h0 e1'
      have hb2 := xs_tok p1.1.1.2.1 p3
      have hI1 := pi_toI hI p1
      obtain ⟨f1, f2, f3, f4, f5, f6, f7, f8, f9, f10, f11, f12, f13, f14, a1, a2, a3, a4, a5, a6, a7, a8, a9, a10, a11, a12, a13, a14, a15⟩ := u1
      obtain ⟨z1, z2, z3⟩ := xh_st hR1
      subst z2
      refine br_f (xh_n1 (by omega)) ⟨vp_in_nI (by omega) (by decide), ?_⟩
      have hv : a7 (nI (b + pre.length)).toNatClampNeg = nI a := by
        rw [nI_clamp (by omega), hD pre.length (by omega), hf, xv_at]
      rw [hv]
      by_cases hta : t = a
      · subst hta
        refine br_t rfl (nm_r (nI_1 _) ?_)
        have e2 : b + pre.length + 1 = b + (pre ++ [t]).length := by rw [List.length_append]; rfl
        rw [e2]
        refine ih (pre ++ [t]) T1 N _ _ _ _ _ _ _ _ _ _ _ _ _ _ _ _ _ _ _ _ _ _ _ _ _ _ _ _ _ (by rw [hf, List.append_assoc]; rfl) (by omega) hR1 hI1 p2 (fun r T' u' z => K r T' u' ?_)
        simp only [pm_pre, e1', if_pos]
        exact z
      · refine br_f (fun z => hta ((nI_eq (by omega) (by omega)).mp z)) (K false (pm_err 8 T1) _ ?_ (xh_err (k := 8) (by decide) hR1))
        simp only [pm_pre, e1', if_neg hta]
    · have e1' : pm_take 3 C T = (none, T1) := e1
      obtain ⟨f1, f2, f3, f4, f5, f6, f7, f8, f9, f10, f11, f12, f13, f14, a1, a2, a3, a4, a5, a6, a7, a8, a9, a10, a11, a12, a13, a14, a15⟩ := u1
      refine br_t rfl (K false T1 _ ?_ hR1)
      simp only [pm_pre, e1']
/-- how the argument cells stand between two arguments -/
def xe_G (ar ast ae : Nat → Int32) (U A tot : Nat) (acc : List (List Nat)) : Prop := xe_As ar ast ae U acc ∧ U + 256 = A + tot ∧ tot ≤ 256 ∧ A ≤ 256 + 2 * acc.length
theorem xv_ext {ar ast ae ar' ast' ae' : Nat → Int32} {U A n A' tot : Nat} {acc : List (List Nat)} {a : List Nat} (h : xe_G ar ast ae U A tot acc) (hf : ∀ j, j < U → ar' j = ar j) (ho : xe_O (acc.length + 1) U A ast ae ar' ast' ae' n A' a) (hl : a.length ≤ 256 - tot) : xe_G ar' ast' ae' n A' (tot + a.length) (acc ++ [a]) := by
  obtain ⟨h1, h2, h3, h4⟩ := h
  obtain ⟨s, o1, o2, o3, o4, o5, o6, o7, o8⟩ := ho
  refine ⟨fun i hi => ?_, by omega, by omega, by rw [List.length_append]; simp only [List.length_cons, List.length_nil]; omega⟩
  rw [List.length_append] at hi
  simp only [List.length_cons, List.length_nil] at hi
  by_cases e : i = acc.length
  · subst e
    rw [xr_getD_append_here]
    exact ⟨s, o1, o2, o4, o3⟩
  · rw [xr_getD_append_left (by omega)]
    obtain ⟨s', w1, w2, w3, w4⟩ := h1 i (by omega)
    have o9 := o8 (i + 1) (by omega)
    refine ⟨s', o9.1.trans w1, o9.2.trans w2, by omega, fun j hj => (hf _ (by omega)).trans (w4 j hj)⟩
theorem xv_cnt {a : Nat} {l : List Nat} (h : 0 < l.countP (fun r => decide (2048 ≤ r))) : ∃ mk tl, l.dropWhile (fun r => decide (r < 2048)) = mk :: tl ∧ 2048 ≤ mk := by
  induction l with
  | nil => exact absurd h (by decide)
  | cons x l ih =>
    by_cases hx : x < 2048
    · rw [List.dropWhile_cons_of_pos (by simpa using hx)]
      apply ih
      rw [List.countP_cons_of_neg (by simpa using hx)] at h
      exact h
    · rw [List.dropWhile_cons_of_neg (by simpa using hx)]
      exact ⟨x, l, rfl, by omega⟩
theorem xv_cnt2 (l : List Nat) : (l.dropWhile (fun r => decide (r < 2048))).countP (fun r => decide (2048 ≤ r)) = l.countP (fun r => decide (2048 ≤ r)) := by
  induction l with
  | nil => rfl
  | cons x l ih =>
    by_cases hx : x < 2048
    · rw [List.dropWhile_cons_of_pos (by simpa using hx), ih, List.countP_cons_of_neg (by simpa using hx)]
    · rw [List.dropWhile_cons_of_neg (by simpa using hx)]
theorem xv_argsL {C : Nat → Nat} {q : (Nat → pm_Mn) × List pm_Sv × Nat × List Nat × List Nat × Nat} {pt : List Nat} {base cnt : Nat} (hL : xr_I L) (hC : ∀ a, a < 128 → C a < 8) (hb : base ≤ 1116) (h8 : pt.length ≤ 8) (hpt : ∀ t, t ∈ pt → t < 4096) (hD : ∀ j, j < pt.length → mm (base + 4 + j) = nI (pt.getD j 0)) (hc8 : cnt ≤ 8) :
    ∀ (n : Nat) (pre rest : List Nat) (acc : List (List Nat)) (T : pm_T) (ar ast ae : Nat → Int32) (U A tot N : Nat) (f1 f2 f3 f4 f5 f6 f7 f8 f9 f10 f11 f12 f13 f14 : Int32) (a1 a2 a3 a4 a5 a6 a7 a8 a9 a10 a11 a12 a13 a14 a15 : Nat → Int32), n + acc.length = cnt → pt = pre ++ rest → rest.countP (fun r => decide (2048 ≤ r)) = n → (0 < n → ∃ mk tl, rest = mk :: tl ∧ 2048 ≤ mk) → n + 1 < N → xr_R L lim (T, C, q) mm ar ast ae (nI U) (nI A) hc (f1, f2, f3, f4, f5, f6, f7, f8, f9, f10, f11, f12, f13, f14, a1, a2, a3, a4, a5, a6, a7, a8, a9, a10, a11, a12, a13, a14, a15) → pi_I lim (T, C, q) → T.1 = 0 → xe_G ar ast ae U A tot acc →
    (∀ T' ar' ast' ae' au' al' u', pm_args true C n rest tot acc T = (none, T') → xr_R L lim (T', C, q) mm ar' ast' ae' au' al' hc u' → post u') →
    (∀ as T' ar' ast' ae' U' au' al' u', pm_args true C n rest tot acc T = (some as, T') → U' ≤ 274 → xe_As ar' ast' ae' U' as → xr_R L lim (T', C, q) mm ar' ast' ae' au' al' hc u' → (match u' with | (f_expansionLimit, f_expansionCount, f_state, f_inputLength, f_inputPosition, f_outputCount, f_pendingCount, f_namesUsed, f_saveCount, f_depth, f_conditionalCount, f_argumentsUsed, f_argumentsLimit, f_heldCount, a_input, a_output, a_pending, a_catcodes, a_nameChars, a_nameLengths, a_meanings, a_savedItems, a_savedLevels, a_savedCatcodes, a_conditionals, a_arguments, a_argumentStarts, a_argumentEnds, a_held) => wpX_putReplacementInFront (fun u => match u with | (f_expansionLimit, f_expansionCount, f_state, f_inputLength, f_inputPosition, f_outputCount, f_pendingCount, f_namesUsed, f_saveCount, f_depth, f_conditionalCount, f_argumentsUsed, f_argumentsLimit, f_heldCount, a_input, a_output, a_pending, a_catcodes, a_nameChars, a_nameLengths, a_meanings, a_savedItems, a_savedLevels, a_savedCatcodes, a_conditionals, a_arguments, a_argumentStarts, a_argumentEnds, a_held) => post (f_expansionLimit, f_expansionCount, f_state, f_inputLength, f_inputPosition, f_outputCount, f_pendingCount, f_namesUsed, f_saveCount, f_depth, f_conditionalCount, f_argumentsUsed, f_argumentsLimit, f_heldCount, a_input, a_output, a_pending, a_catcodes, a_nameChars, a_nameLengths, a_meanings, a_savedItems, a_savedLevels, a_savedCatcodes, a_conditionals, a_arguments, a_argumentStarts, a_argumentEnds, a_held)) (f_expansionLimit, f_expansionCount, f_state, f_inputLength, f_inputPosition, f_outputCount, f_pendingCount, f_namesUsed, f_saveCount, f_depth, f_conditionalCount, f_argumentsUsed, f_argumentsLimit, f_heldCount, a_input, a_output, a_pending, a_catcodes, a_nameChars, a_nameLengths, a_meanings, a_savedItems, a_savedLevels, a_savedCatcodes, a_conditionals, a_arguments, a_argumentStarts, a_argumentEnds, a_held) (nI base))) →
    wX_expandMacro_91 post (nI base) (nI cnt) (nI (base + 4 + pt.length)) N (nI (base + 4 + pre.length)) (nI (acc.length + 1)) f1 f2 f3 f4 f5 f6 f7 f8 f9 f10 f11 f12 f13 f14 a1 a2 a3 a4 a5 a6 a7 a8 a9 a10 a11 a12 a13 a14 a15 := by
  intro n
  induction n with
  | zero =>
    intro pre rest acc T ar ast ae U A tot N f1 f2 f3 f4 f5 f6 f7 f8 f9 f10 f11 f12 f13 f14 a1 a2 a3 a4 a5 a6 a7 a8 a9 a10 a11 a12 a13 a14 a15 hn hs hcn hmk hN hR hI h0 hG K0 K1
    obtain ⟨N, rfl⟩ : ∃ m, N = m + 1 := ⟨N - 1, by omega⟩
    obtain ⟨z1, z2⟩ := xh_st hR
    have hst : f3 = 0 := z1.trans (congrArg nI h0)
    have hUb : U ≤ 274 := by obtain ⟨g1, g2, g3, g4⟩ := hG; omega
    exact br_t (nI_lt (by omega) (by omega)) (br_t hst (K1 acc T ar ast ae U (nI U) (nI A) (f1, f2, f3, f4, f5, f6, f7, f8, f9, f10, f11, f12, f13, f14, a1, a2, a3, a4, a5, a6, a7, a8, a9, a10, a11, a12, a13, a14, a15) rfl hUb hG.1 hR))
  | succ n ih =>
    intro pre rest acc T ar ast ae U A tot N f1 f2 f3 f4 f5 f6 f7 f8 f9 f10 f11 f12 f13 f14 a1 a2 a3 a4 a5 a6 a7 a8 a9 a10 a11 a12 a13 a14 a15 hn hs hcn hmk hN hR hI h0 hG K0 K1
    obtain ⟨N, rfl⟩ : ∃ m, N = m + 1 := ⟨N - 1, by omega⟩
    obtain ⟨mk, tl, hrest, hmk2⟩ := hmk (Nat.succ_pos _)
    subst hrest
    obtain ⟨z1, z2, z3, z4, z5, z6, z7, z8⟩ := xh_st hR
    subst z2 z3 z4 z6 z7 z8
    have hst : f3 = 0 := z1.trans (congrArg nI h0)
    have hl : pt.length = pre.length + (tl.length + 1) := by rw [hs, List.length_append]; rfl
    have hs2 : pt = (pre ++ [mk]) ++ tl := by rw [hs, List.append_assoc]; rfl
    have hpl : (pre ++ [mk]).length = pre.length + 1 := by rw [List.length_append]; rfl
    have hdl8 : (tl.takeWhile (fun r => decide (r < 2048))).length ≤ tl.length := (List.takeWhile_sublist _).length_le
    have hG' := hG
    obtain ⟨hg1, hg2, hg3, hg4⟩ := hG
    have hroom : A - U = 256 - tot := by omega
    have hcn2 : tl.countP (fun r => decide (2048 ≤ r)) = n := by
      rw [List.countP_cons_of_pos (by simpa using hmk2)] at hcn
      omega
    have e1 : nI (base + 4 + pre.length) + 1 = nI (base + 4 + (pre ++ [mk]).length) := by rw [nI_1, hpl]; rfl
    refine br_f (nI_nlt (by omega) (by omega)) (br_f (nI_nlt (a := 9) (by omega) (by omega)) (br_t hst (nm_r e1 ?_)))
    refine xv_de (b := base + 4) (by omega) h8 hpt hD hs2 ?_
    have v : vp_in (nI (acc.length + 1)) 10 := vp_in_nI (by omega) (by decide)
    have cl : (nI (acc.length + 1)).toNatClampNeg = acc.length + 1 := nI_clamp (by omega)
    refine ⟨v, fun ast' q1 => ?_⟩
    rw [cl] at q1
    have hR' := xe_sc hR a12 ast' a14 (nI U) (nI A)
    -- the continuation behind an argument
    have next : ∀ a T' ar' ast2 ae' n' A' u', pm_arg true C (256 - tot) (tl.takeWhile (fun r => decide (r < 2048))) T = (some a, T') → (∀ j, j < U → ar' j = a12 j) → xe_O (acc.length + 1) U A a13 a14 ar' ast2 ae' n' A' a → xr_R L lim (T', C, q) a7 ar' ast2 ae' (nI n') (nI A') hc u' → (match u' with | (f_expansionLimit, f_expansionCount, f_state, f_inputLength, f_inputPosition, f_outputCount, f_pendingCount, f_namesUsed, f_saveCount, f_depth, f_conditionalCount, f_argumentsUsed, f_argumentsLimit, f_heldCount, a_input, a_output, a_pending, a_catcodes, a_nameChars, a_nameLengths, a_meanings, a_savedItems, a_savedLevels, a_savedCatcodes, a_conditionals, a_arguments, a_argumentStarts, a_argumentEnds, a_held) => wX_expandMacro_91 post (nI base) (nI cnt) (nI (base + 4 + pt.length)) N (nI (base + 4 + (pre ++ [mk]).length + (tl.takeWhile (fun r => decide (r < 2048))).length)) (nI (acc.length + 1 + 1)) f_expansionLimit f_expansionCount f_state f_inputLength f_inputPosition f_outputCount f_pendingCount f_namesUsed f_saveCount f_depth f_conditionalCount f_argumentsUsed f_argumentsLimit f_heldCount a_input a_output a_pending a_catcodes a_nameChars a_nameLengths a_meanings a_savedItems a_savedLevels a_savedCatcodes a_conditionals a_arguments a_argumentStarts a_argumentEnds a_held) := fun a T' ar' ast2 ae' n' A' u' w1 w2 w3 w4 => by
      have hla := pb_arg w1
      obtain ⟨b1, b2, b3⟩ := pi_arg hC (by omega) hI.1 h0 w1
      have hI1 := pi_toI hI b1
      have hargs : pm_args true C (n + 1) (mk :: tl) tot acc T = pm_args true C n (tl.dropWhile (fun r => decide (r < 2048))) (tot + a.length) (acc ++ [a]) T' := by
        show (match pm_arg true C (256 - tot) (tl.takeWhile (fun r => decide (r < 2048))) T with | (none, T1) => (none, T1) | (some a, T1) => if 256 < tot + a.length then (none, pm_err 16 T1) else pm_args true C n (tl.dropWhile (fun r => decide (r < 2048))) (tot + a.length) (acc ++ [a]) T1) = _
        rw [w1]
        show (if 256 < tot + a.length then _ else _) = _
        rw [if_neg (by omega)]
      have e2 : base + 4 + (pre ++ [mk]).length + (tl.takeWhile (fun r => decide (r < 2048))).length = base + 4 + (pre ++ [mk] ++ tl.takeWhile (fun r => decide (r < 2048))).length := by
        rw [List.length_append (as := pre ++ [mk])]
        omega
      have e3 : acc.length + 1 + 1 = (acc ++ [a]).length + 1 := by rw [List.length_append]; rfl
      rw [e2, e3]
      obtain ⟨f1, f2, f3, f4, f5, f6, f7, f8, f9, f10, f11, f12, f13, f14, a1, a2, a3, a4, a5, a6, a7, a8, a9, a10, a11, a12, a13, a14, a15⟩ := u'
      refine ih (pre ++ [mk] ++ tl.takeWhile (fun r => decide (r < 2048))) (tl.dropWhile (fun r => decide (r < 2048))) (acc ++ [a]) T' ar' ast2 ae' n' A' (tot + a.length) N _ _ _ _ _ _ _ _ _ _ _ _ _ _ _ _ _ _ _ _ _ _ _ _ _ _ _ _ _ (by rw [List.length_append]; simp only [List.length_cons, List.length_nil]; omega) (by rw [List.append_assoc, List.takeWhile_append_dropWhile]; exact hs2) (by rw [xv_cnt2]; exact hcn2) (fun hpos => xv_cnt (a := 0) (by rw [hcn2]; exact hpos)) (by omega) w4 hI1 (b2 a rfl).1 (xv_ext hG' w2 w3 hla) (fun T2 ar2 ast3 ae2 au' al' u'' y1 => K0 T2 ar2 ast3 ae2 au' al' u'' (by rw [hargs]; exact y1)) (fun as T2 ar2 ast3 ae2 U' au' al' u'' y1 => K1 as T2 ar2 ast3 ae2 U' au' al' u'' (by rw [hargs]; exact y1))
    have stop : ∀ T' ar' ast2 ae' au' al' u' (x5 : Int32), pm_arg true C (256 - tot) (tl.takeWhile (fun r => decide (r < 2048))) T = (none, T') → xr_R L lim (T', C, q) a7 ar' ast2 ae' au' al' hc u' → (match u' with | (f_expansionLimit, f_expansionCount, f_state, f_inputLength, f_inputPosition, f_outputCount, f_pendingCount, f_namesUsed, f_saveCount, f_depth, f_conditionalCount, f_argumentsUsed, f_argumentsLimit, f_heldCount, a_input, a_output, a_pending, a_catcodes, a_nameChars, a_nameLengths, a_meanings, a_savedItems, a_savedLevels, a_savedCatcodes, a_conditionals, a_arguments, a_argumentStarts, a_argumentEnds, a_held) => wX_expandMacro_91 post (nI base) (nI cnt) (nI (base + 4 + pt.length)) N x5 (nI (acc.length + 1 + 1)) f_expansionLimit f_expansionCount f_state f_inputLength f_inputPosition f_outputCount f_pendingCount f_namesUsed f_saveCount f_depth f_conditionalCount f_argumentsUsed f_argumentsLimit f_heldCount a_input a_output a_pending a_catcodes a_nameChars a_nameLengths a_meanings a_savedItems a_savedLevels a_savedCatcodes a_conditionals a_arguments a_argumentStarts a_argumentEnds a_held) := fun T' ar' ast2 ae' au' al' u' x5 w1 w4 => by
      obtain ⟨b1, b2, b3⟩ := pi_arg hC (by omega) hI.1 h0 w1
      have hne := b3 rfl
      have hlt := xh_lt w4
      have k := K0 T' ar' ast2 ae' au' al' u' (by
        show (match pm_arg true C (256 - tot) (tl.takeWhile (fun r => decide (r < 2048))) T with | (none, T1) => (none, T1) | (some a, T1) => if 256 < tot + a.length then (none, pm_err 16 T1) else pm_args true C n (tl.dropWhile (fun r => decide (r < 2048))) (tot + a.length) (acc ++ [a]) T1) = _
        rw [w1]) w4
      obtain ⟨f1, f2, f3, f4, f5, f6, f7, f8, f9, f10, f11, f12, f13, f14, a1, a2, a3, a4, a5, a6, a7, a8, a9, a10, a11, a12, a13, a14, a15⟩ := u'
      obtain ⟨y1, y2⟩ := xh_st w4
      obtain ⟨N, rfl⟩ : ∃ m, N = m + 1 := ⟨N - 1, by omega⟩
      have hst' : ¬ f3 = 0 := fun z => hne ((nI_eq (b := 0) (Nat.lt_trans hlt (by decide)) (by decide)).mp (y1.symm.trans z))
      exact br_c (fun _ => br_f hst' k) (fun _ => br_c (fun _ => br_f hst' k) (fun _ => br_f hst' (br_f hst' k)))
    by_cases hemp : (tl.takeWhile (fun r => decide (r < 2048))) = []
    · have hargE : ∀ y, pm_und true C (256 - tot) T = y → pm_arg true C (256 - tot) (tl.takeWhile (fun r => decide (r < 2048))) T = y := fun y hy => by
        unfold pm_arg
        rw [hemp]
        exact hy
      refine br_t (by rw [hemp]; rfl) ?_
      refine xe_und hL hC (by omega) (by omega) hR' hI h0 (fun r T' ar' n' u' w1 w2 w3 w4 => ?_)
      rw [hroom] at w1
      cases r with
      | none =>
        have k := stop T' ar' ast' (upd a14 (acc.length + 1) (nI n')) (nI n') (nI A)
        obtain ⟨g1, g2, g3, g4, g5, g6, g7, g8, g9, g10, g11, g12, g13, g14, b1, b2, b3, b4, b5, b6, b7, b8, b9, b10, b11, b12, b13, b14, b15⟩ := u'
        obtain ⟨y1, y2, y3, y4, y5, y6, y7, y8⟩ := xh_st w4
        subst y3 y4 y6 y7 y8
        refine ⟨v, fun ae' q2 => nm_r (nI_1 _) ?_⟩
        rw [cl] at q2
        subst q2
        exact k (g1, g2, g3, g4, g5, g6, g7, g8, g9, g10, g11, nI n', nI A, g14, b1, b2, b3, b4, b5, b6, b7, b8, b9, b10, b11, b12, b13, upd b14 (acc.length + 1) (nI n'), b15) _ (hargE _ w1) (xe_sc w4 _ _ _ _ _)
      | some a =>
        obtain ⟨c1, c2⟩ := w3 a rfl
        have k := next a T' ar' ast' (upd a14 (acc.length + 1) (nI n')) n' A
        obtain ⟨g1, g2, g3, g4, g5, g6, g7, g8, g9, g10, g11, g12, g13, g14, b1, b2, b3, b4, b5, b6, b7, b8, b9, b10, b11, b12, b13, b14, b15⟩ := u'
        obtain ⟨y1, y2, y3, y4, y5, y6, y7, y8⟩ := xh_st w4
        subst y3 y4 y6 y7 y8
        refine ⟨v, fun ae' q2 => nm_r (nI_1 _) ?_⟩
        rw [cl] at q2
        subst q2
        exact k (g1, g2, g3, g4, g5, g6, g7, g8, g9, g10, g11, nI n', nI A, g14, b1, b2, b3, b4, b5, b6, b7, b8, b9, b10, b11, b12, b13, upd b14 (acc.length + 1) (nI n'), b15) (hargE _ w1) w2 ⟨U, by rw [q1, pk_us], by rw [pk_us, c2], c1, by omega, Nat.le_refl _, by omega, by omega, fun j hj => ⟨by rw [q1, pk_un hj], pk_un hj⟩⟩ (xe_sc w4 _ _ _ _ _)
    · have hdl1 : 0 < (tl.takeWhile (fun r => decide (r < 2048))).length := List.length_pos_iff.mpr hemp
      have hargE : ∀ y, pm_del true C (256 - tot) (tl.takeWhile (fun r => decide (r < 2048))) (pm_len T + 1) 0 false [] T = y → pm_arg true C (256 - tot) (tl.takeWhile (fun r => decide (r < 2048))) T = y := fun y hy => by
        unfold pm_arg
        rw [if_neg (by simpa using hemp)]
        exact hy
      have hle : pm_len T ≤ 512 := xe_len hI.1
      refine br_f (fun z => by have := (nI_eq (by omega) (by omega)).mp z; omega) ?_
      have hdel := xo_delL (post := fun u => match u with | (f_expansionLimit, f_expansionCount, f_state, f_inputLength, f_inputPosition, f_outputCount, f_pendingCount, f_namesUsed, f_saveCount, f_depth, f_conditionalCount, f_argumentsUsed, f_argumentsLimit, f_heldCount, a_input, a_output, a_pending, a_catcodes, a_nameChars, a_nameLengths, a_meanings, a_savedItems, a_savedLevels, a_savedCatcodes, a_conditionals, a_arguments, a_argumentStarts, a_argumentEnds, a_held) => ∀ y : Int32, y = nI (acc.length + 1) + 1 → wX_expandMacro_91 post (nI base) (nI cnt) (nI (base + 4 + pt.length)) N (nI (base + 4 + (pre ++ [mk]).length + (tl.takeWhile (fun r => decide (r < 2048))).length)) y f_expansionLimit f_expansionCount f_state f_inputLength f_inputPosition f_outputCount f_pendingCount f_namesUsed f_saveCount f_depth f_conditionalCount f_argumentsUsed f_argumentsLimit f_heldCount a_input a_output a_pending a_catcodes a_nameChars a_nameLengths a_meanings a_savedItems a_savedLevels a_savedCatcodes a_conditionals a_arguments a_argumentStarts a_argumentEnds a_held) (ast := ast') (ae := a14) (k := acc.length + 1) (p := base + 4 + (pre ++ [mk]).length) (U := U) (A := A) (dl := tl.takeWhile (fun r => decide (r < 2048))) (mm := a7) (q := q) (lim := lim) (hc := hc) hL hC (by omega) (by omega) (by omega) hdl1 (by omega) (fun t ht => hpt t (by rw [hs2]; exact List.mem_append_right _ (List.takeWhile_subset _ ht))) (fun j hj => by
        have := hD (pre.length + 1 + j) (by omega)
        rw [hpl, show base + 4 + (pre.length + 1) + j = base + 4 + (pre.length + 1 + j) from by omega, this, hs2, ← hpl, List.getD_eq_getElem?_getD, List.getElem?_append_right (by omega), show (pre ++ [mk]).length + j - (pre ++ [mk]).length = j from by omega, ← List.getD_eq_getElem?_getD]
        have h2 := xr_getD_append_left (r := tl.dropWhile (fun r => decide (r < 2048))) (d := 0) hj
        rw [List.takeWhile_append_dropWhile] at h2
        exact congrArg nI h2) (by omega) (by omega) (by rw [q1, pk_us]) (pm_len T + 1) 0 false [] T a12 (pm_len T + 3) 0 _ _ _ _ _ _ _ _ _ _ _ _ _ _ _ _ _ _ _ _ _ _ _ _ _ _ _ _ _ (by omega) (by omega) (by omega) (by omega) (by show 0 + _ ≤ _; omega) (fun z => (nomatch z)) hR' hI h0 (fun j hj => absurd hj (Nat.not_lt_zero _)) (fun T' ar' ast2 ae' au' al' u' w1 w2 => ?_) (fun a T' ar' ast2 ae' n' A' u' w1 w2 w3 w4 => ?_)
      · rw [show nI 0 = (0 : Int32) from rfl] at hdel
        exact ⟨_, hdel⟩
      · rw [hroom] at w1
        have k := stop T' ar' ast2 ae' au' al' u' (nI (base + 4 + (pre ++ [mk]).length + (tl.takeWhile (fun r => decide (r < 2048))).length)) (hargE _ w1) w2
        obtain ⟨f1, f2, f3, f4, f5, f6, f7, f8, f9, f10, f11, f12, f13, f14, a1, a2, a3, a4, a5, a6, a7, a8, a9, a10, a11, a12, a13, a14, a15⟩ := u'
        exact nm_r (nI_1 _) k
      · rw [hroom] at w1
        obtain ⟨s, o1, o2, o3, o4, o5, o6, o7, o8⟩ := w3
        have k := next a T' ar' ast2 ae' n' A' u' (hargE _ w1) w2 ⟨s, o1, o2, o3, o4, o5, o6, o7, fun j hj => ⟨(o8 j hj).1.trans (by rw [q1, pk_un hj]), (o8 j hj).2⟩⟩ w4
        obtain ⟨f1, f2, f3, f4, f5, f6, f7, f8, f9, f10, f11, f12, f13, f14, a1, a2, a3, a4, a5, a6, a7, a8, a9, a10, a11, a12, a13, a14, a15⟩ := u'
        exact nm_r (nI_1 _) k
end XV
