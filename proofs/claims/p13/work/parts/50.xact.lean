section XK
variable {L : List Nat} {lim : Nat} {mm ar ast ae : Nat → Int32} {au al hc : Int32} {u : SX} {post : SX → Prop} {f1 f2 f3 f4 f5 f6 f7 f8 f9 f10 f11 f12 f13 f14 : Int32} {a1 a2 a3 a4 a5 a6 a7 a8 a9 a10 a11 a12 a13 a14 a15 : Nat → Int32}
theorem xk_push {k : Nat} {P : pm_P} (hR : xr_R L lim P mm ar ast ae au al hc u) (hI : pi_I lim P) (K : ∀ u', xr_R L lim (pm_push k P) mm ar ast ae au al hc u' → post u') : wpX_pushConditional post u (nI k) := by
  obtain ⟨⟨st, rest, ps, ns⟩, C, M, S, d, c, o, x⟩ := P
  have hR' := hR
  obtain ⟨ip, pc, inp, out, pend, cat, nch, nl, si, sl, sv, cd, held, rfl, h1, hs, h2, h3, h4, h5, h6, h7⟩ := hR
  have hc : c.length ≤ 8 := hI.2.2.2.2.2.2.2.1
  by_cases h8 : 8 ≤ c.length
  · refine br_f (nI_nlt (b := 8) h8 (by omega)) (K _ ?_)
    simp only [pm_push, if_pos h8]
    exact xh_err (k := 12) (by decide) hR'
  · refine br_t (nI_lt (b := 8) (by omega) (by decide)) ⟨vp_in_nI (by omega) (by decide), fun cd' e => nm_r (nI_1 _) (K _ ?_)⟩
    rw [nI_clamp (by omega)] at e
    subst e
    simp only [pm_push, if_neg h8]
    exact ⟨ip, pc, inp, out, pend, cat, nch, nl, si, sl, sv, _, held, rfl, h1, hs, h2, h3, h4, h5, h6, xr_S_push h7⟩
theorem xk_if {b : Bool} {P : pm_P} (hL : xr_I L) (hR : xr_R L lim P mm ar ast ae au al hc u) (hI : pi_I lim P) (h0 : P.1.1 = 0) (K : ∀ u', xr_R L lim (pm_if b P) mm ar ast ae au al hc u' → post u') : wpX_startConditional post u (xa_b b) := by
  obtain ⟨T, C, M, q⟩ := P
  have hC : ∀ a, a < 128 → C a < 8 := by obtain ⟨S, d, c, o, x⟩ := q; exact hI.2.1
  obtain ⟨f1, f2, f3, f4, f5, f6, f7, f8, f9, f10, f11, f12, f13, f14, a1, a2, a3, a4, a5, a6, a7, a8, a9, a10, a11, a12, a13, a14, a15⟩ := u
  cases b with
  | true =>
    refine br_f ci_10 (xk_push (k := 0) hR hI fun u' h => ?_)
    obtain ⟨f1, f2, f3, f4, f5, f6, f7, f8, f9, f10, f11, f12, f13, f14, a1, a2, a3, a4, a5, a6, a7, a8, a9, a10, a11, a12, a13, a14, a15⟩ := u'
    refine K _ ?_
    simp only [pm_if]
    exact h
  | false =>
    refine br_t rfl (xc_skip (els := true) hL hR hI h0 (fun T1 u1 e1 hR1 => ?_) (fun p T1 u1 hp e1 hR1 => ?_))
    · obtain ⟨f1, f2, f3, f4, f5, f6, f7, f8, f9, f10, f11, f12, f13, f14, a1, a2, a3, a4, a5, a6, a7, a8, a9, a10, a11, a12, a13, a14, a15⟩ := u1
      refine br_f (by decide) (K _ ?_)
      simp only [pm_if, e1]
      exact hR1
    · obtain ⟨f1, f2, f3, f4, f5, f6, f7, f8, f9, f10, f11, f12, f13, f14, a1, a2, a3, a4, a5, a6, a7, a8, a9, a10, a11, a12, a13, a14, a15⟩ := u1
      obtain ⟨a1, a2⟩ := pi_skip hC _ _ _ _ _ hI.1 h0 (Nat.lt_succ_self _) e1
      by_cases h12 : p = 12
      · subst h12
        refine br_t rfl (xk_push (k := 1) hR1 (pi_toI hI a1) fun u' h => ?_)
        obtain ⟨f1, f2, f3, f4, f5, f6, f7, f8, f9, f10, f11, f12, f13, f14, a1, a2, a3, a4, a5, a6, a7, a8, a9, a10, a11, a12, a13, a14, a15⟩ := u'
        refine K _ ?_
        simp only [pm_if, e1]
        exact h
      · refine br_f (fun z => h12 ((nI_eq (b := 12) (by omega) (by decide)).mp z)) (K _ ?_)
        simp only [pm_if, e1]
        rw [if_neg (by decide), if_neg h12]
        exact hR1
theorem xk_else {P : pm_P} (hL : xr_I L) (hR : xr_R L lim P mm ar ast ae au al hc u) (hI : pi_I lim P) (h0 : P.1.1 = 0) (K : ∀ u', xr_R L lim (pm_else P) mm ar ast ae au al hc u' → post u') : wpX_skipElseBranch post u := by
  obtain ⟨T, C, M, S, d, c, o, x⟩ := P
  have hR' := hR
  obtain ⟨st, rest, ps, ns⟩ := T
  obtain ⟨ip, pc, inp, out, pend, cat, nch, nl, si, sl, sv, cd, held, rfl, h1, hs, h2, h3, h4, h5, h6, h7⟩ := hR
  have hc : c.length ≤ 8 := hI.2.2.2.2.2.2.2.1
  have hc1 : ∀ a, a ∈ c → a ≤ 1 := hI.2.2.2.2.2.2.2.2.1
  rcases c with _ | ⟨t, c⟩
  · refine br_t rfl (K _ ?_)
    simp only [pm_else, if_pos (show ([] : List Nat) = [] ∨ ([] : List Nat).head? = some 1 from Or.inl rfl)]
    exact xh_err (k := 13) (by decide) hR'
  · have hcl : c.length + 1 ≤ 8 := hc
    have ht := hc1 t List.mem_cons_self
    have e : nI (t :: c).length - 1 = nI c.length := nI_pred _
    refine br_f (nI_ne0 (Nat.succ_pos _) (by show c.length + 1 < 2 ^ 31; omega)) ⟨by rw [e]; exact vp_in_nI (by omega) (by decide), ?_⟩
    rw [e, nI_clamp (by omega), h7.1]
    by_cases h1' : t = 1
    · refine br_t (by rw [h1']; rfl) (K _ ?_)
      simp only [pm_else, if_pos (show t :: c = [] ∨ (t :: c).head? = some 1 from Or.inr (by rw [h1']; rfl))]
      exact xh_err (k := 13) (by decide) hR'
    · have hne : ¬ (t :: c = [] ∨ (t :: c).head? = some 1) := fun z => z.elim (fun y => (nomatch y)) (fun y => h1' (Option.some.inj y))
      refine br_f (fun z => h1' ((nI_eq (b := 1) (by omega) (by decide)).mp z)) ?_
      refine xc_skip (els := false) hL hR' hI h0 (fun T1 u1 e1 hR1 => ?_) (fun p T1 u1 hp e1 hR1 => ?_)
      · obtain ⟨f1, f2, f3, f4, f5, f6, f7, f8, f9, f10, f11, f12, f13, f14, a1, a2, a3, a4, a5, a6, a7, a8, a9, a10, a11, a12, a13, a14, a15⟩ := u1
        refine br_f (by decide) (K _ ?_)
        simp only [pm_else, if_neg hne, e1]
        exact hR1
      · obtain ⟨st1, rest1, ps1, ns1⟩ := T1
        obtain ⟨ip, pc, inp, out, pend, cat, nch, nl, si, sl, sv, cd, held, rfl, h1, hs, h2, h3, h4, h5, h6, h7⟩ := hR1
        by_cases h13 : p = 13
        · subst h13
          refine br_t rfl (nm_r e (K _ ?_))
          simp only [pm_else, if_neg hne, e1]
          exact ⟨ip, pc, inp, out, pend, cat, nch, nl, si, sl, sv, cd, held, rfl, h1, hs, h2, h3, h4, h5, h6, h7.2⟩
        · refine br_f (fun z => h13 ((nI_eq (b := 13) (by omega) (by decide)).mp z)) (K _ ?_)
          simp only [pm_else, if_neg hne, e1]
          rw [if_neg h13]
          exact ⟨ip, pc, inp, out, pend, cat, nch, nl, si, sl, sv, cd, held, rfl, h1, hs, h2, h3, h4, h5, h6, h7⟩
theorem xk_fi {P : pm_P} (hR : xr_R L lim P mm ar ast ae au al hc u) (hI : pi_I lim P) (K : ∀ u', xr_R L lim (pm_fi P) mm ar ast ae au al hc u' → post u') : wpX_endConditional post u := by
  obtain ⟨⟨st, rest, ps, ns⟩, C, M, S, d, c, o, x⟩ := P
  have hR' := hR
  obtain ⟨ip, pc, inp, out, pend, cat, nch, nl, si, sl, sv, cd, held, rfl, h1, hs, h2, h3, h4, h5, h6, h7⟩ := hR
  have hc : c.length ≤ 8 := hI.2.2.2.2.2.2.2.1
  rcases c with _ | ⟨t, c⟩
  · refine br_t rfl (K _ ?_)
    simp only [pm_fi]
    exact xh_err (k := 13) (by decide) hR'
  · have hcl : c.length + 1 ≤ 8 := hc
    refine br_f (nI_ne0 (Nat.succ_pos _) (by show c.length + 1 < 2 ^ 31; omega)) (nm_r (nI_pred c.length) (K _ ?_))
    simp only [pm_fi]
    rw [if_neg (fun z => (nomatch z))]
    exact ⟨ip, pc, inp, out, pend, cat, nch, nl, si, sl, sv, cd, held, rfl, h1, hs, h2, h3, h4, h5, h6, h7.2⟩
theorem xk_take0 {post : Int32 → SX → Prop} {P : pm_P} {e : Int32} (hR : xr_R L lim P mm ar ast ae au al hc (f1, f2, f3, f4, f5, f6, f7, f8, f9, f10, f11, f12, f13, f14, a1, a2, a3, a4, a5, a6, a7, a8, a9, a10, a11, a12, a13, a14, a15)) (h0 : P.1.1 ≠ 0) (K : post (-1) (f1, f2, f3, f4, f5, f6, f7, f8, f9, f10, f11, f12, f13, f14, a1, a2, a3, a4, a5, a6, a7, a8, a9, a10, a11, a12, a13, a14, a15)) : wpX_takeToken post (f1, f2, f3, f4, f5, f6, f7, f8, f9, f10, f11, f12, f13, f14, a1, a2, a3, a4, a5, a6, a7, a8, a9, a10, a11, a12, a13, a14, a15) e := by
  obtain ⟨z1, _⟩ := xh_st hR
  have hl := xh_lt hR
  refine br_f (fun z => h0 ?_) K
  rw [z1] at z
  exact (nI_eq (b := 0) (by omega) (by decide)).mp z
theorem xk_skip0 {post : Int32 → SX → Prop} {P : pm_P} {b : Int32} (hR : xr_R L lim P mm ar ast ae au al hc (f1, f2, f3, f4, f5, f6, f7, f8, f9, f10, f11, f12, f13, f14, a1, a2, a3, a4, a5, a6, a7, a8, a9, a10, a11, a12, a13, a14, a15)) (h0 : P.1.1 ≠ 0) (K : post (-1) (f1, f2, f3, f4, f5, f6, f7, f8, f9, f10, f11, f12, f13, f14, a1, a2, a3, a4, a5, a6, a7, a8, a9, a10, a11, a12, a13, a14, a15)) : wpX_skipBranch post (f1, f2, f3, f4, f5, f6, f7, f8, f9, f10, f11, f12, f13, f14, a1, a2, a3, a4, a5, a6, a7, a8, a9, a10, a11, a12, a13, a14, a15) b :=
  ⟨1, br_f (by decide) (xk_take0 hR h0 (br_t rfl K))⟩
theorem xk_ifx {P : pm_P} (hL : xr_I L) (hR : xr_R L lim P mm ar ast ae au al hc u) (hI : pi_I lim P) (h0 : P.1.1 = 0) (K : ∀ mm' u', xr_R L lim (pm_ifx P) mm' ar ast ae au al hc u' → post u') : wpX_nextMeaningsAreEqual (fun r u => match u with | (f_expansionLimit, f_expansionCount, f_state, f_inputLength, f_inputPosition, f_outputCount, f_pendingCount, f_namesUsed, f_saveCount, f_depth, f_conditionalCount, f_argumentsUsed, f_argumentsLimit, f_heldCount, a_input, a_output, a_pending, a_catcodes, a_nameChars, a_nameLengths, a_meanings, a_savedItems, a_savedLevels, a_savedCatcodes, a_conditionals, a_arguments, a_argumentStarts, a_argumentEnds, a_held) => wpX_startConditional (fun u => match u with | (f_expansionLimit, f_expansionCount, f_state, f_inputLength, f_inputPosition, f_outputCount, f_pendingCount, f_namesUsed, f_saveCount, f_depth, f_conditionalCount, f_argumentsUsed, f_argumentsLimit, f_heldCount, a_input, a_output, a_pending, a_catcodes, a_nameChars, a_nameLengths, a_meanings, a_savedItems, a_savedLevels, a_savedCatcodes, a_conditionals, a_arguments, a_argumentStarts, a_argumentEnds, a_held) => post (f_expansionLimit, f_expansionCount, f_state, f_inputLength, f_inputPosition, f_outputCount, f_pendingCount, f_namesUsed, f_saveCount, f_depth, f_conditionalCount, f_argumentsUsed, f_argumentsLimit, f_heldCount, a_input, a_output, a_pending, a_catcodes, a_nameChars, a_nameLengths, a_meanings, a_savedItems, a_savedLevels, a_savedCatcodes, a_conditionals, a_arguments, a_argumentStarts, a_argumentEnds, a_held)) (f_expansionLimit, f_expansionCount, f_state, f_inputLength, f_inputPosition, f_outputCount, f_pendingCount, f_namesUsed, f_saveCount, f_depth, f_conditionalCount, f_argumentsUsed, f_argumentsLimit, f_heldCount, a_input, a_output, a_pending, a_catcodes, a_nameChars, a_nameLengths, a_meanings, a_savedItems, a_savedLevels, a_savedCatcodes, a_conditionals, a_arguments, a_argumentStarts, a_argumentEnds, a_held) r) u := by
  obtain ⟨T, C, M, q⟩ := P
  have hC : ∀ a, a < 128 → C a < 8 := by obtain ⟨S, d, c, o, x⟩ := q; exact hI.2.1
  obtain ⟨f1, f2, f3, f4, f5, f6, f7, f8, f9, f10, f11, f12, f13, f14, a1, a2, a3, a4, a5, a6, a7, a8, a9, a10, a11, a12, a13, a14, a15⟩ := u
  unfold wpX_nextMeaningsAreEqual
  refine xt_take (e := 3) hL hR hI h0 (by decide) (fun t T1 u1 e1 hR1 => ?_) (fun T1 u1 e1 hR1 => ?_)
  · obtain ⟨p1, p2, p3, p4⟩ := pi_tk hI.1 hC h0 e1
    have hb := xs_tok p1.1.1.2.1 p3
    have hI1 := pi_toI hI p1
    obtain ⟨f1, f2, f3, f4, f5, f6, f7, f8, f9, f10, f11, f12, f13, f14, a1, a2, a3, a4, a5, a6, a7, a8, a9, a10, a11, a12, a13, a14, a15⟩ := u1
    refine xt_take (e := 3) hL hR1 hI1 p2 (by decide) (fun v T2 u2 e2 hR2 => ?_) (fun T2 u2 e2 hR2 => ?_)
    · obtain ⟨r1, r2, r3, r4⟩ := pi_tk p1.1 hC p2 e2
      have hb2 := xs_tok r1.1.1.2.1 r3
      have hI2 := pi_toI hI1 r1
      have p3' := pi_tok_le p3 (pi_to_k r1)
      have hk := r1.1.1.2.1
      have hMi : pi_M T2.2.2.2.length M := by obtain ⟨S, d, c, o, x⟩ := q; exact hI2.2.2.1
      obtain ⟨f1, f2, f3, f4, f5, f6, f7, f8, f9, f10, f11, f12, f13, f14, a1, a2, a3, a4, a5, a6, a7, a8, a9, a10, a11, a12, a13, a14, a15⟩ := u2
      obtain ⟨z1, z2, z3⟩ := xh_st hR2
      subst z2
      refine br_f (xh_n1 (by omega)) ?_
      refine xs_load (s := 64) (M := M) (by decide) (by decide) hk p3' (xh_MM hR2) fun mm1 w1 w2 => ?_
      have hR3 := xh_mm hR2 hI2 (mm' := mm1) (fun j hj => w2 j (by omega))
      refine xs_load (s := 65) (M := M) (by decide) (by decide) hk r3 (xh_MM hR3) fun mm2 y1 y2 => ?_
      have hR4 := xh_mm hR3 hI2 (mm' := mm2) (fun j hj => y2 j (by omega))
      obtain ⟨s1, s2, s3⟩ := xs_small hk (Or.inl (pi_mng hMi hk p3'))
      obtain ⟨s4, s5, s6⟩ := xs_small hk (Or.inl (pi_mng hMi hk r3))
      have fin : ∀ b : Bool, decide (pm_mng M t = pm_mng M v) = b → wpX_startConditional (fun u => match u with | (f_expansionLimit, f_expansionCount, f_state, f_inputLength, f_inputPosition, f_outputCount, f_pendingCount, f_namesUsed, f_saveCount, f_depth, f_conditionalCount, f_argumentsUsed, f_argumentsLimit, f_heldCount, a_input, a_output, a_pending, a_catcodes, a_nameChars, a_nameLengths, a_meanings, a_savedItems, a_savedLevels, a_savedCatcodes, a_conditionals, a_arguments, a_argumentStarts, a_argumentEnds, a_held) => post (f_expansionLimit, f_expansionCount, f_state, f_inputLength, f_inputPosition, f_outputCount, f_pendingCount, f_namesUsed, f_saveCount, f_depth, f_conditionalCount, f_argumentsUsed, f_argumentsLimit, f_heldCount, a_input, a_output, a_pending, a_catcodes, a_nameChars, a_nameLengths, a_meanings, a_savedItems, a_savedLevels, a_savedCatcodes, a_conditionals, a_arguments, a_argumentStarts, a_argumentEnds, a_held)) (f1, f2, f3, f4, f5, f6, f7, f8, f9, f10, f11, f12, f13, f14, a1, a2, a3, a4, a5, a6, mm2, a8, a9, a10, a11, a12, a13, a14, a15) (xa_b b) := fun b hb => by
        refine xk_if (b := b) hL hR4 hI2 r2 fun u' h => ?_
        obtain ⟨f1, f2, f3, f4, f5, f6, f7, f8, f9, f10, f11, f12, f13, f14, a1, a2, a3, a4, a5, a6, a7, a8, a9, a10, a11, a12, a13, a14, a15⟩ := u'
        refine K mm2 _ ?_
        simp only [pm_ifx, e1, e2, hb]
        exact h
      refine xs_eq (a := 64) (b := 65) (m := pm_mng M t) (m' := pm_mng M v) (by decide) (by decide) (fun i hi => (y2 _ (by omega)).trans (w1 i hi)) y1 s1 s4 s2 s3 (fun e => ⟨rfl, ?_⟩) (fun e => ⟨rfl, ?_⟩)
      · exact fin true (decide_eq_true e)
      · exact fin false (decide_eq_false e)
    · obtain ⟨r1, r2⟩ := pi_tn p1.1 hC p2 e2
      obtain ⟨f1, f2, f3, f4, f5, f6, f7, f8, f9, f10, f11, f12, f13, f14, a1, a2, a3, a4, a5, a6, a7, a8, a9, a10, a11, a12, a13, a14, a15⟩ := u2
      refine br_t rfl ?_
      refine br_t rfl (xk_skip0 hR2 r2 (br_f (by decide) (K mm _ ?_)))
      simp only [pm_ifx, e1, e2]
      exact hR2
  · obtain ⟨r1, r2⟩ := pi_tn hI.1 hC h0 e1
    obtain ⟨f1, f2, f3, f4, f5, f6, f7, f8, f9, f10, f11, f12, f13, f14, a1, a2, a3, a4, a5, a6, a7, a8, a9, a10, a11, a12, a13, a14, a15⟩ := u1
    refine xk_take0 hR1 r2 ?_
    refine br_t rfl ?_
    refine br_t rfl (xk_skip0 hR1 r2 (br_f (by decide) (K mm _ ?_)))
    simp only [pm_ifx, e1]
    exact hR1
theorem xk_out {t : Nat} {P : pm_P} (hR : xr_R L lim P mm ar ast ae au al hc (f1, f2, f3, f4, f5, f6, f7, f8, f9, f10, f11, f12, f13, f14, a1, a2, a3, a4, a5, a6, a7, a8, a9, a10, a11, a12, a13, a14, a15)) (hI : pi_I lim P) (K : ∀ u', xr_R L lim (pm_out t P) mm ar ast ae au al hc u' → post u') : wX_actOnCharacter_27 post (nI t) f1 f2 f3 f4 f5 f6 f7 f8 f9 f10 f11 f12 f13 f14 a1 a2 a3 a4 a5 a6 a7 a8 a9 a10 a11 a12 a13 a14 a15 := by
  obtain ⟨⟨st, rest, ps, ns⟩, C, M, S, d, c, o, x⟩ := P
  have hR' := hR
  obtain ⟨ip, pc, inp, out, pend, cat, nch, nl, si, sl, sv, cd, held, e, h1, hs, h2, h3, h4, h5, h6, h7⟩ := hR
  cases e
  have ho : o.length ≤ 256 := hI.2.2.2.2.2.2.2.2.2.1
  have hst : st < 100 := hs.1
  by_cases h0 : st = 0
  · subst h0
    refine br_t rfl ?_
    by_cases h256 : 256 ≤ o.length
    · refine br_f (nI_nlt (b := 256) h256 (by omega)) (K _ ?_)
      simp only [pm_out]
      rw [if_pos trivial, if_pos h256]
      exact xh_err (k := 15) (by decide) hR'
    · refine br_t (nI_lt (b := 256) (by omega) (by decide)) ⟨vp_in_nI (by omega) (by decide), fun out' e => nm_r (nI_1 _) (K _ ?_)⟩
      rw [nI_clamp (by omega)] at e
      subst e
      simp only [pm_out]
      rw [if_pos trivial, if_neg h256]
      exact ⟨_, _, _, _, _, _, _, _, _, _, _, _, _, by rw [List.length_append]; rfl, h1, hs, xr_L_push h2, h3, h4, h5, h6, h7⟩
  · refine br_f (fun z => h0 ((nI_eq (b := 0) (by omega) (by decide)).mp z)) (K _ ?_)
    simp only [pm_out]
    rw [if_neg h0]
    exact hR'
theorem xk_char {t : Nat} {P : pm_P} (ht : t < 1024) (hR : xr_R L lim P mm ar ast ae au al hc u) (hI : pi_I lim P) (K : ∀ mm' u', xr_R L lim (pm_char t P) mm' ar ast ae au al hc u' → post u') : wpX_actOnCharacter post u (nI t) := by
  obtain ⟨f1, f2, f3, f4, f5, f6, f7, f8, f9, f10, f11, f12, f13, f14, a1, a2, a3, a4, a5, a6, a7, a8, a9, a10, a11, a12, a13, a14, a15⟩ := u
  have hcat : pm_cat t < 8 := by unfold pm_cat; split <;> omega
  unfold pm_char at K
  unfold wpX_actOnCharacter
  refine xh_cat (by omega) ?_
  by_cases c1 : pm_cat t = 1
  · rw [if_pos c1] at K
    refine br_t (by rw [c1]; rfl) (xh_open hR hI fun u' h => ?_)
    obtain ⟨f1, f2, f3, f4, f5, f6, f7, f8, f9, f10, f11, f12, f13, f14, a1, a2, a3, a4, a5, a6, a7, a8, a9, a10, a11, a12, a13, a14, a15⟩ := u'
    exact xk_out h (pi_open hI).1 (K mm)
  · rw [if_neg c1] at K
    refine br_f (fun z => c1 ((nI_eq (b := 1) (by omega) (by decide)).mp z)) ?_
    by_cases c2 : pm_cat t = 2
    · rw [if_pos c2] at K
      refine br_t (by rw [c2]; rfl) (xh_close hR hI fun mm' u' h => ?_)
      obtain ⟨f1, f2, f3, f4, f5, f6, f7, f8, f9, f10, f11, f12, f13, f14, a1, a2, a3, a4, a5, a6, a7, a8, a9, a10, a11, a12, a13, a14, a15⟩ := u'
      exact xk_out h (pi_close hI).1 (K mm')
    · rw [if_neg c2] at K
      exact br_f (fun z => c2 ((nI_eq (b := 2) (by omega) (by decide)).mp z)) (xk_out hR hI (K mm))
end XK
