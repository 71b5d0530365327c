section XM
variable {L : List Nat} {lim : Nat} {mm ar ast ae : Nat → Int32} {au al hc : Int32} {u : SX} {post : SX → Prop} {f1 f2 f3 f4 f5 f6 f7 f8 f9 f10 f11 f12 f13 f14 : Int32} {a1 a2 a3 a4 a5 a6 a7 a8 a9 a10 a11 a12 a13 a14 a15 : Nat → Int32}
theorem xe_sc {P : pm_P} (h : xr_R L lim P mm ar ast ae au al hc (f1, f2, f3, f4, f5, f6, f7, f8, f9, f10, f11, f12, f13, f14, a1, a2, a3, a4, a5, a6, a7, a8, a9, a10, a11, a12, a13, a14, a15)) (ar' ast' ae' : Nat → Int32) (au' al' : Int32) : xr_R L lim P mm ar' ast' ae' au' al' hc (f1, f2, f3, f4, f5, f6, f7, f8, f9, f10, f11, au', al', f14, a1, a2, a3, a4, a5, a6, a7, a8, a9, a10, a11, ar', ast', ae', a15) := by
  obtain ⟨⟨st, rest, ps, ns⟩, C, M, S, d, c, o, x⟩ := P
  obtain ⟨ip, pc, inp, out, pend, cat, nch, nl, si, sl, sv, cd, held, e, h1⟩ := h
  cases e
  exact ⟨_, _, _, _, _, _, _, _, _, _, _, _, _, rfl, h1⟩
/-- the argument being read, from cell U on -/
def xe_C (ar : Nat → Int32) (U : Nat) (acc : List Nat) : Prop := ∀ j, j < acc.length → ar (U + j) = nI (acc.getD j 0)
theorem xe_C_push {ar : Nat → Int32} {U t : Nat} {acc : List Nat} (h : xe_C ar U acc) : xe_C (upd ar (U + acc.length) (nI t)) U (acc ++ [t]) := by
  intro j hj
  rw [List.length_append] at hj
  simp only [List.length_cons, List.length_nil] at hj
  by_cases e : j = acc.length
  · subst e
    rw [pk_us, xr_getD_append_here]
  · rw [pk_un (by omega), xr_getD_append_left (by omega)]
    exact h j (by omega)
theorem xe_add {P : pm_P} {t ob U A : Nat} {acc : List Nat} (hA : A + ob ≤ 274) (hR : xr_R L lim P mm ar ast ae (nI (U + acc.length)) (nI A) hc u) (hb : U + acc.length < 2000) (hC : xe_C ar U acc)
    (K16 : A + ob ≤ U + acc.length → ∀ u', xr_R L lim (pm_err 16 P.1, P.2) mm ar ast ae (nI (U + acc.length)) (nI A) hc u' → post u')
    (Kn : ¬ A + ob ≤ U + acc.length → ∀ ar' u', xe_C ar' U (acc ++ [t]) → (∀ j, j < U → ar' j = ar j) → xr_R L lim P mm ar' ast ae (nI (U + (acc ++ [t]).length)) (nI A) hc u' → post u') : wpX_addToArgument post u (nI t) (nI ob) := by
  obtain ⟨f1, f2, f3, f4, f5, f6, f7, f8, f9, f10, f11, f12, f13, f14, a1, a2, a3, a4, a5, a6, a7, a8, a9, a10, a11, a12, a13, a14, a15⟩ := u
  obtain ⟨z1, z2, z3, z4, z5, z6, z7, z8⟩ := xh_st hR
  subst z3 z4 z6 z7 z8
  have e : nI A + nI ob = nI (A + ob) := nI_add _ _
  by_cases h : A + ob ≤ U + acc.length
  · refine br_t (by rw [e]; exact nI_le h (by omega)) (K16 h _ ?_)
    exact xh_err (T := P.1) (Q := P.2) (k := 16) (by decide) hR
  · refine br_f (by rw [e]; exact nI_ge (by omega) (by omega)) (br_t (nI_lt (b := 274) (by omega) (by decide)) ⟨vp_in_nI (by omega) (by decide), fun ar' q => nm_r (nI_1 _) ?_⟩)
    rw [nI_clamp (by omega)] at q
    subst q
    refine Kn h _ _ (xe_C_push hC) (fun j hj => pk_un (by omega)) ?_
    rw [List.length_append]
    exact xe_sc hR _ _ _ _ _
theorem xe_grpL {C : Nat → Nat} {U A : Nat} {q : (Nat → pm_Mn) × List pm_Sv × Nat × List Nat × List Nat × Nat} (hL : xr_I L) (hC : ∀ a, a < 128 → C a < 8) (hA : A ≤ 272) (hUA : U ≤ A) : ∀ (f d : Nat) (acc : List Nat) (T : pm_T) (ar : Nat → Int32) (N step : Nat) (f1 f2 f3 f4 f5 f6 f7 f8 f9 f10 f11 f12 f13 f14 : Int32) (a1 a2 a3 a4 a5 a6 a7 a8 a9 a10 a11 a12 a13 a14 a15 : Nat → Int32), pm_len T < f → f + 1 < N → step + f ≤ 999999 → d + f ≤ 1000000 → 0 < d → acc.length + f ≤ 1000 → xr_R L lim (T, C, q) mm ar ast ae (nI (U + acc.length)) (nI A) hc (f1, f2, f3, f4, f5, f6, f7, f8, f9, f10, f11, f12, f13, f14, a1, a2, a3, a4, a5, a6, a7, a8, a9, a10, a11, a12, a13, a14, a15) → pi_I lim (T, C, q) → T.1 = 0 → xe_C ar U acc →
    (∀ r T' ar' n u', pm_grp true C (A - U) f d acc T = (r, T') → (∀ j, j < U → ar' j = ar j) → (∀ a, r = some a → xe_C ar' U a ∧ n = U + a.length) → xr_R L lim (T', C, q) mm ar' ast ae (nI n) (nI A) hc u' → post u') → wX_readRestOfGroup_4 post N (nI d) (nI step) f1 f2 f3 f4 f5 f6 f7 f8 f9 f10 f11 f12 f13 f14 a1 a2 a3 a4 a5 a6 a7 a8 a9 a10 a11 a12 a13 a14 a15 := by
  intro f
  induction f with
  | zero => intro d acc T ar N step f1 f2 f3 f4 f5 f6 f7 f8 f9 f10 f11 f12 f13 f14 a1 a2 a3 a4 a5 a6 a7 a8 a9 a10 a11 a12 a13 a14 a15 h; omega
  | succ f ih =>
    intro d acc T ar N step f1 f2 f3 f4 f5 f6 f7 f8 f9 f10 f11 f12 f13 f14 a1 a2 a3 a4 a5 a6 a7 a8 a9 a10 a11 a12 a13 a14 a15 hf hN hst hd hd0 hac hR hI h0 hacc K
    obtain ⟨N, rfl⟩ : ∃ m, N = m + 1 := ⟨N - 1, by omega⟩
    refine br_f (nI_ge (b := 1000000) (by omega) (by decide)) ?_
    refine xt_take (e := 3) hL hR hI h0 (by decide) (fun t T1 u1 e1 hR1 => ?_) (fun T1 u1 e1 hR1 => ?_)
    · have e1' : pm_take 3 C T = (some t, T1) := e1
      obtain ⟨p1, p2, p3, p4⟩ := pi_tk hI.1 hC h0 e1'
      have p4' : pm_len T1 + 1 ≤ pm_len T := p4
      have hb := xs_tok p1.1.1.2.1 p3
      have hI1 := pi_toI hI p1
      have hcat : pm_cat t < 8 := by unfold pm_cat; split <;> omega
      have hnl : pm_nest t d ≤ d + 1 := by unfold pm_nest; split <;> (try split) <;> omega
      obtain ⟨f1, f2, f3, f4, f5, f6, f7, f8, f9, f10, f11, f12, f13, f14, a1, a2, a3, a4, a5, a6, a7, a8, a9, a10, a11, a12, a13, a14, a15⟩ := u1
      refine br_f (xh_n1 (by omega)) (xh_cat (by omega) (xd_nest (fun _ => hd0) hcat fun r er => nm_r er ?_))
      by_cases hz : pm_nest t d = 0
      · refine br_t (by rw [hz]; rfl) (K (some acc) T1 ar (U + acc.length) _ ?_ (fun j _ => rfl) (fun a ha => ?_) hR1)
        · simp only [pm_grp, e1', if_pos hz]
        · cases ha; exact ⟨hacc, rfl⟩
      · refine br_f (nI_ne0 (by omega) (by omega)) ?_
        refine xe_add (ob := 0) (by omega) hR1 (by omega) hacc (fun h16 u2 hR2 => ?_) (fun h16 ar' u2 c1 c2 hR2 => ?_)
        · obtain ⟨f1, f2, f3, f4, f5, f6, f7, f8, f9, f10, f11, f12, f13, f14, a1, a2, a3, a4, a5, a6, a7, a8, a9, a10, a11, a12, a13, a14, a15⟩ := u2
          refine nm_r (nI_1 _) ?_
          obtain ⟨N, rfl⟩ : ∃ m, N = m + 1 := ⟨N - 1, by omega⟩
          refine br_f (nI_ge (b := 1000000) (by omega) (by decide)) (xk_take0 hR2 (show (16 : Nat) ≠ 0 by decide) (br_t rfl (K none (pm_err 16 T1) ar (U + acc.length) _ ?_ (fun j _ => rfl) (fun a ha => (nomatch ha)) hR2)))
          simp only [pm_grp, e1', if_neg hz]
          rw [if_pos ⟨trivial, by omega⟩]
        · obtain ⟨f1, f2, f3, f4, f5, f6, f7, f8, f9, f10, f11, f12, f13, f14, a1, a2, a3, a4, a5, a6, a7, a8, a9, a10, a11, a12, a13, a14, a15⟩ := u2
          refine nm_r (nI_1 _) ?_
          refine ih (pm_nest t d) (acc ++ [t]) T1 ar' N (step + 1) _ _ _ _ _ _ _ _ _ _ _ _ _ _ _ _ _ _ _ _ _ _ _ _ _ _ _ _ _ (by omega) (by omega) (by omega) (by omega) (by omega) (by rw [List.length_append]; simp only [List.length_cons, List.length_nil]; omega) hR2 hI1 p2 c1 (fun r T' ar2 n u3 q1 q2 q3 q4 => K r T' ar2 n u3 ?_ (fun j hj => (q2 j hj).trans (c2 j hj)) q3 q4)
          simp only [pm_grp, e1', if_neg hz]
          rw [if_neg (fun z => h16 (by have := z.2; omega))]
          exact q1
    · have e1' : pm_take 3 C T = (none, T1) := e1
      obtain ⟨f1, f2, f3, f4, f5, f6, f7, f8, f9, f10, f11, f12, f13, f14, a1, a2, a3, a4, a5, a6, a7, a8, a9, a10, a11, a12, a13, a14, a15⟩ := u1
      refine br_t rfl (K none T1 ar (U + acc.length) _ ?_ (fun j _ => rfl) (fun a ha => (nomatch ha)) hR1)
      simp only [pm_grp, e1']
theorem xe_len {T : pm_T} (h : pi_T T) : pm_len T ≤ 512 := by
  have h1 : T.2.1.length ≤ 256 := h.2.2.1
  have h2 : T.2.2.1.length ≤ 256 := h.2.2.2.1
  show T.2.1.length + T.2.2.1.length ≤ 512
  omega
theorem xe_grp {C : Nat → Nat} {U A : Nat} {T : pm_T} {q : (Nat → pm_Mn) × List pm_Sv × Nat × List Nat × List Nat × Nat} (hL : xr_I L) (hC : ∀ a, a < 128 → C a < 8) (hA : A ≤ 272) (hUA : U ≤ A) (hR : xr_R L lim (T, C, q) mm ar ast ae (nI U) (nI A) hc (f1, f2, f3, f4, f5, f6, f7, f8, f9, f10, f11, f12, f13, f14, a1, a2, a3, a4, a5, a6, a7, a8, a9, a10, a11, a12, a13, a14, a15)) (hI : pi_I lim (T, C, q)) (h0 : T.1 = 0)
    (K : ∀ r T' ar' n u', pm_grp true C (A - U) (pm_len T + 1) 1 [] T = (r, T') → (∀ j, j < U → ar' j = ar j) → (∀ a, r = some a → xe_C ar' U a ∧ n = U + a.length) → xr_R L lim (T', C, q) mm ar' ast ae (nI n) (nI A) hc u' → post u') : wpX_readRestOfGroup post (f1, f2, f3, f4, f5, f6, f7, f8, f9, f10, f11, f12, f13, f14, a1, a2, a3, a4, a5, a6, a7, a8, a9, a10, a11, a12, a13, a14, a15) := by
  have hl := xe_len hI.1
  have hl' : pm_len T ≤ 512 := hl
  have h := xe_grpL hL hC hA hUA (pm_len T + 1) 1 [] T ar (pm_len T + 3) 0 _ _ _ _ _ _ _ _ _ _ _ _ _ _ _ _ _ _ _ _ _ _ _ _ _ _ _ _ _ (by omega) (by omega) (by omega) (by omega) (by omega) (by show 0 + _ ≤ _; omega) hR hI h0 (fun j hj => absurd hj (Nat.not_lt_zero _)) K
  rw [show nI 1 = (1 : Int32) from rfl, show nI 0 = (0 : Int32) from rfl] at h
  exact ⟨_, h⟩
def xe_spT (C : Nat → Nat) (f t : Nat) (T1 : pm_T) : Option Nat × pm_T := if pm_cat t = 4 then pm_sp C f T1 else (some t, T1)
theorem xe_spL {C : Nat → Nat} {q : (Nat → pm_Mn) × List pm_Sv × Nat × List Nat × List Nat × Nat} (hL : xr_I L) (hC : ∀ a, a < 128 → C a < 8) : ∀ (f t : Nat) (T : pm_T) (N step : Nat) (f1 f2 f3 f4 f5 f6 f7 f8 f9 f10 f11 f12 f13 f14 : Int32) (a1 a2 a3 a4 a5 a6 a7 a8 a9 a10 a11 a12 a13 a14 a15 : Nat → Int32), pm_len T < f → f < N → step + f ≤ 999999 → xr_R L lim (T, C, q) mm ar ast ae au al hc (f1, f2, f3, f4, f5, f6, f7, f8, f9, f10, f11, f12, f13, f14, a1, a2, a3, a4, a5, a6, a7, a8, a9, a10, a11, a12, a13, a14, a15) → pi_I lim (T, C, q) → T.1 = 0 → t < 2048 →
    (∀ t' T' u', xe_spT C f t T = (some t', T') → xr_R L lim (T', C, q) mm ar ast ae au al hc u' → (match u' with | (f_expansionLimit, f_expansionCount, f_state, f_inputLength, f_inputPosition, f_outputCount, f_pendingCount, f_namesUsed, f_saveCount, f_depth, f_conditionalCount, f_argumentsUsed, f_argumentsLimit, f_heldCount, a_input, a_output, a_pending, a_catcodes, a_nameChars, a_nameLengths, a_meanings, a_savedItems, a_savedLevels, a_savedCatcodes, a_conditionals, a_arguments, a_argumentStarts, a_argumentEnds, a_held) => wX_readUndelimitedArgument_43 post (nI t') (nI (pm_cat t')) f_expansionLimit f_expansionCount f_state f_inputLength f_inputPosition f_outputCount f_pendingCount f_namesUsed f_saveCount f_depth f_conditionalCount f_argumentsUsed f_argumentsLimit f_heldCount a_input a_output a_pending a_catcodes a_nameChars a_nameLengths a_meanings a_savedItems a_savedLevels a_savedCatcodes a_conditionals a_arguments a_argumentStarts a_argumentEnds a_held)) → (∀ T' u', xe_spT C f t T = (none, T') → xr_R L lim (T', C, q) mm ar ast ae au al hc u' → (match u' with | (f_expansionLimit, f_expansionCount, f_state, f_inputLength, f_inputPosition, f_outputCount, f_pendingCount, f_namesUsed, f_saveCount, f_depth, f_conditionalCount, f_argumentsUsed, f_argumentsLimit, f_heldCount, a_input, a_output, a_pending, a_catcodes, a_nameChars, a_nameLengths, a_meanings, a_savedItems, a_savedLevels, a_savedCatcodes, a_conditionals, a_arguments, a_argumentStarts, a_argumentEnds, a_held) => wX_readUndelimitedArgument_43 post (-1) 0 f_expansionLimit f_expansionCount f_state f_inputLength f_inputPosition f_outputCount f_pendingCount f_namesUsed f_saveCount f_depth f_conditionalCount f_argumentsUsed f_argumentsLimit f_heldCount a_input a_output a_pending a_catcodes a_nameChars a_nameLengths a_meanings a_savedItems a_savedLevels a_savedCatcodes a_conditionals a_arguments a_argumentStarts a_argumentEnds a_held)) →
    wX_readUndelimitedArgument_14 post N (nI t) (nI (pm_cat t)) (nI step) f1 f2 f3 f4 f5 f6 f7 f8 f9 f10 f11 f12 f13 f14 a1 a2 a3 a4 a5 a6 a7 a8 a9 a10 a11 a12 a13 a14 a15 := by
  intro f
  induction f with
  | zero => intro t T N step f1 f2 f3 f4 f5 f6 f7 f8 f9 f10 f11 f12 f13 f14 a1 a2 a3 a4 a5 a6 a7 a8 a9 a10 a11 a12 a13 a14 a15 h; omega
  | succ f ih =>
    intro t T N step f1 f2 f3 f4 f5 f6 f7 f8 f9 f10 f11 f12 f13 f14 a1 a2 a3 a4 a5 a6 a7 a8 a9 a10 a11 a12 a13 a14 a15 hf hN hst hR hI h0 ht K1 K0
    obtain ⟨N, rfl⟩ : ∃ m, N = m + 1 := ⟨N - 1, by omega⟩
    have hcat : pm_cat t < 8 := by unfold pm_cat; split <;> omega
    refine br_f (nI_ge (b := 1000000) (by omega) (by decide)) ?_
    by_cases h4 : pm_cat t = 4
    · refine br_t (by rw [h4]; rfl) ?_
      refine xt_take (e := 3) hL hR hI h0 (by decide) (fun t2 T1 u1 e1 hR1 => ?_) (fun T1 u1 e1 hR1 => ?_)
      · have e1' : pm_take 3 C T = (some t2, T1) := e1
        obtain ⟨p1, p2, p3, p4⟩ := pi_tk hI.1 hC h0 e1'
        have p4' : pm_len T1 + 1 ≤ pm_len T := p4
        have hb := xs_tok p1.1.1.2.1 p3
        have hI1 := pi_toI hI p1
        have es : xe_spT C (f + 1) t T = xe_spT C f t2 T1 := by
          unfold xe_spT
          rw [if_pos h4]
          simp only [pm_sp, e1']
        obtain ⟨f1, f2, f3, f4, f5, f6, f7, f8, f9, f10, f11, f12, f13, f14, a1, a2, a3, a4, a5, a6, a7, a8, a9, a10, a11, a12, a13, a14, a15⟩ := u1
        refine xh_cat (by omega) (nm_r (nI_1 _) ?_)
        exact ih t2 T1 N (step + 1) _ _ _ _ _ _ _ _ _ _ _ _ _ _ _ _ _ _ _ _ _ _ _ _ _ _ _ _ _ (by omega) (by omega) (by omega) hR1 hI1 p2 hb (fun t' T' u' z => K1 t' T' u' (by rw [es]; exact z)) (fun T' u' z => K0 T' u' (by rw [es]; exact z))
      · have e1' : pm_take 3 C T = (none, T1) := e1
        have k := K0 T1 u1 (by unfold xe_spT; rw [if_pos h4]; simp only [pm_sp, e1']) hR1
        obtain ⟨f1, f2, f3, f4, f5, f6, f7, f8, f9, f10, f11, f12, f13, f14, a1, a2, a3, a4, a5, a6, a7, a8, a9, a10, a11, a12, a13, a14, a15⟩ := u1
        obtain ⟨N, rfl⟩ : ∃ m, N = m + 1 := ⟨N - 1, by omega⟩
        have hm : (-1 : Int32) / 128 = 0 := by decide
        refine br_f (c := (1024 : Int32) ≤ -1) (by decide) ⟨by decide, nm_r (nI_1 _) ?_⟩
        rw [hm]
        exact br_f (nI_ge (b := 1000000) (by omega) (by decide)) (br_f (by decide) k)
    · have k := K1 t T (f1, f2, f3, f4, f5, f6, f7, f8, f9, f10, f11, f12, f13, f14, a1, a2, a3, a4, a5, a6, a7, a8, a9, a10, a11, a12, a13, a14, a15) (by unfold xe_spT; rw [if_neg h4]) hR
      exact br_f (fun z => h4 ((nI_eq (b := 4) (by omega) (by decide)).mp z)) k
theorem xe_und {C : Nat → Nat} {U A : Nat} {T : pm_T} {q : (Nat → pm_Mn) × List pm_Sv × Nat × List Nat × List Nat × Nat} (hL : xr_I L) (hC : ∀ a, a < 128 → C a < 8) (hA : A ≤ 272) (hUA : U ≤ A) (hR : xr_R L lim (T, C, q) mm ar ast ae (nI U) (nI A) hc (f1, f2, f3, f4, f5, f6, f7, f8, f9, f10, f11, f12, f13, f14, a1, a2, a3, a4, a5, a6, a7, a8, a9, a10, a11, a12, a13, a14, a15)) (hI : pi_I lim (T, C, q)) (h0 : T.1 = 0)
    (K : ∀ r T' ar' n u', pm_und true C (A - U) T = (r, T') → (∀ j, j < U → ar' j = ar j) → (∀ a, r = some a → xe_C ar' U a ∧ n = U + a.length) → xr_R L lim (T', C, q) mm ar' ast ae (nI n) (nI A) hc u' → post u') : wpX_readUndelimitedArgument post (f1, f2, f3, f4, f5, f6, f7, f8, f9, f10, f11, f12, f13, f14, a1, a2, a3, a4, a5, a6, a7, a8, a9, a10, a11, a12, a13, a14, a15) := by
  have hl : pm_len T ≤ 512 := xe_len hI.1
  unfold wpX_readUndelimitedArgument
  refine xt_take (e := 3) hL hR hI h0 (by decide) (fun t T1 u1 e1 hR1 => ?_) (fun T1 u1 e1 hR1 => ?_)
  · have e1' : pm_take 3 C T = (some t, T1) := e1
    obtain ⟨p1, p2, p3, p4⟩ := pi_tk hI.1 hC h0 e1'
    have p4' : pm_len T1 + 1 ≤ pm_len T := p4
    have hb := xs_tok p1.1.1.2.1 p3
    have hI1 := pi_toI hI p1
    have es : pm_sp C (pm_len T + 1) T = xe_spT C (pm_len T) t T1 := by
      simp only [pm_sp, e1']
      rfl
    obtain ⟨f1, f2, f3, f4, f5, f6, f7, f8, f9, f10, f11, f12, f13, f14, a1, a2, a3, a4, a5, a6, a7, a8, a9, a10, a11, a12, a13, a14, a15⟩ := u1
    refine xh_cat (by omega) ?_
    have h := xe_spL (post := post) hL hC (pm_len T) t T1 (pm_len T + 1) 0 _ _ _ _ _ _ _ _ _ _ _ _ _ _ _ _ _ _ _ _ _ _ _ _ _ _ _ _ _ (by omega) (by omega) (by omega) hR1 hI1 p2 hb (fun t' T2 u2 z hR2 => ?_) (fun T2 u2 z hR2 => ?_)
    · rw [show nI 0 = (0 : Int32) from rfl] at h
      exact ⟨_, h⟩
    · rw [← es] at z
      obtain ⟨s1, s2, s3⟩ := pi_sp hC _ _ _ _ hI.1 h0 (Nat.lt_succ_self _) z
      obtain ⟨s4, s5, s6⟩ := s2 t' rfl
      have hb2 := xs_tok s1.1.1.2.1 s5
      have hI2 := pi_toI hI s1
      have hcat : pm_cat t' < 8 := by unfold pm_cat; split <;> omega
      obtain ⟨f1, f2, f3, f4, f5, f6, f7, f8, f9, f10, f11, f12, f13, f14, a1, a2, a3, a4, a5, a6, a7, a8, a9, a10, a11, a12, a13, a14, a15⟩ := u2
      refine br_f (xh_n1 (by omega)) ?_
      by_cases c2 : pm_cat t' = 2
      · refine br_t (by rw [c2]; rfl) (K none (pm_err 8 T2) ar U _ ?_ (fun j _ => rfl) (fun a ha => (nomatch ha)) (xh_err (k := 8) (by decide) hR2))
        simp only [pm_und, z, if_pos c2]
      · refine br_f (fun y => c2 ((nI_eq (b := 2) (by omega) (by decide)).mp y)) ?_
        by_cases c1 : pm_cat t' = 1
        · refine br_t (by rw [c1]; rfl) (xe_grp hL hC hA hUA hR2 hI2 s4 fun r T' ar' n u3 q1 q2 q3 q4 => ?_)
          have := K r T' ar' n u3 (by simp only [pm_und, z, if_neg c2, if_pos c1]; exact q1) q2 q3 q4
          obtain ⟨f1, f2, f3, f4, f5, f6, f7, f8, f9, f10, f11, f12, f13, f14, a1, a2, a3, a4, a5, a6, a7, a8, a9, a10, a11, a12, a13, a14, a15⟩ := u3
          exact this
        · refine br_f (fun y => c1 ((nI_eq (b := 1) (by omega) (by decide)).mp y)) ?_
          refine xe_add (ob := 0) (acc := []) (U := U) (A := A) (by omega) hR2 (by show U + 0 < 2000; omega) (fun j hj => absurd hj (Nat.not_lt_zero _)) (fun h16 u3 hR3 => ?_) (fun h16 ar' u3 y1 y2 hR3 => ?_)
          · have h16' : A + 0 ≤ U + 0 := h16
            have := K none (pm_err 16 T2) ar U u3 (by simp only [pm_und, z, if_neg c2, if_neg c1]; rw [if_pos ⟨trivial, by omega⟩]) (fun j _ => rfl) (fun a ha => (nomatch ha)) hR3
            obtain ⟨f1, f2, f3, f4, f5, f6, f7, f8, f9, f10, f11, f12, f13, f14, a1, a2, a3, a4, a5, a6, a7, a8, a9, a10, a11, a12, a13, a14, a15⟩ := u3
            exact this
          · have h16' : ¬ A + 0 ≤ U + 0 := h16
            have := K (some [t']) T2 ar' (U + 1) u3 (by simp only [pm_und, z, if_neg c2, if_neg c1]; rw [if_neg (fun y => by have := y.2; omega)]) y2 (fun a ha => by cases ha; exact ⟨y1, rfl⟩) hR3
            obtain ⟨f1, f2, f3, f4, f5, f6, f7, f8, f9, f10, f11, f12, f13, f14, a1, a2, a3, a4, a5, a6, a7, a8, a9, a10, a11, a12, a13, a14, a15⟩ := u3
            exact this
    · rw [← es] at z
      have k := K none T2 ar U u2 (by simp only [pm_und, z]) (fun j _ => rfl) (fun a ha => (nomatch ha)) hR2
      obtain ⟨f1, f2, f3, f4, f5, f6, f7, f8, f9, f10, f11, f12, f13, f14, a1, a2, a3, a4, a5, a6, a7, a8, a9, a10, a11, a12, a13, a14, a15⟩ := u2
      exact br_t rfl k
  · have e1' : pm_take 3 C T = (none, T1) := e1
    have k := K none T1 ar U u1 (by simp only [pm_und, pm_sp, e1']) (fun j _ => rfl) (fun a ha => (nomatch ha)) hR1
    obtain ⟨f1, f2, f3, f4, f5, f6, f7, f8, f9, f10, f11, f12, f13, f14, a1, a2, a3, a4, a5, a6, a7, a8, a9, a10, a11, a12, a13, a14, a15⟩ := u1
    have hm : (-1 : Int32) / 128 = 0 := by decide
    refine br_f (c := (1024 : Int32) ≤ -1) (by decide) ⟨by decide, 1, ?_⟩
    rw [hm]
    exact br_f (by decide) (br_f (by decide) (br_t rfl k))
end XM
