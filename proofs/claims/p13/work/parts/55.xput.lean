section XU
variable {L : List Nat} {lim : Nat} {mm ar ast ae : Nat → Int32} {au al hc : Int32} {u : SX} {post : SX → Prop} {f1 f2 f3 f4 f5 f6 f7 f8 f9 f10 f11 f12 f13 f14 : Int32} {a1 a2 a3 a4 a5 a6 a7 a8 a9 a10 a11 a12 a13 a14 a15 : Nat → Int32}
theorem xu_any {k : Nat} {r1 p1 r2 p2 : List Nat} {ns : List (List Nat)} {Q : pm_Q} (hk : k ≠ 0) (h : xr_R L lim ((k, r1, p1, ns), Q) mm ar ast ae au al hc u) : xr_R L lim ((k, r2, p2, ns), Q) mm ar ast ae au al hc u := by
  obtain ⟨C, M, S, d, c, o, x⟩ := Q
  obtain ⟨ip, pc, inp, out, pend, cat, nch, nl, si, sl, sv, cd, held, e, h1, hs, h2⟩ := h
  exact ⟨ip, pc, inp, out, pend, cat, nch, nl, si, sl, sv, cd, held, e, h1, ⟨hs.1, fun z => absurd z hk⟩, h2⟩
theorem xu_pred {s : Nat} (h : s < 2 ^ 31) : nI s - 1 < nI s := by
  cases s with
  | zero => decide
  | succ s => rw [nI_pred]; exact nI_lt (Nat.lt_succ_self _) h
theorem xu_argL {Q : pm_Q} {k s : Nat} {a : List Nat} (hk : k < 10) (hs : ast k = nI s) (hb : s + a.length ≤ 274) (hA : ∀ j, j < a.length → ar (s + j) = nI (a.getD j 0)) : ∀ (i : Nat) (T : pm_T) (N : Nat) (f1 f2 f3 f4 f5 f6 f7 f8 f9 f10 f11 f12 f13 f14 : Int32) (a1 a2 a3 a4 a5 a6 a7 a8 a9 a10 a11 a12 a13 a14 a15 : Nat → Int32), i ≤ a.length → i < N → xr_R L lim (T, Q) mm ar ast ae au al hc (f1, f2, f3, f4, f5, f6, f7, f8, f9, f10, f11, f12, f13, f14, a1, a2, a3, a4, a5, a6, a7, a8, a9, a10, a11, a12, a13, a14, a15) → T.1 = 0 → T.2.2.1.length ≤ 256 →
    (i + T.2.2.1.length ≤ 256 → ∀ u', xr_R L lim (pm_fronts (a.take i) T, Q) mm ar ast ae au al hc u' → post u') → (256 < i + T.2.2.1.length → ∀ u', xr_R L lim (pm_err 16 T, Q) mm ar ast ae au al hc u' → post u') → wX_putArgumentInFront_9 post (nI k) N (nI (s + i) - 1) f1 f2 f3 f4 f5 f6 f7 f8 f9 f10 f11 f12 f13 f14 a1 a2 a3 a4 a5 a6 a7 a8 a9 a10 a11 a12 a13 a14 a15 := by
  intro i
  induction i with
  | zero =>
    intro T N f1 f2 f3 f4 f5 f6 f7 f8 f9 f10 f11 f12 f13 f14 a1 a2 a3 a4 a5 a6 a7 a8 a9 a10 a11 a12 a13 a14 a15 hi hN hR h0 hps K1 K2
    obtain ⟨N, rfl⟩ : ∃ m, N = m + 1 := ⟨N - 1, by omega⟩
    obtain ⟨z1, z2, z3, z4, z5, z6, z7, z8⟩ := xh_st hR
    subst z7
    refine ⟨vp_in_nI hk (by decide), br_t ?_ (K1 (by omega) _ hR)⟩
    rw [nI_clamp (by omega), hs]
    exact xu_pred (by omega)
  | succ i ih =>
    intro T N f1 f2 f3 f4 f5 f6 f7 f8 f9 f10 f11 f12 f13 f14 a1 a2 a3 a4 a5 a6 a7 a8 a9 a10 a11 a12 a13 a14 a15 hi hN hR h0 hps K1 K2
    obtain ⟨N, rfl⟩ : ∃ m, N = m + 1 := ⟨N - 1, by omega⟩
    obtain ⟨z1, z2, z3, z4, z5, z6, z7, z8⟩ := xh_st hR
    subst z6 z7
    have e : nI (s + (i + 1)) - 1 = nI (s + i) := nI_pred (s + i)
    rw [e]
    have hst : f3 = 0 := z1.trans (congrArg nI h0)
    refine ⟨vp_in_nI hk (by decide), br_f ?_ (br_t hst ⟨vp_in_nI (by omega) (by decide), ?_⟩)⟩
    · rw [nI_clamp (by omega), hs]
      exact nI_nlt (by omega) (by omega)
    · rw [nI_clamp (by omega), hA i (by omega)]
      have htk : a.take (i + 1) = a.take i ++ [a.getD i 0] := by
        rw [List.take_add_one, List.getD_eq_getElem?_getD, List.getElem?_eq_getElem (show i < a.length by omega)]
        rfl
      refine xq_put hR h0 hps (fun hlt u' hR' => ?_) (fun hge u' hR' => ?_)
      · obtain ⟨f1, f2, f3, f4, f5, f6, f7, f8, f9, f10, f11, f12, f13, f14, a1, a2, a3, a4, a5, a6, a7, a8, a9, a10, a11, a12, a13, a14, a15⟩ := u'
        refine nm_r (xg_m1 _) ?_
        have hl : (pm_front (a.getD i 0) T).2.2.1.length = T.2.2.1.length + 1 := rfl
        refine ih (pm_front (a.getD i 0) T) N _ _ _ _ _ _ _ _ _ _ _ _ _ _ _ _ _ _ _ _ _ _ _ _ _ _ _ _ _ (by omega) (by omega) hR' h0 (by rw [hl]; omega) (fun hle u'' h => K1 (by rw [hl] at hle; omega) u'' ?_) (fun hle u'' h => K2 (by rw [hl] at hle; omega) u'' (xu_any (by decide) h))
        have ef : pm_fronts (a.take (i + 1)) T = pm_fronts (a.take i) (pm_front (a.getD i 0) T) := by
          rw [htk]
          show (T.1, T.2.1, (a.take i ++ [a.getD i 0]) ++ T.2.2.1, T.2.2.2) = (T.1, T.2.1, a.take i ++ (a.getD i 0 :: T.2.2.1), T.2.2.2)
          rw [List.append_assoc]
          rfl
        rw [ef]
        exact h
      · have k := K2 (by omega) u' hR'
        obtain ⟨f1, f2, f3, f4, f5, f6, f7, f8, f9, f10, f11, f12, f13, f14, a1, a2, a3, a4, a5, a6, a7, a8, a9, a10, a11, a12, a13, a14, a15⟩ := u'
        obtain ⟨y1, y2, y3, y4, y5, y6, y7, y8⟩ := xh_st hR'
        refine nm_r (xg_m1 _) ?_
        obtain ⟨N, rfl⟩ : ∃ m, N = m + 1 := ⟨N - 1, by omega⟩
        refine ⟨vp_in_nI hk (by decide), br_c (fun _ => k) (fun _ => br_f ?_ k)⟩
        rw [y1]
        show ¬ nI 16 = 0
        decide
/-- the arguments as they lie -/
def xe_As (ar ast ae : Nat → Int32) (U : Nat) (as : List (List Nat)) : Prop := ∀ i, i < as.length → ∃ s, ast (i + 1) = nI s ∧ ae (i + 1) = nI (s + (as.getD i []).length) ∧ s + (as.getD i []).length ≤ U ∧ ∀ j, j < (as.getD i []).length → ar (s + j) = nI ((as.getD i []).getD j 0)
theorem xu_arg {T : pm_T} {Q : pm_Q} {as : List (List Nat)} {i U : Nat} (hi : i < as.length) (h8 : as.length ≤ 8) (hU : U ≤ 274) (hA : xe_As ar ast ae U as) (hR : xr_R L lim (T, Q) mm ar ast ae au al hc (f1, f2, f3, f4, f5, f6, f7, f8, f9, f10, f11, f12, f13, f14, a1, a2, a3, a4, a5, a6, a7, a8, a9, a10, a11, a12, a13, a14, a15)) (h0 : T.1 = 0) (hps : T.2.2.1.length ≤ 256)
    (K1 : (as.getD i []).length + T.2.2.1.length ≤ 256 → ∀ u', xr_R L lim (pm_fronts (as.getD i []) T, Q) mm ar ast ae au al hc u' → post u') (K2 : 256 < (as.getD i []).length + T.2.2.1.length → ∀ u', xr_R L lim (pm_err 16 T, Q) mm ar ast ae au al hc u' → post u') : wpX_putArgumentInFront post (f1, f2, f3, f4, f5, f6, f7, f8, f9, f10, f11, f12, f13, f14, a1, a2, a3, a4, a5, a6, a7, a8, a9, a10, a11, a12, a13, a14, a15) (nI (i + 1)) := by
  obtain ⟨s, s1, s2, s3, s4⟩ := hA i hi
  obtain ⟨z1, z2, z3, z4, z5, z6, z7, z8⟩ := xh_st hR
  subst z8
  refine ⟨vp_in_nI (by omega) (by decide), nm_e ⟨(as.getD i []).length + 1, ?_⟩⟩
  rw [nI_clamp (by omega), s2]
  refine xu_argL (by omega) s1 (by omega) s4 _ T _ _ _ _ _ _ _ _ _ _ _ _ _ _ _ _ _ _ _ _ _ _ _ _ _ _ _ _ _ _ (Nat.le_refl _) (Nat.lt_succ_self _) hR h0 hps (fun h u' hu => K1 h u' ?_) K2
  rw [List.take_length] at hu
  exact hu
theorem xu_sub {as : List (List Nat)} {l r : List Nat} : pm_sub as (l ++ r) = pm_sub as l ++ pm_sub as r := by
  unfold pm_sub
  rw [List.flatMap_append]
theorem xu_sub1 {as : List (List Nat)} {r : Nat} : pm_sub as [r] = if r < 2048 then [r] else as.getD (r - 2049) [] := by
  unfold pm_sub
  rw [List.flatMap_cons, List.flatMap_nil, List.append_nil]
theorem xu_repL {Q : pm_Q} {as : List (List Nat)} {rt : List Nat} {base U : Nat} (hb : base ≤ 1116) (h24 : rt.length ≤ 24) (h8 : as.length ≤ 8) (hU : U ≤ 274) (hA : xe_As ar ast ae U as) (hD : ∀ j, j < rt.length → mm (base + 12 + j) = nI (rt.getD j 0)) (hT : ∀ t, t ∈ rt → t < 2048 ∨ (2049 ≤ t ∧ t ≤ 2048 + as.length)) :
    ∀ (i : Nat) (T : pm_T) (N : Nat) (f1 f2 f3 f4 f5 f6 f7 f8 f9 f10 f11 f12 f13 f14 : Int32) (a1 a2 a3 a4 a5 a6 a7 a8 a9 a10 a11 a12 a13 a14 a15 : Nat → Int32), i ≤ rt.length → i < N → xr_R L lim (T, Q) mm ar ast ae au al hc (f1, f2, f3, f4, f5, f6, f7, f8, f9, f10, f11, f12, f13, f14, a1, a2, a3, a4, a5, a6, a7, a8, a9, a10, a11, a12, a13, a14, a15) → T.1 = 0 → T.2.2.1.length ≤ 256 →
    ((pm_sub as (rt.take i)).length + T.2.2.1.length ≤ 256 → ∀ u', xr_R L lim (pm_fronts (pm_sub as (rt.take i)) T, Q) mm ar ast ae au al hc u' → post u') → (256 < (pm_sub as (rt.take i)).length + T.2.2.1.length → ∀ u', xr_R L lim (pm_err 16 T, Q) mm ar ast ae au al hc u' → post u') → wX_putReplacementInFront_13 post (nI base) N (nI i - 1) f1 f2 f3 f4 f5 f6 f7 f8 f9 f10 f11 f12 f13 f14 a1 a2 a3 a4 a5 a6 a7 a8 a9 a10 a11 a12 a13 a14 a15 := by
  intro i
  induction i with
  | zero =>
    intro T N f1 f2 f3 f4 f5 f6 f7 f8 f9 f10 f11 f12 f13 f14 a1 a2 a3 a4 a5 a6 a7 a8 a9 a10 a11 a12 a13 a14 a15 hi hN hR h0 hps K1 K2
    obtain ⟨N, rfl⟩ : ∃ m, N = m + 1 := ⟨N - 1, by omega⟩
    exact br_t xg_neg (K1 (by show 0 + T.2.2.1.length ≤ 256; omega) _ hR)
  | succ i ih =>
    intro T N f1 f2 f3 f4 f5 f6 f7 f8 f9 f10 f11 f12 f13 f14 a1 a2 a3 a4 a5 a6 a7 a8 a9 a10 a11 a12 a13 a14 a15 hi hN hR h0 hps K1 K2
    obtain ⟨N, rfl⟩ : ∃ m, N = m + 1 := ⟨N - 1, by omega⟩
    obtain ⟨z1, z2, z3, z4, z5, z6, z7, z8⟩ := xh_st hR
    subst z2
    have hst : f3 = 0 := z1.trans (congrArg nI h0)
    rw [nI_pred]
    have e : nI base + 12 + nI i = nI (base + 12 + i) := by
      have : nI base + 12 = nI (base + 12) := nI_add base 12
      rw [this, nI_add]
    refine br_f (nI_pos (by omega)) (br_t hst ⟨by rw [e]; exact vp_in_nI (by omega) (by decide), ?_⟩)
    rw [e, nI_clamp (by omega), hD i (by omega)]
    refine nm_e ?_
    have htk : rt.take (i + 1) = rt.take i ++ [rt.getD i 0] := by
      rw [List.take_add_one, List.getD_eq_getElem?_getD, List.getElem?_eq_getElem (show i < rt.length by omega)]
      rfl
    have hmem : rt.getD i 0 ∈ rt := by
      rw [List.getD_eq_getElem?_getD, List.getElem?_eq_getElem (show i < rt.length by omega)]
      exact List.getElem_mem _
    have hr := hT _ hmem
    rw [htk, xu_sub, xu_sub1] at K1 K2
    generalize rt.getD i 0 = r at hr K1 K2
    -- what happens behind a piece that was put in front, or that was too long
    have go : ∀ (pc : List Nat) u', pc.length + T.2.2.1.length ≤ 256 → xr_R L lim (pm_fronts pc T, Q) a7 ar ast ae au al hc u' → ((pm_sub as (rt.take i) ++ pc).length + T.2.2.1.length ≤ 256 → ∀ u', xr_R L lim (pm_fronts (pm_sub as (rt.take i) ++ pc) T, Q) a7 ar ast ae au al hc u' → post u') → (256 < (pm_sub as (rt.take i) ++ pc).length + T.2.2.1.length → ∀ u', xr_R L lim (pm_err 16 T, Q) a7 ar ast ae au al hc u' → post u') → (match u' with | (f_expansionLimit, f_expansionCount, f_state, f_inputLength, f_inputPosition, f_outputCount, f_pendingCount, f_namesUsed, f_saveCount, f_depth, f_conditionalCount, f_argumentsUsed, f_argumentsLimit, f_heldCount, a_input, a_output, a_pending, a_catcodes, a_nameChars, a_nameLengths, a_meanings, a_savedItems, a_savedLevels, a_savedCatcodes, a_conditionals, a_arguments, a_argumentStarts, a_argumentEnds, a_held) => ∀ y : Int32, y = nI i + (-1) → wX_putReplacementInFront_13 post (nI base) N y f_expansionLimit f_expansionCount f_state f_inputLength f_inputPosition f_outputCount f_pendingCount f_namesUsed f_saveCount f_depth f_conditionalCount f_argumentsUsed f_argumentsLimit f_heldCount a_input a_output a_pending a_catcodes a_nameChars a_nameLengths a_meanings a_savedItems a_savedLevels a_savedCatcodes a_conditionals a_arguments a_argumentStarts a_argumentEnds a_held) := fun pc u' hpl hR' k1 k2 => by
      obtain ⟨f1, f2, f3, f4, f5, f6, f7, f8, f9, f10, f11, f12, f13, f14, a1, a2, a3, a4, a5, a6, a7, a8, a9, a10, a11, a12, a13, a14, a15⟩ := u'
      refine nm_r (xg_m1 _) ?_
      have hl : (pm_fronts pc T).2.2.1.length = pc.length + T.2.2.1.length := List.length_append
      refine ih (pm_fronts pc T) N _ _ _ _ _ _ _ _ _ _ _ _ _ _ _ _ _ _ _ _ _ _ _ _ _ _ _ _ _ (by omega) (by omega) hR' h0 (by omega) (fun hle u'' h => k1 (by rw [List.length_append]; omega) u'' ?_) (fun hle u'' h => k2 (by rw [List.length_append]; omega) u'' (xu_any (by decide) h))
      have ef : pm_fronts (pm_sub as (rt.take i) ++ pc) T = pm_fronts (pm_sub as (rt.take i)) (pm_fronts pc T) := by
        show (T.1, T.2.1, (pm_sub as (rt.take i) ++ pc) ++ T.2.2.1, T.2.2.2) = (T.1, T.2.1, pm_sub as (rt.take i) ++ (pc ++ T.2.2.1), T.2.2.2)
        rw [List.append_assoc]
      rw [ef]
      exact h
    have stop : ∀ u', xr_R L lim (pm_err 16 T, Q) a7 ar ast ae au al hc u' → post u' → (match u' with | (f_expansionLimit, f_expansionCount, f_state, f_inputLength, f_inputPosition, f_outputCount, f_pendingCount, f_namesUsed, f_saveCount, f_depth, f_conditionalCount, f_argumentsUsed, f_argumentsLimit, f_heldCount, a_input, a_output, a_pending, a_catcodes, a_nameChars, a_nameLengths, a_meanings, a_savedItems, a_savedLevels, a_savedCatcodes, a_conditionals, a_arguments, a_argumentStarts, a_argumentEnds, a_held) => ∀ y : Int32, y = nI i + (-1) → wX_putReplacementInFront_13 post (nI base) N y f_expansionLimit f_expansionCount f_state f_inputLength f_inputPosition f_outputCount f_pendingCount f_namesUsed f_saveCount f_depth f_conditionalCount f_argumentsUsed f_argumentsLimit f_heldCount a_input a_output a_pending a_catcodes a_nameChars a_nameLengths a_meanings a_savedItems a_savedLevels a_savedCatcodes a_conditionals a_arguments a_argumentStarts a_argumentEnds a_held) := fun u' hR' k => by
      obtain ⟨f1, f2, f3, f4, f5, f6, f7, f8, f9, f10, f11, f12, f13, f14, a1, a2, a3, a4, a5, a6, a7, a8, a9, a10, a11, a12, a13, a14, a15⟩ := u'
      obtain ⟨y1, y2⟩ := xh_st hR'
      obtain ⟨N, rfl⟩ : ∃ m, N = m + 1 := ⟨N - 1, by omega⟩
      refine nm_e (br_c (fun _ => k) (fun _ => br_f ?_ k))
      rw [y1]
      show ¬ nI 16 = 0
      decide
    by_cases hlt : r < 2048
    · rw [if_pos hlt] at K1 K2
      refine br_t (nI_le (b := 2048) (by omega) (by decide)) ?_
      refine xq_put hR h0 hps (fun hp u' hR' => ?_) (fun hp u' hR' => ?_)
      · exact go [r] u' (by show 1 + _ ≤ _; omega) hR' K1 K2
      · exact stop u' hR' (K2 (by rw [List.length_append]; show 256 < _ + 1 + _; omega) u' hR')
    · rw [if_neg hlt] at K1 K2
      have hr2 := hr.resolve_left hlt
      refine br_f (nI_ge (a := 2048) (by omega) (by omega)) ?_
      have e3 : nI r - 2048 = nI (r - 2049 + 1) := by
        have : nI r - 2048 = nI (r - 2048) := pk_sub (b := 2048) (by omega)
        rw [this, show r - 2048 = r - 2049 + 1 from by omega]
      rw [e3]
      refine xu_arg (by omega) h8 hU hA hR h0 hps (fun hp u' hR' => ?_) (fun hp u' hR' => ?_)
      · exact go _ u' hp hR' K1 K2
      · exact stop u' hR' (K2 (by rw [List.length_append]; omega) u' hR')
end XU
