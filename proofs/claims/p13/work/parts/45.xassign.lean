section XA
variable {L : List Nat} {lim : Nat} {mm ar ast ae : Nat → Int32} {au al hc : Int32} {u : SX}
theorem xa_push {si sl sv si' sl' sv' mm mm' : Nat → Int32} {S : List pm_Sv} {s : pm_Sv} (h : xr_V si sl sv mm S) (e1 : si' = upd si S.length (nI s.1)) (e2 : sl' = upd sl S.length (nI s.2.1)) (e3 : ∀ j, j < S.length → sv' j = sv j) (e4 : ∀ j, 1152 ≤ j → j < 1152 + S.length * 36 → mm' j = mm j) (e5 : s.1 < 32 → xr_M mm' (32 + S.length) s.2.2.1) (e6 : 32 ≤ s.1 → sv' S.length = nI s.2.2.2) : xr_V si' sl' sv' mm' (s :: S) := by
  subst e1 e2
  exact ⟨⟨pk_us, pk_us, e5, e6⟩, xr_V_mm S e4 (xr_V_fr S (fun j hj => ⟨pk_un (by omega), pk_un (by omega), e3 j hj⟩) h)⟩
theorem xa_save {post : Int32 → SX → Prop} {T : pm_T} {C : Nat → Nat} {M : Nat → pm_Mn} {S : List pm_Sv} {d i : Nat} {q : List Nat × List Nat × Nat} (hR : xr_R L lim (T, C, M, S, d, q) mm ar ast ae au al hc u) (hI : pi_I lim (T, C, M, S, d, q)) (hi : i < 160)
    (K1 : (d = 0 ∨ pm_sav i d S = true) → post 1 u) (K2 : ¬ (d = 0 ∨ pm_sav i d S = true) → 32 ≤ S.length → ∀ u', xr_R L lim (pm_err 11 T, C, M, S, d, q) mm ar ast ae au al hc u' → post 0 u')
    (K3 : ¬ (d = 0 ∨ pm_sav i d S = true) → ¬ 32 ≤ S.length → ∀ mm' u', (∀ j, 2304 ≤ j → mm' j = mm j) → xr_R L lim (T, C, M, (i, d, M i, C (i - 32)) :: S, d, q) mm' ar ast ae au al hc u' → post 1 u') : wpX_saveItem post u (nI i) := by
  obtain ⟨st, rest, ps, ns⟩ := T
  obtain ⟨c, o, x⟩ := q
  have hR' := hR
  obtain ⟨ip, pc, inp, out, pend, cat, nch, nl, si, sl, sv, cd, held, rfl, h1, hs, h2, h3, h4, h5, h6, h7⟩ := hR
  obtain ⟨hT, i1, i2, i3, i4, i5, i6, i7⟩ := hI
  by_cases h0 : d = 0
  · subst h0
    exact br_t rfl (K1 (Or.inl rfl))
  · refine br_f (nI_ne0 (by omega) (by omega)) ?_
    refine xg_sav i6 hi i3 h6 i4 (fun z => br_f ci_10 (K1 (Or.inr z))) (fun z => br_t rfl ?_)
    have hn : ¬ (d = 0 ∨ pm_sav i d S = true) := fun q => q.elim h0 z
    by_cases h32 : 32 ≤ S.length
    · refine br_f (nI_nlt (b := 32) h32 (by omega)) (K2 hn h32 _ ?_)
      exact xh_err (k := 11) (by decide) hR'
    · have v : vp_in (nI S.length) 32 := vp_in_nI (by omega) (by decide)
      have cl : (nI S.length).toNatClampNeg = S.length := nI_clamp (by omega)
      refine br_t (nI_lt (b := 32) (by omega) (by decide)) ⟨v, fun si' e1 => ⟨v, fun sl' e2 => ?_⟩⟩
      rw [cl] at e1 e2
      by_cases hlt : i < 32
      · refine br_f (nI_ge (b := 32) hlt (by decide)) ?_
        have e32 : (32 : Int32) + nI S.length = nI (32 + S.length) := nI_add 32 _
        rw [e32]
        refine xs_copy (by omega) (by omega) (by omega) fun mm' hcp => nm_r (nI_1 _) ?_
        refine K3 hn h32 mm' _ (fun j hj => hcp.2 j (by omega)) ⟨ip, pc, inp, out, pend, cat, nch, nl, si', sl', sv, cd, held, rfl, h1, hs, h2, h3, h4, fun y hy => xr_cp_ne hcp (by omega) (h5 y hy), ?_, h7⟩
        exact xa_push (s := (i, d, M i, C (i - 32))) h6 e1 e2 (fun j hj => rfl) (fun j g1 g2 => hcp.2 j (by omega)) (fun _ => xr_cp_to hcp (h5 i hlt)) (fun z => absurd z (by show ¬ 32 ≤ i; omega))
      · have e3 : nI i - 32 = nI (i - 32) := pk_sub (b := 32) (by omega)
        refine br_t (nI_le (a := 32) (by omega) (by omega)) ⟨by rw [e3]; exact vp_in_nI (by omega) (by decide), v, fun sv' e4 => nm_r (nI_1 _) ?_⟩
        rw [e3, cl, nI_clamp (by omega), h3 _ (by omega)] at e4
        refine K3 hn h32 mm _ (fun j hj => rfl) ⟨ip, pc, inp, out, pend, cat, nch, nl, si', sl', sv', cd, held, rfl, h1, hs, h2, h3, h4, h5, ?_, h7⟩
        refine xa_push (s := (i, d, M i, C (i - 32))) h6 e1 e2 (fun j hj => by rw [e4, pk_un (by omega)]) (fun j g1 g2 => rfl) (fun z => absurd z (by show ¬ i < 32; omega)) (fun _ => by rw [e4, pk_us])
theorem xa_sl (i k : Nat) (m : pm_Mn) (S : List pm_Sv) : (pm_setAll i m k S).length = S.length := List.length_map ..
theorem xa_sc {i k : Nat} {m : pm_Mn} {s : pm_Sv} {S : List pm_Sv} : pm_setAll i m k (s :: S) = (if s.1 = i then (s.1, s.2.1, m, k) else s) :: pm_setAll i m k S := rfl
end XA
section XA2
variable {f_expansionLimit f_expansionCount f_state f_inputLength f_inputPosition f_outputCount f_pendingCount f_namesUsed f_saveCount f_depth f_conditionalCount f_argumentsUsed f_argumentsLimit f_heldCount : Int32} {a_input a_output a_pending a_catcodes a_nameChars a_nameLengths a_meanings a_savedItems a_savedLevels a_savedCatcodes a_conditionals a_arguments a_argumentStarts a_argumentEnds a_held : Nat → Int32}
variable {post : SX → Prop}
theorem xa_globM {M : Nat → pm_Mn} {i : Nat} {m : pm_Mn} (hi : i < 32) : ∀ (R B : List pm_Sv) (n : Nat) (mm : Nat → Int32), R.length < n → (R.reverse ++ B).length ≤ 32 → xr_V a_savedItems a_savedLevels a_savedCatcodes mm (R.reverse ++ pm_setAll i m 0 B) → xr_M mm 64 m → xg_MM mm M → (∀ s, s ∈ R → s.1 < 160) →
    (∀ mm' : Nat → Int32, xr_V a_savedItems a_savedLevels a_savedCatcodes mm' (pm_setAll i m 0 (R.reverse ++ B)) → xr_M mm' 64 m → xg_MM mm' M → wX_assignMeaning_52 post (nI i) f_expansionLimit f_expansionCount f_state f_inputLength f_inputPosition f_outputCount f_pendingCount f_namesUsed (nI (R.reverse ++ B).length) f_depth f_conditionalCount f_argumentsUsed f_argumentsLimit f_heldCount a_input a_output a_pending a_catcodes a_nameChars a_nameLengths mm' a_savedItems a_savedLevels a_savedCatcodes a_conditionals a_arguments a_argumentStarts a_argumentEnds a_held) →
    wX_assignMeaning_6 post (nI i) n (nI B.length) f_expansionLimit f_expansionCount f_state f_inputLength f_inputPosition f_outputCount f_pendingCount f_namesUsed (nI (R.reverse ++ B).length) f_depth f_conditionalCount f_argumentsUsed f_argumentsLimit f_heldCount a_input a_output a_pending a_catcodes a_nameChars a_nameLengths mm a_savedItems a_savedLevels a_savedCatcodes a_conditionals a_arguments a_argumentStarts a_argumentEnds a_held := by
  intro R
  induction R with
  | nil =>
    intro B n mm hn hl hV h64 hM hs K
    obtain ⟨n, rfl⟩ : ∃ m, n = m + 1 := ⟨n - 1, by omega⟩
    have hl' : B.length ≤ 32 := hl
    exact br_t (nI_le (Nat.le_refl _) (by omega)) (K mm hV h64 hM)
  | cons s R ih =>
    intro B n mm hn hl hV h64 hM hs K
    obtain ⟨n, rfl⟩ : ∃ m, n = m + 1 := ⟨n - 1, by omega⟩
    have hn' : R.length + 1 < n + 1 := hn
    have er : (s :: R).reverse ++ B = R.reverse ++ (s :: B) := by rw [List.reverse_cons, List.append_assoc]; rfl
    have er2 : (s :: R).reverse ++ pm_setAll i m 0 B = R.reverse ++ (s :: pm_setAll i m 0 B) := by rw [List.reverse_cons, List.append_assoc]; rfl
    rw [er] at hl K ⊢
    rw [er2] at hV
    have hB : B.length + 1 ≤ 32 := by
      rw [List.length_append] at hl
      have : (s :: B).length = B.length + 1 := rfl
      omega
    have hlt : B.length < (R.reverse ++ s :: B).length := by
      rw [List.length_append]
      have : (s :: B).length = B.length + 1 := rfl
      omega
    obtain ⟨v1, v2, v3, v4⟩ := xr_V_mid _ hV
    rw [xa_sl] at v1 v2 v3 v4
    have cl : (nI B.length).toNatClampNeg = B.length := nI_clamp (by omega)
    have hs1 := hs s List.mem_cons_self
    have hs2 : ∀ r, r ∈ R → r.1 < 160 := fun r hr => hs r (List.mem_cons_of_mem _ hr)
    refine br_f (nI_ge hlt (by omega)) ⟨vp_in_nI (by omega) (by decide), ?_⟩
    rw [cl, v1]
    by_cases e : s.1 = i
    · refine br_t (by rw [e]) ?_
      have e32 : (32 : Int32) + nI B.length = nI (32 + B.length) := nI_add 32 _
      rw [e32]
      refine xs_copy (f := 64) (by decide) (by omega) (by omega) fun mm' hcp => nm_r (nI_1 _) ?_
      refine ih (s :: B) n mm' (by omega) hl ?_ (xr_cp_ne hcp (by omega) h64) (fun y hy => xr_cp_ne hcp (by omega) (hM y hy)) hs2 K
      rw [xa_sc, if_pos e]
      refine xr_V_set (s := s) (s' := (s.1, s.2.1, m, 0)) (mm := mm) rfl rfl (fun j hj => hcp.2 j (by rw [xa_sl] at hj; omega)) (fun j _ => rfl) (fun _ => by rw [xa_sl]; exact xr_cp_to hcp h64) (fun z => absurd z (by omega)) _ hV
    · refine br_f (fun z => e ((nI_eq (by omega) (by omega)).mp z)) (nm_r (nI_1 _) ?_)
      refine ih (s :: B) n mm (by omega) hl ?_ h64 hM hs2 K
      rw [xa_sc, if_neg e]
      exact hV
theorem xa_globC {C : Nat → Nat} {c k : Nat} {m : pm_Mn} (hc : c < 128) (hk : k < 8) (hC : ∀ j, j < 128 → a_catcodes j = nI (C j)) : ∀ (R B : List pm_Sv) (n : Nat) (sv : Nat → Int32), R.length < n → (R.reverse ++ B).length ≤ 32 → xr_V a_savedItems a_savedLevels sv a_meanings (R.reverse ++ pm_setAll (32 + c) m k B) → (∀ s, s ∈ R → s.1 < 160) →
    (∀ sv' cat' : Nat → Int32, xr_V a_savedItems a_savedLevels sv' a_meanings (pm_setAll (32 + c) m k (R.reverse ++ B)) → (∀ j, j < 128 → cat' j = nI (pm_upF C c k j)) → post (f_expansionLimit, f_expansionCount, f_state, f_inputLength, f_inputPosition, f_outputCount, f_pendingCount, f_namesUsed, nI (R.reverse ++ B).length, f_depth, f_conditionalCount, f_argumentsUsed, f_argumentsLimit, f_heldCount, a_input, a_output, a_pending, cat', a_nameChars, a_nameLengths, a_meanings, a_savedItems, a_savedLevels, sv', a_conditionals, a_arguments, a_argumentStarts, a_argumentEnds, a_held)) →
    wX_assignCatcode_13 post (nI c) (nI k) (nI (32 + c)) f_expansionLimit f_expansionCount f_state f_inputLength f_inputPosition f_outputCount f_pendingCount f_namesUsed (nI (R.reverse ++ B).length) f_depth f_conditionalCount f_argumentsUsed f_argumentsLimit f_heldCount n (nI B.length) a_input a_output a_pending a_catcodes a_nameChars a_nameLengths a_meanings a_savedItems a_savedLevels sv a_conditionals a_arguments a_argumentStarts a_argumentEnds a_held := by
  intro R
  induction R with
  | nil =>
    intro B n sv hn hl hV hs K
    obtain ⟨n, rfl⟩ : ∃ m, n = m + 1 := ⟨n - 1, by omega⟩
    have hl' : B.length ≤ 32 := hl
    refine br_t (nI_le (Nat.le_refl _) (by omega)) ⟨vp_in_nI hc (by decide), fun cat' q => K sv cat' hV ?_⟩
    rw [nI_clamp (by omega)] at q
    subst q
    exact xg_C_up hC
  | cons s R ih =>
    intro B n sv hn hl hV hs K
    obtain ⟨n, rfl⟩ : ∃ m, n = m + 1 := ⟨n - 1, by omega⟩
    have hn' : R.length + 1 < n + 1 := hn
    have er : (s :: R).reverse ++ B = R.reverse ++ (s :: B) := by rw [List.reverse_cons, List.append_assoc]; rfl
    have er2 : (s :: R).reverse ++ pm_setAll (32 + c) m k B = R.reverse ++ (s :: pm_setAll (32 + c) m k B) := by rw [List.reverse_cons, List.append_assoc]; rfl
    rw [er] at hl K ⊢
    rw [er2] at hV
    have hB : B.length + 1 ≤ 32 := by
      rw [List.length_append] at hl
      have : (s :: B).length = B.length + 1 := rfl
      omega
    have hlt : B.length < (R.reverse ++ s :: B).length := by
      rw [List.length_append]
      have : (s :: B).length = B.length + 1 := rfl
      omega
    obtain ⟨v1, v2, v3, v4⟩ := xr_V_mid _ hV
    rw [xa_sl] at v1 v2 v3 v4
    have cl : (nI B.length).toNatClampNeg = B.length := nI_clamp (by omega)
    have hs1 := hs s List.mem_cons_self
    have hs2 : ∀ r, r ∈ R → r.1 < 160 := fun r hr => hs r (List.mem_cons_of_mem _ hr)
    have v : vp_in (nI B.length) 32 := vp_in_nI (by omega) (by decide)
    refine br_f (nI_ge hlt (by omega)) ⟨v, ?_⟩
    rw [cl, v1]
    by_cases e : s.1 = 32 + c
    · refine br_t (by rw [e]) ⟨v, fun sv' q => nm_r (nI_1 _) ?_⟩
      subst q
      refine ih (s :: B) n _ (by omega) hl ?_ hs2 K
      rw [xa_sc, if_pos e]
      refine xr_V_set (s := s) (s' := (s.1, s.2.1, m, k)) (sc := sv) rfl rfl (fun j hj => rfl) (fun j hj => pk_un (by rw [xa_sl] at hj; exact hj)) (fun z => absurd z (by omega)) (fun _ => by rw [xa_sl]; exact pk_us) _ hV
    · refine br_f (fun z => e ((nI_eq (by omega) (by omega)).mp z)) (nm_r (nI_1 _) ?_)
      refine ih (s :: B) n sv (by omega) hl ?_ hs2 K
      rw [xa_sc, if_neg e]
      exact hV
end XA2
section XA3
variable {L : List Nat} {lim : Nat} {mm ar ast ae : Nat → Int32} {au al hc : Int32} {u : SX} {post : SX → Prop}
/-- a truth value as the class keeps it -/
def xa_b (g : Bool) : Int32 := if g = true then 1 else 0
theorem xa_asgM {g : Bool} {i : Nat} {m : pm_Mn} {P : pm_P} (hR : xr_R L lim P mm ar ast ae au al hc u) (hI : pi_I lim P) (hi : i < 32) (hm : xr_M mm 64 m) (K : ∀ mm' u', xr_R L lim (pm_assign g i m 0 P) mm' ar ast ae au al hc u' → post u') : wpX_assignMeaning post u (nI i) (xa_b g) := by
  obtain ⟨T, C, M, S, d, q⟩ := P
  have hfin : ∀ {T' : pm_T} {S' : List pm_Sv} {mm1 : Nat → Int32} {u1 : SX}, xr_R L lim (T', C, M, S', d, q) mm1 ar ast ae au al hc u1 → xr_M mm1 64 m → (∀ mm' u', xr_R L lim (T', C, pm_upF M i m, S', d, q) mm' ar ast ae au al hc u' → post u') → (match u1 with | (f_expansionLimit, f_expansionCount, f_state, f_inputLength, f_inputPosition, f_outputCount, f_pendingCount, f_namesUsed, f_saveCount, f_depth, f_conditionalCount, f_argumentsUsed, f_argumentsLimit, f_heldCount, a_input, a_output, a_pending, a_catcodes, a_nameChars, a_nameLengths, a_meanings, a_savedItems, a_savedLevels, a_savedCatcodes, a_conditionals, a_arguments, a_argumentStarts, a_argumentEnds, a_held) => wX_assignMeaning_52 post (nI i) f_expansionLimit f_expansionCount f_state f_inputLength f_inputPosition f_outputCount f_pendingCount f_namesUsed f_saveCount f_depth f_conditionalCount f_argumentsUsed f_argumentsLimit f_heldCount a_input a_output a_pending a_catcodes a_nameChars a_nameLengths a_meanings a_savedItems a_savedLevels a_savedCatcodes a_conditionals a_arguments a_argumentStarts a_argumentEnds a_held) := fun {T' S' mm1 u1} g1 g2 g3 => by
    obtain ⟨st, rest, ps, ns⟩ := T'
    obtain ⟨c, o, x⟩ := q
    obtain ⟨ip, pc, inp, out, pend, cat, nch, nl, si, sl, sv, cd, held, rfl, h1, hs, h2, h3, h4, h5, h6, h7⟩ := g1
    refine xs_copy (f := 64) (by decide) (by omega) (by omega) fun mm' hcp => g3 mm' _ ⟨ip, pc, inp, out, pend, cat, nch, nl, si, sl, sv, cd, held, rfl, h1, hs, h2, h3, h4, xg_MM_up h5 hcp g2, xg_V_cp hcp (Or.inl hi) h6, h7⟩
  cases g with
  | false =>
    have K' := K
    simp only [pm_assign, if_pos hi] at K'
    rw [if_neg (by decide)] at K'
    obtain ⟨f1, f2, f3, f4, f5, f6, f7, f8, f9, f10, f11, f12, f13, f14, a1, a2, a3, a4, a5, a6, a7, a8, a9, a10, a11, a12, a13, a14, a15⟩ := u
    refine br_t rfl (xa_save hR hI (by omega) (fun z => ?_) (fun z z2 u' hu => ?_) (fun z z2 mm' u' hmm hu => ?_))
    · rw [if_pos z] at K'
      exact br_f ci_10 (hfin hR hm K')
    · rw [if_neg z, if_pos z2] at K'
      have := K' mm u' hu
      obtain ⟨f1, f2, f3, f4, f5, f6, f7, f8, f9, f10, f11, f12, f13, f14, a1, a2, a3, a4, a5, a6, a7, a8, a9, a10, a11, a12, a13, a14, a15⟩ := u'
      exact br_t rfl this
    · rw [if_neg z, if_neg z2] at K'
      have := hfin hu (fun y hy => (hmm _ (by omega)).trans (hm y hy)) K'
      obtain ⟨f1, f2, f3, f4, f5, f6, f7, f8, f9, f10, f11, f12, f13, f14, a1, a2, a3, a4, a5, a6, a7, a8, a9, a10, a11, a12, a13, a14, a15⟩ := u'
      exact br_f ci_10 this
  | true =>
    have K' := K
    simp only [pm_assign, if_pos hi] at K'
    rw [if_pos trivial] at K'
    obtain ⟨st, rest, ps, ns⟩ := T
    obtain ⟨c, o, x⟩ := q
    obtain ⟨ip, pc, inp, out, pend, cat, nch, nl, si, sl, sv, cd, held, rfl, h1, hs, h2, h3, h4, h5, h6, h7⟩ := hR
    obtain ⟨hT, i1, i2, i3, i4, i5, i6, i7⟩ := hI
    refine br_f ci_10 ⟨S.length + 1, ?_⟩
    have rr : S.reverse.reverse ++ [] = S := by rw [List.reverse_reverse, List.append_nil]
    rw [show nI S.length = nI (S.reverse.reverse ++ []).length from by rw [rr]]
    refine xa_globM (M := M) (m := m) hi S.reverse [] (S.length + 1) mm (by rw [List.length_reverse]; omega) (by rw [rr]; exact i3) (by
      show xr_V si sl sv mm (S.reverse.reverse ++ [])
      rw [rr]; exact h6) hm h5 (fun s hs => (i4 s (List.mem_reverse.mp hs)).1) (fun mm' k1 k2 k3 => ?_)
    rw [rr] at k1 ⊢
    exact hfin (T' := (st, rest, ps, ns)) (S' := pm_setAll i m 0 S) (mm1 := mm') (u1 := (nI lim, nI x, nI st, nI L.length, ip, nI o.length, pc, nI ns.length, nI S.length, nI d, nI c.length, au, al, hc, inp, out, pend, cat, nch, nl, mm', si, sl, sv, cd, ar, ast, ae, held)) ⟨ip, pc, inp, out, pend, cat, nch, nl, si, sl, sv, cd, held, by rw [xa_sl], h1, hs, h2, h3, h4, k3, k1, h7⟩ k2 K'
end XA3
section XA4
variable {L : List Nat} {lim : Nat} {mm ar ast ae : Nat → Int32} {au al hc : Int32} {u : SX} {post : SX → Prop}
theorem xa_asgC {g : Bool} {cc k : Nat} {m : pm_Mn} {P : pm_P} (hR : xr_R L lim P mm ar ast ae au al hc u) (hI : pi_I lim P) (hcc : cc < 128) (hk : k < 8) (K : ∀ mm' u', xr_R L lim (pm_assign g (32 + cc) m k P) mm' ar ast ae au al hc u' → post u') : wpX_assignCatcode post u (nI cc) (nI k) (xa_b g) := by
  obtain ⟨T, C, M, S, d, q⟩ := P
  have e32 : (32 : Int32) + nI cc = nI (32 + cc) := nI_add 32 _
  have ec : 32 + cc - 32 = cc := by omega
  have hn32 : ¬ 32 + cc < 32 := by omega
  have hfin : ∀ {T' : pm_T} {S' : List pm_Sv} {mm1 : Nat → Int32} {u1 : SX}, xr_R L lim (T', C, M, S', d, q) mm1 ar ast ae au al hc u1 → (∀ mm' u', xr_R L lim (T', pm_upF C cc k, M, S', d, q) mm' ar ast ae au al hc u' → post u') → (match u1 with | (f_expansionLimit, f_expansionCount, f_state, f_inputLength, f_inputPosition, f_outputCount, f_pendingCount, f_namesUsed, f_saveCount, f_depth, f_conditionalCount, f_argumentsUsed, f_argumentsLimit, f_heldCount, a_input, a_output, a_pending, a_catcodes, a_nameChars, a_nameLengths, a_meanings, a_savedItems, a_savedLevels, a_savedCatcodes, a_conditionals, a_arguments, a_argumentStarts, a_argumentEnds, a_held) => vp_in (nI cc) 128 ∧ ∀ cat' : Nat → Int32, cat' = upd a_catcodes (nI cc).toNatClampNeg (nI k) → post (f_expansionLimit, f_expansionCount, f_state, f_inputLength, f_inputPosition, f_outputCount, f_pendingCount, f_namesUsed, f_saveCount, f_depth, f_conditionalCount, f_argumentsUsed, f_argumentsLimit, f_heldCount, a_input, a_output, a_pending, cat', a_nameChars, a_nameLengths, a_meanings, a_savedItems, a_savedLevels, a_savedCatcodes, a_conditionals, a_arguments, a_argumentStarts, a_argumentEnds, a_held)) := fun {T' S' mm1 u1} g1 g3 => by
    obtain ⟨st, rest, ps, ns⟩ := T'
    obtain ⟨c, o, x⟩ := q
    obtain ⟨ip, pc, inp, out, pend, cat, nch, nl, si, sl, sv, cd, held, rfl, h1, hs, h2, h3, h4, h5, h6, h7⟩ := g1
    refine ⟨vp_in_nI hcc (by decide), fun cat' q => g3 mm1 _ ⟨ip, pc, inp, out, pend, cat', nch, nl, si, sl, sv, cd, held, rfl, h1, hs, h2, ?_, h4, h5, h6, h7⟩⟩
    rw [nI_clamp (by omega)] at q
    subst q
    exact xg_C_up h3
  cases g with
  | false =>
    have K' := K
    simp only [pm_assign, ec, if_neg hn32] at K'
    rw [if_neg (by decide)] at K'
    obtain ⟨f1, f2, f3, f4, f5, f6, f7, f8, f9, f10, f11, f12, f13, f14, a1, a2, a3, a4, a5, a6, a7, a8, a9, a10, a11, a12, a13, a14, a15⟩ := u
    refine nm_r e32 (br_t rfl (xa_save hR hI (by omega) (fun z => ?_) (fun z z2 u' hu => ?_) (fun z z2 mm' u' hmm hu => ?_)))
    · rw [if_pos z] at K'
      exact br_f ci_10 (hfin hR K')
    · rw [if_neg z, if_pos z2] at K'
      have := K' mm u' hu
      obtain ⟨f1, f2, f3, f4, f5, f6, f7, f8, f9, f10, f11, f12, f13, f14, a1, a2, a3, a4, a5, a6, a7, a8, a9, a10, a11, a12, a13, a14, a15⟩ := u'
      exact br_t rfl this
    · rw [if_neg z, if_neg z2] at K'
      rw [ec] at hu
      have := hfin hu K'
      obtain ⟨f1, f2, f3, f4, f5, f6, f7, f8, f9, f10, f11, f12, f13, f14, a1, a2, a3, a4, a5, a6, a7, a8, a9, a10, a11, a12, a13, a14, a15⟩ := u'
      exact br_f ci_10 this
  | true =>
    have K' := K
    simp only [pm_assign, ec, if_neg hn32] at K'
    rw [if_pos trivial] at K'
    obtain ⟨st, rest, ps, ns⟩ := T
    obtain ⟨c, o, x⟩ := q
    obtain ⟨ip, pc, inp, out, pend, cat, nch, nl, si, sl, sv, cd, held, rfl, h1, hs, h2, h3, h4, h5, h6, h7⟩ := hR
    obtain ⟨hT, i1, i2, i3, i4, i5, i6, i7⟩ := hI
    refine nm_r e32 (br_f ci_10 ⟨S.length + 1, ?_⟩)
    have rr : S.reverse.reverse ++ [] = S := by rw [List.reverse_reverse, List.append_nil]
    have := xa_globC (post := post) (C := C) (m := m) hcc hk h3 S.reverse [] (S.length + 1) sv (by rw [List.length_reverse]; omega) (by rw [rr]; exact i3) (by
      show xr_V si sl sv mm (S.reverse.reverse ++ [])
      rw [rr]; exact h6) (fun s hs => (i4 s (List.mem_reverse.mp hs)).1) (fun sv' cat' k1 k2 => K' mm _ ⟨ip, pc, inp, out, pend, cat', nch, nl, si, sl, sv', cd, held, by rw [xa_sl, rr], h1, hs, h2, k2, h4, h5, by rw [rr] at k1; exact k1, h7⟩)
    rw [rr] at this
    exact this
end XA4
