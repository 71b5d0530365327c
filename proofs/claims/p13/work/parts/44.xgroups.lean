section XG
variable {f_expansionLimit f_expansionCount f_state f_inputLength f_inputPosition f_outputCount f_pendingCount f_namesUsed f_saveCount f_depth f_conditionalCount f_argumentsUsed f_argumentsLimit f_heldCount : Int32} {a_input a_output a_pending a_catcodes a_nameChars a_nameLengths a_meanings a_savedItems a_savedLevels a_savedCatcodes a_conditionals a_arguments a_argumentStarts a_argumentEnds a_held : Nat → Int32}
variable {post : SX → Prop}
theorem xg_m1 (a : Nat) : nI a + (-1) = nI a - 1 := by rw [Int32.sub_eq_add_neg]
theorem xg_neg : nI 0 - 1 < 0 := by decide
theorem xg_savL {pb : Int32 → Prop} {i d k : Nat} (hd : d ≤ 8) (hi : i < 160) : ∀ (S : List pm_Sv) (n : Nat), S.length < n → S.length ≤ 32 → xr_V a_savedItems a_savedLevels a_savedCatcodes a_meanings S → (∀ s, s ∈ S → pi_sv k d s) → (pm_sav i d S = true → pb 1) → (¬ pm_sav i d S = true → pb 0) → wX_isSavedAtThisLevel_7 pb (nI i) f_expansionLimit f_expansionCount f_state f_inputLength f_inputPosition f_outputCount f_pendingCount f_namesUsed f_saveCount (nI d) f_conditionalCount f_argumentsUsed f_argumentsLimit f_heldCount a_input a_output a_pending a_catcodes a_nameChars a_nameLengths a_meanings a_savedItems a_savedLevels a_savedCatcodes a_conditionals a_arguments a_argumentStarts a_argumentEnds a_held n (nI S.length - 1) := by
  intro S
  induction S with
  | nil =>
    intro n hn _ hV hs K1 K0
    obtain ⟨n, rfl⟩ : ∃ m, n = m + 1 := ⟨n - 1, by omega⟩
    exact br_t xg_neg (K0 (fun z => (nomatch z)))
  | cons s S ih =>
    intro n hn hl hV hs K1 K0
    obtain ⟨n, rfl⟩ : ∃ m, n = m + 1 := ⟨n - 1, by omega⟩
    have ln : (s :: S).length = S.length + 1 := rfl
    rw [ln] at hn hl
    obtain ⟨⟨v1, v2, v3, v4⟩, v5⟩ := hV
    obtain ⟨s1, s2, s3, s4, s5, s6⟩ := hs s List.mem_cons_self
    have e : nI (s :: S).length - 1 = nI S.length := nI_pred _
    rw [e]
    have v : vp_in (nI S.length) 32 := vp_in_nI (by omega) (by decide)
    have cl : (nI S.length).toNatClampNeg = S.length := nI_clamp (by omega)
    refine br_f (nI_pos (by omega)) ⟨v, ?_⟩
    rw [cl, v1, v2]
    unfold pm_sav at K1 K0
    by_cases hd2 : s.2.1 = d
    · rw [if_pos hd2] at K1 K0
      refine br_t (by rw [hd2]) ⟨v, ?_⟩
      by_cases hi2 : s.1 = i
      · rw [if_pos hi2] at K1
        exact br_t (by rw [hi2]) (K1 rfl)
      · rw [if_neg hi2] at K1 K0
        refine br_f (fun z => hi2 ((nI_eq (by omega) (by omega)).mp z)) (nm_r (xg_m1 _) ?_)
        exact ih n (by omega) (by omega) v5 (fun r hr => hs r (List.mem_cons_of_mem _ hr)) K1 K0
    · rw [if_neg hd2] at K0
      exact br_f (fun z => hd2 ((nI_eq (by omega) (by omega)).mp z)) (K0 (fun z => (nomatch z)))
theorem xg_sav {pb : Int32 → Prop} {i d k : Nat} {S : List pm_Sv} (hd : d ≤ 8) (hi : i < 160) (hl : S.length ≤ 32) (hV : xr_V a_savedItems a_savedLevels a_savedCatcodes a_meanings S) (hs : ∀ s, s ∈ S → pi_sv k d s) (K1 : pm_sav i d S = true → pb 1) (K0 : ¬ pm_sav i d S = true → pb 0) : wpX_isSavedAtThisLevel pb (f_expansionLimit, f_expansionCount, f_state, f_inputLength, f_inputPosition, f_outputCount, f_pendingCount, f_namesUsed, nI S.length, nI d, f_conditionalCount, f_argumentsUsed, f_argumentsLimit, f_heldCount, a_input, a_output, a_pending, a_catcodes, a_nameChars, a_nameLengths, a_meanings, a_savedItems, a_savedLevels, a_savedCatcodes, a_conditionals, a_arguments, a_argumentStarts, a_argumentEnds, a_held) (nI i) :=
  nm_e ⟨S.length + 1, xg_savL hd hi S _ (Nat.lt_succ_self _) hl hV hs K1 K0⟩
/-- the meanings of the names, in the class's array -/
def xg_MM (mm : Nat → Int32) (M : Nat → pm_Mn) : Prop := ∀ i, i < 32 → xr_M mm i (M i)
theorem xg_MM_up {mm mm' : Nat → Int32} {M : Nat → pm_Mn} {f i : Nat} {m : pm_Mn} (h : xg_MM mm M) (hc : xr_cp mm mm' f i) (hm : xr_M mm f m) : xg_MM mm' (pm_upF M i m) := fun j hj => by
  unfold pm_upF
  split
  · next e => rw [e]; exact xr_cp_to hc hm
  · next e => exact xr_cp_ne hc e (h j hj)
theorem xg_V_cp {si sl sv mm mm' : Nat → Int32} {S : List pm_Sv} {f t : Nat} (hc : xr_cp mm mm' f t) (ht : t < 32 ∨ 32 + S.length ≤ t) (h : xr_V si sl sv mm S) : xr_V si sl sv mm' S :=
  xr_V_mm S (fun j h1 h2 => hc.2 j (by omega)) h
theorem xg_C_up {cat : Nat → Int32} {C : Nat → Nat} {c k : Nat} (h : ∀ j, j < 128 → cat j = nI (C j)) : ∀ j, j < 128 → upd cat c (nI k) j = nI (pm_upF C c k j) := fun j hj => by
  unfold pm_upF
  split
  · next e => rw [e, pk_us]
  · next e => rw [pk_un e]; exact h j hj
theorem xg_closeL {d k : Nat} (hd : d ≤ 8) (h0 : 0 < d) : ∀ (S : List pm_Sv) (n : Nat) (C : Nat → Nat) (M : Nat → pm_Mn) (mm cat : Nat → Int32), S.length < n → S.length ≤ 32 → xr_V a_savedItems a_savedLevels a_savedCatcodes mm S → (∀ s, s ∈ S → pi_sv k d s) → (∀ j, j < 128 → cat j = nI (C j)) → xg_MM mm M →
    (∀ mm' cat' : Nat → Int32, (∀ j, j < 128 → cat' j = nI ((pm_pop d S C M).2.1 j)) → xg_MM mm' (pm_pop d S C M).2.2 → xr_V a_savedItems a_savedLevels a_savedCatcodes mm' (pm_pop d S C M).1 → post (f_expansionLimit, f_expansionCount, f_state, f_inputLength, f_inputPosition, f_outputCount, f_pendingCount, f_namesUsed, nI (pm_pop d S C M).1.length, nI (d - 1), f_conditionalCount, f_argumentsUsed, f_argumentsLimit, f_heldCount, a_input, a_output, a_pending, cat', a_nameChars, a_nameLengths, mm', a_savedItems, a_savedLevels, a_savedCatcodes, a_conditionals, a_arguments, a_argumentStarts, a_argumentEnds, a_held)) →
    wX_closeGroup_21 post n (nI S.length - 1) f_expansionLimit f_expansionCount f_state f_inputLength f_inputPosition f_outputCount f_pendingCount f_namesUsed (nI S.length) (nI d) f_conditionalCount f_argumentsUsed f_argumentsLimit f_heldCount a_input a_output a_pending cat a_nameChars a_nameLengths mm a_savedItems a_savedLevels a_savedCatcodes a_conditionals a_arguments a_argumentStarts a_argumentEnds a_held := by
  intro S
  have ed : nI d - 1 = nI (d - 1) := pk_sub (b := 1) (by omega)
  induction S with
  | nil =>
    intro n C M mm cat hn _ hV hs hC hM K
    obtain ⟨n, rfl⟩ : ∃ m, n = m + 1 := ⟨n - 1, by omega⟩
    exact br_t xg_neg (nm_r ed (K mm cat hC hM hV))
  | cons s S ih =>
    intro n C M mm cat hn hl hV hs hC hM K
    obtain ⟨n, rfl⟩ : ∃ m, n = m + 1 := ⟨n - 1, by omega⟩
    have ln : (s :: S).length = S.length + 1 := rfl
    rw [ln] at hn hl
    have hV' := hV
    obtain ⟨⟨v1, v2, v3, v4⟩, v5⟩ := hV
    obtain ⟨s1, s2, s3, s4, s5, s6⟩ := hs s List.mem_cons_self
    have hs' : ∀ r, r ∈ S → pi_sv k d r := fun r hr => hs r (List.mem_cons_of_mem _ hr)
    have e : nI (s :: S).length - 1 = nI S.length := nI_pred _
    rw [e]
    have v : vp_in (nI S.length) 32 := vp_in_nI (by omega) (by decide)
    have cl : (nI S.length).toNatClampNeg = S.length := nI_clamp (by omega)
    refine br_f (nI_pos (by omega)) ⟨v, ?_⟩
    unfold pm_pop at K
    by_cases hd2 : s.2.1 = d
    · rw [if_pos hd2] at K
      refine br_t (by rw [cl, v2, hd2]) ?_
      refine ⟨v, nm_r (e' := nI s.1) (by rw [cl]; exact v1) ?_⟩
      by_cases h32 : s.1 < 32
      · rw [if_pos h32] at K
        refine br_f (nI_ge (a := s.1) (b := 32) h32 (by decide)) ?_
        have e32 : (32 : Int32) + nI S.length = nI (32 + S.length) := nI_add 32 _
        rw [e32]
        refine xs_copy (by omega) (by omega) (by omega) fun mm' hc => nm_r (xg_m1 _) ?_
        exact ih n C _ mm' cat (by omega) (by omega) (xg_V_cp hc (Or.inl h32) v5) hs' hC (xg_MM_up hM hc (v3 h32)) K
      · rw [if_neg h32] at K
        have e3 : nI s.1 - 32 = nI (s.1 - 32) := pk_sub (b := 32) (by omega)
        refine br_t (nI_le (a := 32) (by omega) (by omega)) ⟨v, by rw [e3]; exact vp_in_nI (by omega) (by decide), fun cat' q => nm_r (xg_m1 _) ?_⟩
        rw [e3, nI_clamp (by omega), cl, v4 (by omega)] at q
        subst q
        exact ih n _ M mm _ (by omega) (by omega) v5 hs' (xg_C_up hC) hM K
    · rw [if_neg hd2] at K
      refine br_f (fun z => hd2 ?_) (nm_r ed (K mm cat hC hM hV'))
      rw [cl, v2] at z
      exact (nI_eq (by omega) (by omega)).mp z
end XG
section XH
variable {L : List Nat} {lim : Nat} {mm ar ast ae : Nat → Int32} {au al hc : Int32} {u : SX} {post : SX → Prop}
theorem xh_err {k : Nat} {T : pm_T} {Q : pm_Q} (hk : k ≠ 0) {f1 f2 f3 f4 f5 f6 f7 f8 f9 f10 f11 f12 f13 f14 : Int32} {a1 a2 a3 a4 a5 a6 a7 a8 a9 a10 a11 a12 a13 a14 a15 : Nat → Int32} (h : xr_R L lim (T, Q) mm ar ast ae au al hc (f1, f2, f3, f4, f5, f6, f7, f8, f9, f10, f11, f12, f13, f14, a1, a2, a3, a4, a5, a6, a7, a8, a9, a10, a11, a12, a13, a14, a15)) (hk1 : k < 100 := by decide) :
    xr_R L lim (pm_err k T, Q) mm ar ast ae au al hc (f1, f2, nI k, f4, f5, f6, f7, f8, f9, f10, f11, f12, f13, f14, a1, a2, a3, a4, a5, a6, a7, a8, a9, a10, a11, a12, a13, a14, a15) := by
  obtain ⟨st, rest, ps, ns⟩ := T
  obtain ⟨C, M, S, d, c, o, x⟩ := Q
  obtain ⟨ip, pc, inp, out, pend, cat, nch, nl, si, sl, sv, cd, held, e, h1, hs, h2⟩ := h
  cases e
  exact ⟨_, _, _, _, _, _, _, _, _, _, _, _, _, rfl, h1, ⟨hk1, fun z => absurd z hk⟩, h2⟩
theorem xh_open {P : pm_P} (hR : xr_R L lim P mm ar ast ae au al hc u) (hI : pi_I lim P) (K : ∀ u', xr_R L lim (pm_open P) mm ar ast ae au al hc u' → post u') : wpX_openGroup post u := by
  obtain ⟨⟨st, rest, ps, ns⟩, C, M, S, d, c, o, x⟩ := P
  have hR' := hR
  obtain ⟨ip, pc, inp, out, pend, cat, nch, nl, si, sl, sv, cd, held, rfl, h1⟩ := hR
  have hd : d ≤ 8 := hI.2.2.2.2.2.2.1
  by_cases h8 : 8 ≤ d
  · refine br_f (nI_nlt (b := 8) h8 (by omega)) (K _ ?_)
    have := xh_err (k := 10) (by decide) hR'
    simp only [pm_open, if_pos h8]
    exact this
  · refine br_t (nI_lt (b := 8) (by omega) (by decide)) (nm_r (nI_1 _) (K _ ?_))
    simp only [pm_open, if_neg h8]
    exact ⟨ip, pc, inp, out, pend, cat, nch, nl, si, sl, sv, cd, held, rfl, h1⟩
theorem xh_close {P : pm_P} (hR : xr_R L lim P mm ar ast ae au al hc u) (hI : pi_I lim P) (K : ∀ mm' u', xr_R L lim (pm_close P) mm' ar ast ae au al hc u' → post u') : wpX_closeGroup post u := by
  obtain ⟨⟨st, rest, ps, ns⟩, C, M, S, d, c, o, x⟩ := P
  have hR' := hR
  obtain ⟨ip, pc, inp, out, pend, cat, nch, nl, si, sl, sv, cd, held, rfl, h1, hs, h2, h3, h4, h5, h6, h7⟩ := hR
  obtain ⟨hT, i1, i2, i3, i4, i5, i6, i7⟩ := hI
  by_cases h0 : d = 0
  · subst h0
    refine br_f (nI_nlt (a := 0) (b := 0) (by decide) (by decide)) (K mm _ ?_)
    have := xh_err (k := 9) (by decide) hR'
    simp only [pm_close]
    exact this
  · refine br_t (nI_lt (a := 0) (by omega) (by omega)) (nm_e ⟨S.length + 1, ?_⟩)
    refine xg_closeL i6 (by omega) S _ C M mm cat (Nat.lt_succ_self _) i3 h6 i4 h3 h5 fun mm' cat' c1 c2 c3 => K mm' _ ?_
    simp only [pm_close, if_neg h0]
    exact ⟨ip, pc, inp, out, pend, cat', nch, nl, si, sl, sv, cd, held, rfl, h1, hs, h2, c1, h4, c2, c3, h7⟩
end XH
