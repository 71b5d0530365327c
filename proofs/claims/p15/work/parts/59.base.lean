section IR
/-- the first meanings -/
def ii_M (i : Nat) : pm_Mn := if i < 14 then (1, i, [], []) else pm_m0
def ii_P : pm_P := ((0, [], [], ci_ns), ci_C, ii_M, [], 0, [], [], 0)
theorem ii_e {k t i : Nat} : xr_e (k, t, [], []) i = if i = 0 then k else if i = 1 then t else 0 := by
  unfold xr_e
  split
  · rfl
  · split
    · rfl
    · split
      · rfl
      · split
        · rfl
        · split <;> rfl
theorem ii_MX {mm : Nat → Int32} (h : ci_MM mm 14) : ∀ i, i < 32 → xr_M mm i (ii_M i) := fun i hi j hj => by
  rw [h]
  have e1 : (i * 36 + j) % 36 = j := by omega
  have e2 : (i * 36 + j) / 36 = i := by omega
  rw [e1, e2]
  unfold ii_M
  by_cases h14 : i < 14
  · rw [if_pos (by omega), if_pos h14, ii_e]
    split
    · rfl
    · split
      · rfl
      · rfl
  · rw [if_neg (by omega), if_neg h14]
    show (0 : Int32) = nI (xr_e (0, 0, [], []) j)
    rw [ii_e]
    split
    · rfl
    · split
      · rfl
      · rfl
theorem ii_I {lim : Nat} (h : lim ≤ 100) : pi_I lim ii_P := by
  refine ⟨⟨⟨by decide, by decide, by decide, by decide⟩, fun c hc => (nomatch hc), Nat.zero_le _, Nat.zero_le _, fun t ht => (nomatch ht)⟩, fun a _ => ?_, ⟨rfl, fun i hi => ?_, fun i hi => ?_⟩, Nat.zero_le _, fun s hs => (nomatch hs), trivial, Nat.zero_le _, Nat.zero_le _, fun a ha => (nomatch ha), Nat.zero_le _, Nat.zero_le _, h⟩
  · show ci_C a < 8
    unfold ci_C ci_c
    repeat' split
    all_goals omega
  · show pi_mn 14 (ii_M i)
    unfold ii_M
    by_cases h14 : i < 14
    · rw [if_pos h14]
      exact Or.inr (Or.inl ⟨rfl, h14, hi, rfl, rfl⟩)
    · rw [if_neg h14]
      exact Or.inl rfl
  · show ii_M i = pm_m0
    have hi' : 14 ≤ i := hi
    exact if_neg (by omega)
end IR
section IG
variable {f_expansionLimit f_expansionCount f_state f_inputLength f_inputPosition f_outputCount f_pendingCount f_namesUsed f_saveCount f_depth f_conditionalCount f_argumentsUsed f_argumentsLimit f_heldCount : Int32} {a_input a_output a_pending a_catcodes a_nameChars a_nameLengths a_meanings a_savedItems a_savedLevels a_savedCatcodes a_conditionals a_arguments a_argumentStarts a_argumentEnds a_held : Nat → Int32}
variable {p0 p1 p2 : Int32} {k : Nat} {M : Nat → pm_Mn}
/-- the texts of a macro: what both sides answer -/
def mt_t (M : Nat → pm_Mn) (p0 p1 : Int32) : Option (List Nat) := if 0 ≤ p0 ∧ p0 < 32 ∧ (M p0.toNatClampNeg).1 = 2 then (if p1 = 0 then some (M p0.toNatClampNeg).2.2.1 else if p1 = 1 then some (M p0.toNatClampNeg).2.2.2 else none) else none
def mt_l : Option (List Nat) → Int32
  | none => -1
  | some l => nI l.length
theorem mt_in {j : Nat} (hj : j < 32) : mt_t M (nI j) p1 = if (M j).1 = 2 then (if p1 = 0 then some (M j).2.2.1 else if p1 = 1 then some (M j).2.2.2 else none) else none := by
  unfold mt_t
  rw [nI_clamp (by omega)]
  by_cases h : (M j).1 = 2
  · rw [if_pos h, if_pos ⟨nI_pos' (by omega), nI_lt (b := 32) hj (by decide), h⟩]
  · rw [if_neg h, if_neg (fun z => h z.2.2)]
theorem mt_out (h0 : ∀ i, k ≤ i → M i = pm_m0) (hk : k ≤ 32) (z : p0 < 0 ∨ nI k ≤ p0) : mt_t M p0 p1 = none := by
  unfold mt_t
  refine if_neg (fun ⟨q1, q2, q3⟩ => ?_)
  have z0 : ¬ p0 < 0 := Int32.not_lt.mpr q1
  obtain ⟨j, hj, rfl⟩ := nI_of z0
  have hkj : k ≤ j := (nI_leI (by omega) hj).mp (z.resolve_left z0)
  rw [nI_clamp hj, h0 j hkj] at q3
  exact absurd q3 (by decide)
theorem mt_12 : ∀ x : Int32, ¬ x < 0 → ¬ 1 < x → ¬ x = 0 → x = 1 := fun x h1 h2 h3 => by
  obtain ⟨j, hj, rfl⟩ := nI_of h1
  have a : j ≤ 1 := by
    rcases Nat.lt_or_ge 1 j with z | z
    · exact absurd (nI_lt (a := 1) z hj) h2
    · exact z
  have b : j ≠ 0 := fun z => h3 (by rw [z]; rfl)
  rw [show j = 1 from by omega]
  rfl
theorem ig_xtl {post : Int32 → Prop} {mm : Nat → Int32} (hk : k ≤ 32) (hM : ∀ i, i < 32 → xr_M mm i (M i)) (hs : ∀ i, (M i).1 < 4096) (h0 : ∀ i, k ≤ i → M i = pm_m0) (K : post (mt_l (mt_t M p0 p1))) : wpX_textLength post (f_expansionLimit, f_expansionCount, f_state, f_inputLength, f_inputPosition, f_outputCount, f_pendingCount, nI k, f_saveCount, f_depth, f_conditionalCount, f_argumentsUsed, f_argumentsLimit, f_heldCount, a_input, a_output, a_pending, a_catcodes, a_nameChars, a_nameLengths, mm, a_savedItems, a_savedLevels, a_savedCatcodes, a_conditionals, a_arguments, a_argumentStarts, a_argumentEnds, a_held) p0 p1 := by
  unfold wpX_textLength
  rcases gt_ix p0 hk with z | ⟨j, hj, rfl⟩
  · rw [mt_out h0 hk z] at K
    exact gt_isNot z (br_t rfl K)
  · rw [mt_in (by omega)] at K
    have ix : nI j * 36 + 0 = nI (j * 36) := gt_36 j 0
    have ix2 : nI j * 36 + 2 = nI (j * 36 + 2) := gt_36 j 2
    have ix3 : nI j * 36 + 3 = nI (j * 36 + 3) := gt_36 j 3
    have kd : mm (nI j * 36 + 0).toNatClampNeg = nI (M j).1 := by rw [ix, nI_clamp (by omega)]; exact hM j (by omega) 0 (by decide)
    have kl : mm (nI j * 36 + 2).toNatClampNeg = nI (M j).2.2.1.length := by rw [ix2, nI_clamp (by omega)]; exact hM j (by omega) 2 (by decide)
    have kr : mm (nI j * 36 + 3).toNatClampNeg = nI (M j).2.2.2.length := by rw [ix3, nI_clamp (by omega)]; exact hM j (by omega) 3 (by decide)
    have hs' := hs j
    refine gt_isIn hj hk (br_f ci_10 ?_)
    by_cases w0 : p1 < 0
    · have e0 : ¬ p1 = 0 := fun z => by rw [z] at w0; exact absurd w0 (by decide)
      have e1 : ¬ p1 = 1 := fun z => by rw [z] at w0; exact absurd w0 (by decide)
      rw [if_neg e0, if_neg e1, ite_self] at K
      exact br_t w0 K
    · refine br_f w0 ?_
      by_cases w1 : 1 < p1
      · have e0 : ¬ p1 = 0 := fun z => by rw [z] at w1; exact absurd w1 (by decide)
        have e1 : ¬ p1 = 1 := fun z => by rw [z] at w1; exact absurd w1 (by decide)
        rw [if_neg e0, if_neg e1, ite_self] at K
        exact br_t w1 K
      · refine br_f w1 ⟨by rw [ix]; exact vp_in_nI (by omega) (by decide), ?_⟩
        rw [kd]
        by_cases h2 : (M j).1 = 2
        · rw [if_pos h2] at K
          refine br_t (by rw [h2]; rfl) ?_
          by_cases e0 : p1 = 0
          · rw [if_pos e0] at K
            refine br_t e0 ⟨by rw [ix2]; exact vp_in_nI (by omega) (by decide), ?_⟩
            rw [kl]
            exact K
          · rw [if_neg e0, if_pos (mt_12 p1 w0 w1 e0)] at K
            refine br_f e0 ⟨by rw [ix3]; exact vp_in_nI (by omega) (by decide), ?_⟩
            rw [kr]
            exact K
        · rw [if_neg h2] at K
          exact br_f (fun z => h2 ((nI_eq (b := 2) (by omega) (by decide)).mp z)) K
/-- the token of a text -/
def mt_k (o : Option (List Nat)) (p2 : Int32) : Int32 := match o with
  | none => -1
  | some l => if p2 < 0 ∨ nI l.length ≤ p2 then -1 else nI (l.getD p2.toNatClampNeg 0)
theorem mt_some {l : List Nat} (h : mt_t M p0 p1 = some l) : ∃ j, j < 32 ∧ p0 = nI j ∧ (M j).1 = 2 ∧ ((p1 = 0 ∧ l = (M j).2.2.1) ∨ (¬ p1 = 0 ∧ p1 = 1 ∧ l = (M j).2.2.2)) := by
  unfold mt_t at h
  split at h
  · next q =>
    obtain ⟨q1, q2, q3⟩ := q
    obtain ⟨j, hj, rfl⟩ := nI_of (Int32.not_lt.mpr q1)
    have hj2 : j < 32 := (nI_ltI (b := 32) hj (by decide)).mp q2
    rw [nI_clamp hj] at h q3
    refine ⟨j, hj2, rfl, q3, ?_⟩
    split at h
    · next e0 => cases h; exact Or.inl ⟨e0, rfl⟩
    · next e0 =>
      split at h
      · next e1 => cases h; exact Or.inr ⟨e0, e1, rfl⟩
      · cases h
  · cases h
theorem mt_k_in {l : List Nat} {i : Nat} (hi : i < l.length) (hl : l.length ≤ 24) : mt_k (some l) (nI i) = nI (l.getD i 0) := by
  unfold mt_k
  show (if nI i < 0 ∨ nI l.length ≤ nI i then (-1 : Int32) else nI (l.getD (nI i).toNatClampNeg 0)) = _
  rw [if_neg, nI_clamp (by omega)]
  intro z
  rcases z with z | z
  · exact nI_pos (by omega) z
  · exact nI_ge hi (by omega) z
theorem mt_k_out {l : List Nat} (h : p2 < 0 ∨ nI l.length ≤ p2) : mt_k (some l) p2 = -1 := by
  unfold mt_k
  exact if_pos h
theorem ig_xtk {post : Int32 → Prop} {mm : Nat → Int32} (hk : k ≤ 32) (hM : ∀ i, i < 32 → xr_M mm i (M i)) (hs : ∀ i, (M i).1 < 4096) (hl : ∀ i, (M i).2.2.1.length ≤ 8 ∧ (M i).2.2.2.length ≤ 24) (h0 : ∀ i, k ≤ i → M i = pm_m0) (K : post (mt_k (mt_t M p0 p1) p2)) : wpX_macroTextToken post (f_expansionLimit, f_expansionCount, f_state, f_inputLength, f_inputPosition, f_outputCount, f_pendingCount, nI k, f_saveCount, f_depth, f_conditionalCount, f_argumentsUsed, f_argumentsLimit, f_heldCount, a_input, a_output, a_pending, a_catcodes, a_nameChars, a_nameLengths, mm, a_savedItems, a_savedLevels, a_savedCatcodes, a_conditionals, a_arguments, a_argumentStarts, a_argumentEnds, a_held) p0 p1 p2 := by
  unfold wpX_macroTextToken
  refine ig_xtl hk hM hs h0 ?_
  cases e : mt_t M p0 p1 with
  | none =>
    rw [e] at K
    by_cases z0 : p2 < 0
    · exact br_t z0 K
    · refine br_f z0 (br_f ?_ K)
      intro z1
      exact z0 (Int32.lt_trans z1 (by decide))
  | some l =>
    rw [e] at K
    obtain ⟨j, hj, rfl, h2, hp⟩ := mt_some e
    have hl' := hl j
    have hll : l.length ≤ 24 := by rcases hp with ⟨_, rfl⟩ | ⟨_, _, rfl⟩ <;> omega
    show _ ∧ _
    rcases pk_ix p2 (n := l.length) (by omega) with z | z | ⟨i, hi, rfl⟩
    · rw [mt_k_out (Or.inl z)] at K
      exact br_t z K
    · rw [mt_k_out (Or.inr z)] at K
      by_cases z0 : p2 < 0
      · exact br_t z0 K
      · exact br_f z0 (br_f (Int32.not_lt.mpr z) K)
    · rw [mt_k_in hi hll] at K
      refine br_f (nI_pos (by omega)) (br_t (nI_lt hi (by omega)) ?_)
      rcases hp with ⟨e0, rfl⟩ | ⟨e0, e1, rfl⟩
      · have ix : nI j * 36 + 4 + nI i = nI (j * 36 + (4 + i)) := by
          rw [show nI j * 36 + 4 = nI (j * 36 + 4) from gt_36 j 4, nI_add, Nat.add_assoc]
        refine br_t e0 ⟨by rw [ix]; exact vp_in_nI (by omega) (by decide), ?_⟩
        rw [ix, nI_clamp (by omega), hM j hj (4 + i) (by omega)]
        unfold xr_e
        rw [if_neg (by omega), if_neg (by omega), if_neg (by omega), if_neg (by omega), if_pos (by omega), show 4 + i - 4 = i from by omega]
        exact K
      · have ix : nI j * 36 + 12 + nI i = nI (j * 36 + (12 + i)) := by
          rw [show nI j * 36 + 12 = nI (j * 36 + 12) from gt_36 j 12, nI_add, Nat.add_assoc]
        refine br_f e0 ⟨by rw [ix]; exact vp_in_nI (by omega) (by decide), ?_⟩
        rw [ix, nI_clamp (by omega), hM j hj (12 + i) (by omega)]
        unfold xr_e
        rw [if_neg (by omega), if_neg (by omega), if_neg (by omega), if_neg (by omega), if_neg (by omega), show 12 + i - 12 = i from by omega]
        exact K
end IG
section IH
theorem ih_small {k : Nat} {M : Nat → pm_Mn} (hk : k ≤ 32) (hM : pi_M k M) : (∀ i, (M i).1 < 4096) ∧ ∀ i, (M i).2.2.1.length ≤ 8 ∧ (M i).2.2.2.length ≤ 24 := by
  have h : ∀ i, (∀ j, xr_e (M i) j < 4096) ∧ (M i).2.2.1.length ≤ 8 ∧ (M i).2.2.2.length ≤ 24 := fun i => by
    by_cases h4 : i = 4
    · rw [h4]
      exact xs_small hk (Or.inr hM.1)
    · exact xs_small hk (Or.inl (hM.2.1 i h4))
  exact ⟨fun i => (h i).1 0, fun i => (h i).2⟩
end IH
