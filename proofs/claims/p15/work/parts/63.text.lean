section QC
variable {ns : List (List Nat)} {Q : pm_Q}
theorem qc_up {C : Nat → Nat} {M : Nat → pm_Mn} {j k : Nat} {m : pm_Mn} (h : qa_C C ∧ ∀ i, i < 14 → M i = ii_M i) (hj : qb_it j) : qa_C (if j < 32 then C else pm_upF C (j - 32) k) ∧ ∀ i, i < 14 → (if j < 32 then pm_upF M j m else M) i = ii_M i := by
  by_cases h32 : j < 32
  · rw [if_pos h32, if_pos h32]
    refine ⟨h.1, fun i hi => ?_⟩
    have := hj.1 h32
    unfold pm_upF
    rw [if_neg (by omega)]
    exact h.2 i hi
  · rw [if_neg h32, if_neg h32]
    refine ⟨fun i hi => ?_, h.2⟩
    unfold pm_upF
    rw [if_neg]
    · exact h.1 i hi
    · intro z
      rw [z] at hi
      exact hi (hj.2 (by omega))
theorem qc_pop {d : Nat} : ∀ (S : List pm_Sv) (C : Nat → Nat) (M : Nat → pm_Mn), (qa_C C ∧ ∀ i, i < 14 → M i = ii_M i) → (∀ s, s ∈ S → qb_it s.1) → (qa_C (pm_pop d S C M).2.1 ∧ ∀ i, i < 14 → (pm_pop d S C M).2.2 i = ii_M i) ∧ ∀ s, s ∈ (pm_pop d S C M).1 → qb_it s.1 := by
  intro S
  induction S with
  | nil => intro C M h hs; exact ⟨h, hs⟩
  | cons r S ih =>
    intro C M h hs
    have hr := hs r List.mem_cons_self
    have hS : ∀ s, s ∈ S → qb_it s.1 := fun s hx => hs s (List.mem_cons_of_mem _ hx)
    by_cases h1 : r.2.1 = d
    · by_cases h32 : r.1 < 32
      · have hp : pm_pop d (r :: S) C M = pm_pop d S C (pm_upF M r.1 r.2.2.1) := by
          simp only [pm_pop]
          rw [if_pos h1, if_pos h32]
        rw [hp]
        have := qc_up (k := 0) (m := r.2.2.1) h hr
        rw [if_pos h32, if_pos h32] at this
        exact ih _ _ this hS
      · have hp : pm_pop d (r :: S) C M = pm_pop d S (pm_upF C (r.1 - 32) r.2.2.2) M := by
          simp only [pm_pop]
          rw [if_pos h1, if_neg h32]
        rw [hp]
        have := qc_up (k := r.2.2.2) (m := pm_m0) h hr
        rw [if_neg h32, if_neg h32] at this
        exact ih _ _ this hS
    · have hp : pm_pop d (r :: S) C M = (r :: S, C, M) := by
        simp only [pm_pop]
        rw [if_neg h1]
      rw [hp]
      exact ⟨h, hs⟩
/-- two machines' rests before and behind a command: what the groups from level e on hide -/
def qc_same (e : Nat) (Q Q' : pm_Q) : Prop := ∀ i, qv_O e i Q' = qv_O e i Q
/-- a value given, behind which nothing is read -/
theorem qc_assign {j k : Nat} {g : Bool} {m : pm_Mn} (hV : qb_V ns Q) (hj : qb_it j) (hn : j < 32 → j < ns.length ∧ pi_mn ns.length m) (hk : 32 ≤ j → k < 8) (hj2 : j < 160) :
    (∀ r, (pm_assign g j m k ((0, r, [], ns), Q)).1.1 = 11) ∨ ∃ Q', (∀ r, pm_assign g j m k ((0, r, [], ns), Q) = ((0, r, [], ns), Q')) ∧ qb_V ns Q' ∧ Q'.2.2.2.1 = Q.2.2.2.1 ∧ ∀ e i, 1 ≤ e → e ≤ Q.2.2.2.1 → qv_O e i Q' = if g = true ∧ j = i then qv_v j m k else qv_O e i Q := by
  obtain ⟨hI, hp, hCM, hS, hnd⟩ := hV
  have h4 : j ≠ 4 := fun z => by have := hj.1 (by omega); omega
  have hA := pi_assign (g := g) (m := m) (k := k) hI hj2 h4 hn hk
  obtain ⟨C, M, S, d, q⟩ := Q
  have hup := qc_up (k := k) (m := m) hCM hj
  -- the machine's answer does not look at what is left to read
  have key : (∀ r, (pm_assign g j m k ((0, r, [], ns), C, M, S, d, q)).1.1 = 11) ∨ ∃ Q', (∀ r, pm_assign g j m k ((0, r, [], ns), C, M, S, d, q) = ((0, r, [], ns), Q')) ∧ Q'.2.2.2.1 = d ∧ (qa_C Q'.1 ∧ ∀ i, i < 14 → Q'.2.1 i = ii_M i) ∧ ∀ s, s ∈ Q'.2.2.1 → qb_it s.1 := by
    cases g with
    | true =>
      refine Or.inr ⟨((if j < 32 then C else pm_upF C (j - 32) k), (if j < 32 then pm_upF M j m else M), pm_setAll j m k S, d, q), fun r => rfl, rfl, hup, fun s hs => ?_⟩
      obtain ⟨s0, h0, h1⟩ := List.mem_map.mp hs
      have := hS s0 h0
      split at h1
      · rw [← h1]; exact this
      · rw [← h1]; exact this
    | false =>
      have hq : ∀ r, pm_assign false j m k ((0, r, [], ns), C, M, S, d, q) = if d = 0 ∨ pm_sav j d S = true then ((0, r, [], ns), (if j < 32 then C else pm_upF C (j - 32) k), (if j < 32 then pm_upF M j m else M), S, d, q) else if 32 ≤ S.length then (pm_err 11 (0, r, [], ns), C, M, S, d, q) else ((0, r, [], ns), (if j < 32 then C else pm_upF C (j - 32) k), (if j < 32 then pm_upF M j m else M), (j, d, M j, C (j - 32)) :: S, d, q) := fun r => by
        simp only [pm_assign]
        rw [if_neg (by decide)]
      by_cases h1 : d = 0 ∨ pm_sav j d S = true
      · refine Or.inr ⟨((if j < 32 then C else pm_upF C (j - 32) k), (if j < 32 then pm_upF M j m else M), S, d, q), fun r => ?_, rfl, hup, hS⟩
        rw [hq, if_pos h1]
      · by_cases h2 : 32 ≤ S.length
        · refine Or.inl (fun r => ?_)
          rw [hq, if_neg h1, if_pos h2]
          rfl
        · refine Or.inr ⟨((if j < 32 then C else pm_upF C (j - 32) k), (if j < 32 then pm_upF M j m else M), (j, d, M j, C (j - 32)) :: S, d, q), fun r => ?_, rfl, hup, fun s hs => ?_⟩
          · rw [hq, if_neg h1, if_neg h2]
          · rcases List.mem_cons.mp hs with rfl | hs
            · exact hj
            · exact hS s hs
  rcases key with h | ⟨Q', e1, e2, e3, e4⟩
  · exact Or.inl h
  · refine Or.inr ⟨Q', e1, ⟨?_, hp, e3, e4, hnd⟩, e2, fun e i h1 h2 => ?_⟩
    · have := hA.1
      rw [e1 []] at this
      exact this
    · have := qv_assign (i := i) (j := j) (k := k) (g := g) (m := m) (T := (0, [], [], ns)) (Q := (C, M, S, d, q)) h2 h1 (by rw [e1 []]) rfl
      rw [e1 []] at this
      exact this
theorem qc_open (hV : qb_V ns Q) : (∀ r, (pm_out 251 (pm_open ((0, r, [], ns), Q))).1.1 = 10) ∨ (∀ r, (pm_out 251 (pm_open ((0, r, [], ns), Q))).1.1 = 15) ∨ ∃ Q', (∀ r, pm_out 251 (pm_open ((0, r, [], ns), Q)) = ((0, r, [], ns), Q')) ∧ qb_V ns Q' ∧ Q'.2.2.2.1 = Q.2.2.2.1 + 1 ∧ Q'.1 = Q.1 ∧ Q'.2.1 = Q.2.1 ∧ Q'.2.2.1 = Q.2.2.1 := by
  obtain ⟨hI, hp, hCM, hS, hnd⟩ := hV
  have h1 := (pi_open hI).1
  have h2 := (pi_out (t := 251) h1).1
  obtain ⟨C, M, S, d, c, o, x⟩ := Q
  by_cases h8 : 8 ≤ d
  · refine Or.inl (fun r => ?_)
    simp only [pm_open]
    rw [if_pos h8]
    rfl
  · have e1 : ∀ r, pm_open ((0, r, [], ns), C, M, S, d, c, o, x) = ((0, r, [], ns), C, M, S, d + 1, c, o, x) := fun r => by
      simp only [pm_open]
      rw [if_neg h8]
    by_cases h256 : 256 ≤ o.length
    · refine Or.inr (Or.inl (fun r => ?_))
      rw [e1]
      simp only [pm_out]
      rw [if_pos trivial, if_pos h256]
      rfl
    · have e2 : ∀ r, pm_out 251 (pm_open ((0, r, [], ns), C, M, S, d, c, o, x)) = ((0, r, [], ns), C, M, S, d + 1, c, o ++ [251], x) := fun r => by
        rw [e1]
        simp only [pm_out]
        rw [if_pos trivial, if_neg h256]
      refine Or.inr (Or.inr ⟨(C, M, S, d + 1, c, o ++ [251], x), e2, ⟨?_, hp, hCM, hS, hnd⟩, rfl, rfl, rfl, rfl⟩)
      rw [e2] at h2
      exact h2
theorem qc_close1 (hV : qb_V ns Q) : (∀ r, (pm_close ((0, r, [], ns), Q)).1.1 = 9) ∨ ∃ Q', (∀ r, pm_close ((0, r, [], ns), Q) = ((0, r, [], ns), Q')) ∧ qb_V ns Q' ∧ Q'.2.2.2.1 + 1 = Q.2.2.2.1 ∧ (∀ e i, e ≤ Q.2.2.2.1 → qv_O e i Q' = qv_O e i Q) ∧ ∀ s, s ∈ Q'.2.2.1 → s.2.1 < Q.2.2.2.1 := by
  obtain ⟨hI, hp, hCM, hS, hnd⟩ := hV
  have h1 := (pi_close hI).1
  obtain ⟨C, M, S, d, c, o, x⟩ := Q
  by_cases h0 : d = 0
  · refine Or.inl (fun r => ?_)
    simp only [pm_close]
    rw [if_pos h0]
    rfl
  · have e1 : ∀ r, pm_close ((0, r, [], ns), C, M, S, d, c, o, x) = ((0, r, [], ns), (pm_pop d S C M).2.1, (pm_pop d S C M).2.2, (pm_pop d S C M).1, d - 1, c, o, x) := fun r => by
      simp only [pm_close]
      rw [if_neg h0]
    obtain ⟨k1, k2⟩ := qc_pop (d := d) S C M hCM hS
    refine Or.inr ⟨_, e1, ⟨?_, hp, k1, k2, hnd⟩, ?_, fun e i he => qv_pop he S C M, ?_⟩
    · rw [e1] at h1
      exact h1
    · show d - 1 + 1 = d
      omega
    · exact qv_left S C M (fun s hs => (hI.2.2.2.2.1 s hs).2.2.2.2.2) hI.2.2.2.2.2.1
theorem qc_out {t : Nat} (hV : qb_V ns Q) : (∀ r, (pm_out t ((0, r, [], ns), Q)).1.1 = 15) ∨ ∃ Q', (∀ r, pm_out t ((0, r, [], ns), Q) = ((0, r, [], ns), Q')) ∧ qb_V ns Q' ∧ Q'.1 = Q.1 ∧ Q'.2.1 = Q.2.1 ∧ Q'.2.2.1 = Q.2.2.1 ∧ Q'.2.2.2.1 = Q.2.2.2.1 := by
  obtain ⟨hI, hp, hCM, hS, hnd⟩ := hV
  have h2 := (pi_out (t := t) hI).1
  obtain ⟨C, M, S, d, c, o, x⟩ := Q
  by_cases h256 : 256 ≤ o.length
  · refine Or.inl (fun r => ?_)
    simp only [pm_out]
    rw [if_pos trivial, if_pos h256]
    rfl
  · have e2 : ∀ r, pm_out t ((0, r, [], ns), C, M, S, d, c, o, x) = ((0, r, [], ns), C, M, S, d, c, o ++ [t], x) := fun r => by
      simp only [pm_out]
      rw [if_pos trivial, if_neg h256]
    refine Or.inr ⟨(C, M, S, d, c, o ++ [t], x), e2, ⟨?_, hp, hCM, hS, hnd⟩, rfl, rfl, rfl, rfl⟩
    rw [e2] at h2
    exact h2
end QC
