section QV
/-- the value of an item: a meaning (below 32) or a catcode -/
abbrev qv_T : Type := pm_Mn × Nat
def qv_v (i : Nat) (m : pm_Mn) (k : Nat) : qv_T := if i < 32 then (m, 0) else (pm_m0, k)
def qv_c (C : Nat → Nat) (M : Nat → pm_Mn) (i : Nat) : qv_T := qv_v i (M i) (C (i - 32))
def qv_s (s : pm_Sv) : qv_T := qv_v s.1 s.2.2.1 s.2.2.2
/-- what item i will be when all groups from level e on are closed -/
def qv_o (e i : Nat) : qv_T → List pm_Sv → qv_T
  | x, [] => x
  | x, s :: S => if e ≤ s.2.1 then qv_o e i (if s.1 = i then qv_s s else x) S else x
theorem qv_any {e i d : Nat} (he : e ≤ d) {x y : qv_T} : ∀ S : List pm_Sv, pm_sav i d S = true → qv_o e i x S = qv_o e i y S := by
  intro S
  induction S generalizing x y with
  | nil => intro h; exact absurd (show false = true from h) (by decide)
  | cons s S ih =>
    intro h
    unfold pm_sav at h
    by_cases h1 : s.2.1 = d
    · rw [if_pos h1] at h
      show (if e ≤ s.2.1 then qv_o e i (if s.1 = i then qv_s s else x) S else x) = (if e ≤ s.2.1 then qv_o e i (if s.1 = i then qv_s s else y) S else y)
      have hc : e ≤ s.2.1 := by omega
      rw [if_pos hc, if_pos hc]
      by_cases h2 : s.1 = i
      · rw [if_pos h2, if_pos h2]
      · rw [if_neg h2] at h
        rw [if_neg h2, if_neg h2]
        exact ih h
    · rw [if_neg h1] at h
      exact absurd h (by decide)
theorem qv_low {e i : Nat} {x : qv_T} {S : List pm_Sv} (h : ∀ s, s ∈ S → s.2.1 < e) : qv_o e i x S = x := by
  cases S with
  | nil => rfl
  | cons s S =>
    show (if e ≤ s.2.1 then _ else x) = x
    exact if_neg (by have := h s List.mem_cons_self; omega)
theorem qv_set {e i k : Nat} {m : pm_Mn} : ∀ (S : List pm_Sv), qv_o e i (qv_v i m k) (pm_setAll i m k S) = qv_v i m k := by
  intro S
  induction S with
  | nil => rfl
  | cons s S ih =>
    show (if e ≤ (if s.1 = i then (s.1, s.2.1, m, k) else s).2.1 then qv_o e i (if (if s.1 = i then (s.1, s.2.1, m, k) else s).1 = i then qv_s (if s.1 = i then (s.1, s.2.1, m, k) else s) else qv_v i m k) (pm_setAll i m k S) else qv_v i m k) = _
    by_cases h : s.1 = i
    · simp only [if_pos h]
      split
      · have e1 : qv_s (s.1, s.2.1, m, k) = qv_v i m k := by
          show qv_v s.1 m k = _
          rw [h]
        rw [e1]
        exact ih
      · rfl
    · simp only [if_neg h]
      split
      · exact ih
      · rfl
theorem qv_setN {e i j k : Nat} {m : pm_Mn} (hij : i ≠ j) : ∀ (S : List pm_Sv) (x : qv_T), qv_o e i x (pm_setAll j m k S) = qv_o e i x S := by
  intro S
  induction S with
  | nil => intro x; rfl
  | cons s S ih =>
    intro x
    show (if e ≤ (if s.1 = j then (s.1, s.2.1, m, k) else s).2.1 then qv_o e i (if (if s.1 = j then (s.1, s.2.1, m, k) else s).1 = i then qv_s (if s.1 = j then (s.1, s.2.1, m, k) else s) else x) (pm_setAll j m k S) else x) = (if e ≤ s.2.1 then qv_o e i (if s.1 = i then qv_s s else x) S else x)
    by_cases h : s.1 = j
    · have hn : ¬ s.1 = i := fun z => hij (z.symm.trans h)
      simp only [if_pos h, if_neg hn, ih]
    · simp only [if_neg h]
      rw [ih]
theorem qv_upM {C : Nat → Nat} {M : Nat → pm_Mn} {i j : Nat} {m : pm_Mn} (hj : j < 32) : qv_c C (pm_upF M j m) i = if j = i then qv_v j m 0 else qv_c C M i := by
  unfold qv_c pm_upF qv_v
  by_cases h : j = i
  · subst h
    simp [hj]
  · have h' : ¬ i = j := fun z => h z.symm
    rw [if_neg h', if_neg h]
theorem qv_upC {C : Nat → Nat} {M : Nat → pm_Mn} {i j k : Nat} (hj : 32 ≤ j) (m : pm_Mn) : qv_c (pm_upF C (j - 32) k) M i = if j = i then qv_v j m k else qv_c C M i := by
  unfold qv_c pm_upF qv_v
  by_cases h : j = i
  · subst h
    have h32 : ¬ j < 32 := by omega
    simp [h32]
  · rw [if_neg h]
    by_cases h32 : i < 32
    · rw [if_pos h32, if_pos h32]
    · rw [if_neg h32, if_neg h32, if_neg (by omega)]
theorem qv_v0 {i k k' : Nat} {m : pm_Mn} (h : i < 32) : qv_v i m k = qv_v i m k' := by
  unfold qv_v
  rw [if_pos h, if_pos h]
/-- a value given -/
theorem qv_up {C : Nat → Nat} {M : Nat → pm_Mn} {i j k : Nat} {m : pm_Mn} : qv_c (if j < 32 then C else pm_upF C (j - 32) k) (if j < 32 then pm_upF M j m else M) i = if j = i then qv_v j m k else qv_c C M i := by
  by_cases h : j < 32
  · rw [if_pos h, if_pos h, qv_upM h, qv_v0 h]
  · rw [if_neg h, if_neg h]
    exact qv_upC (by omega) m
theorem qv_pop {e i d : Nat} (he : e ≤ d) : ∀ (S : List pm_Sv) (C : Nat → Nat) (M : Nat → pm_Mn), qv_o e i (qv_c (pm_pop d S C M).2.1 (pm_pop d S C M).2.2 i) (pm_pop d S C M).1 = qv_o e i (qv_c C M i) S := by
  intro S
  induction S with
  | nil => intro C M; rfl
  | cons s S ih =>
    intro C M
    by_cases h : s.2.1 = d
    · have hr : qv_o e i (qv_c C M i) (s :: S) = qv_o e i (if s.1 = i then qv_s s else qv_c C M i) S := by
        show (if e ≤ s.2.1 then _ else _) = _
        exact if_pos (by omega)
      rw [hr]
      by_cases h32 : s.1 < 32
      · have hp : pm_pop d (s :: S) C M = pm_pop d S C (pm_upF M s.1 s.2.2.1) := by
          simp only [pm_pop]
          rw [if_pos h, if_pos h32]
        rw [hp, ih, qv_upM h32]
        have e1 : qv_s s = qv_v s.1 s.2.2.1 0 := qv_v0 h32
        rw [e1]
      · have hp : pm_pop d (s :: S) C M = pm_pop d S (pm_upF C (s.1 - 32) s.2.2.2) M := by
          simp only [pm_pop]
          rw [if_pos h, if_neg h32]
        rw [hp, ih, qv_upC (by omega) s.2.2.1]
        rfl
    · have hp : pm_pop d (s :: S) C M = (s :: S, C, M) := by
        simp only [pm_pop]
        rw [if_neg h]
      rw [hp]
theorem qv_left {d : Nat} : ∀ (S : List pm_Sv) (C : Nat → Nat) (M : Nat → pm_Mn), (∀ s, s ∈ S → s.2.1 ≤ d) → pi_lv S → ∀ s, s ∈ (pm_pop d S C M).1 → s.2.1 < d := by
  intro S
  induction S with
  | nil => intro C M _ _ s hs; exact nomatch hs
  | cons r S ih =>
    intro C M hd hlv s hs
    by_cases h : r.2.1 = d
    · by_cases h32 : r.1 < 32
      · have hp : pm_pop d (r :: S) C M = pm_pop d S C (pm_upF M r.1 r.2.2.1) := by
          simp only [pm_pop]
          rw [if_pos h, if_pos h32]
        rw [hp] at hs
        exact ih _ _ (fun s hs => hd s (List.mem_cons_of_mem _ hs)) hlv.2 s hs
      · have hp : pm_pop d (r :: S) C M = pm_pop d S (pm_upF C (r.1 - 32) r.2.2.2) M := by
          simp only [pm_pop]
          rw [if_pos h, if_neg h32]
        rw [hp] at hs
        exact ih _ _ (fun s hs => hd s (List.mem_cons_of_mem _ hs)) hlv.2 s hs
    · have hp : pm_pop d (r :: S) C M = (r :: S, C, M) := by
        simp only [pm_pop]
        rw [if_neg h]
      rw [hp] at hs
      have hr := hd r List.mem_cons_self
      rcases List.mem_cons.mp hs with rfl | hs
      · omega
      · have := (hlv.1 s hs).1
        omega
/-- what items will be, of a machine's rest -/
def qv_O (e i : Nat) (Q : pm_Q) : qv_T := qv_o e i (qv_c Q.1 Q.2.1 i) Q.2.2.1
theorem qv_assign {e i j k : Nat} {g : Bool} {m : pm_Mn} {T : pm_T} {Q : pm_Q} (he : e ≤ Q.2.2.2.1) (he1 : 1 ≤ e) (hok : (pm_assign g j m k (T, Q)).1.1 = 0) (h0 : T.1 = 0) : qv_O e i (pm_assign g j m k (T, Q)).2 = if g = true ∧ j = i then qv_v j m k else qv_O e i Q := by
  obtain ⟨C, M, S, d, q⟩ := Q
  have he' : e ≤ d := he
  cases g with
  | true =>
    show qv_o e i (qv_c (if j < 32 then C else pm_upF C (j - 32) k) (if j < 32 then pm_upF M j m else M) i) (pm_setAll j m k S) = _
    rw [qv_up]
    by_cases h : j = i
    · subst h
      rw [if_pos rfl, if_pos ⟨rfl, rfl⟩]
      exact qv_set S
    · rw [if_neg h, if_neg (fun z => h z.2), qv_setN (fun z => h z.symm)]
      rfl
  | false =>
    rw [if_neg (fun z => nomatch z.1)]
    have hq : pm_assign false j m k (T, C, M, S, d, q) = if d = 0 ∨ pm_sav j d S = true then (T, (if j < 32 then C else pm_upF C (j - 32) k), (if j < 32 then pm_upF M j m else M), S, d, q) else if 32 ≤ S.length then (pm_err 11 T, C, M, S, d, q) else (T, (if j < 32 then C else pm_upF C (j - 32) k), (if j < 32 then pm_upF M j m else M), (j, d, M j, C (j - 32)) :: S, d, q) := by
      simp only [pm_assign]
      rw [if_neg (by decide)]
    rw [hq] at hok ⊢
    by_cases h1 : d = 0 ∨ pm_sav j d S = true
    · have h2 := h1.resolve_left (by omega)
      rw [if_pos h1]
      show qv_o e i (qv_c (if j < 32 then C else pm_upF C (j - 32) k) (if j < 32 then pm_upF M j m else M) i) S = qv_o e i (qv_c C M i) S
      rw [qv_up]
      by_cases h : j = i
      · subst h
        rw [if_pos rfl]
        exact qv_any he' S h2
      · rw [if_neg h]
    · rw [if_neg h1] at hok ⊢
      by_cases h3 : 32 ≤ S.length
      · rw [if_pos h3] at hok
        exact absurd hok (by show ¬ 11 = 0; decide)
      · rw [if_neg h3]
        show (if e ≤ d then qv_o e i (if j = i then qv_s (j, d, M j, C (j - 32)) else qv_c (if j < 32 then C else pm_upF C (j - 32) k) (if j < 32 then pm_upF M j m else M) i) S else _) = qv_o e i (qv_c C M i) S
        rw [if_pos he', qv_up]
        by_cases h : j = i
        · subst h
          rw [if_pos rfl]
          rfl
        · rw [if_neg h, if_neg h]
end QV
