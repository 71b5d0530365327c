section PE
theorem pe_grp {C : Nat → Nat} {room : Nat} (hC : ∀ a, a < 128 → C a < 8) : ∀ (f d : Nat) (acc : List Nat) (T : pm_T), pi_T T → T.1 = 0 → pm_len T < f → (∀ y, y ∈ acc → pi_tok T.2.2.2.length y) →
    pm_grp true C room f d acc T = pm_grp false C room f d acc T ∨ ((∃ T1, pm_grp true C room f d acc T = (none, T1) ∧ T1.1 ≠ 0) ∧ ∀ r T2, pm_grp false C room f d acc T = (r, T2) → (r = none → T2.1 ≠ 0) ∧ ∀ a, r = some a → room < a.length) := by
  intro f
  induction f with
  | zero => intro d acc T hT h0 hf; omega
  | succ f ih =>
    intro d acc T hT h0 hf ha
    rcases e : pm_take 3 C T with ⟨_ | t, T1⟩
    · simp only [pm_grp, e]
      exact Or.inl trivial
    · obtain ⟨a, b, c, dd⟩ := pi_tk hT hC h0 e
      simp only [pm_grp, e]
      by_cases hz : pm_nest t d = 0
      · simp only [if_pos hz]
        exact Or.inl trivial
      · simp only [if_neg hz]
        rw [if_neg (show ¬ (false = true ∧ room ≤ acc.length) from fun z => (nomatch z.1))]
        by_cases hr : room ≤ acc.length
        · rw [if_pos ⟨trivial, hr⟩]
          refine Or.inr ⟨⟨_, rfl, by show 16 ≠ 0; decide⟩, fun r T2 h => ?_⟩
          obtain ⟨_, g2, g3⟩ := pi_grp hC _ _ _ _ _ _ a.1 b (by omega) (pi_all ha (pi_to_k a) c) h
          refine ⟨g3, fun y hy => ?_⟩
          have := (g2 y hy).2.2
          rw [List.length_append] at this
          simp only [List.length_cons, List.length_nil] at this
          omega
        · rw [if_neg (fun z => hr z.2)]
          exact ih _ _ _ a.1 b (by omega) (pi_all ha (pi_to_k a) c)
theorem pe_und {C : Nat → Nat} {room : Nat} (hC : ∀ a, a < 128 → C a < 8) {T : pm_T} (hT : pi_T T) (h0 : T.1 = 0) :
    pm_und true C room T = pm_und false C room T ∨ ((∃ T1, pm_und true C room T = (none, T1) ∧ T1.1 ≠ 0) ∧ ∀ r T2, pm_und false C room T = (r, T2) → (r = none → T2.1 ≠ 0) ∧ ∀ a, r = some a → room < a.length) := by
  rcases e : pm_sp C (pm_len T + 1) T with ⟨_ | t, T1⟩
  · simp only [pm_und, e]
    exact Or.inl trivial
  · obtain ⟨a, bb, _⟩ := pi_sp hC _ _ _ _ hT h0 (by omega) e
    obtain ⟨b1, b2, b3⟩ := bb t rfl
    simp only [pm_und, e]
    by_cases h2 : pm_cat t = 2
    · simp only [if_pos h2]
      exact Or.inl trivial
    · simp only [if_neg h2]
      by_cases h1 : pm_cat t = 1
      · simp only [if_pos h1]
        exact pe_grp hC _ _ [] _ a.1 b1 (by omega) (fun y hy => (nomatch hy))
      · simp only [if_neg h1]
        rw [if_neg (show ¬ (false = true ∧ room ≤ 0) from fun z => (nomatch z.1))]
        by_cases hr : room ≤ 0
        · rw [if_pos ⟨trivial, hr⟩]
          refine Or.inr ⟨⟨_, rfl, by show 16 ≠ 0; decide⟩, fun r T2 h => ?_⟩
          cases h
          refine ⟨fun z => (nomatch z), fun y hy => ?_⟩
          cases hy
          show room < 1
          omega
        · rw [if_neg (fun z => hr z.2)]
          exact Or.inl rfl
theorem pe_dl {C : Nat → Nat} {room : Nat} {dl : List Nat} : ∀ (f d : Nat) (og : Bool) (acc : List Nat) (T : pm_T) (a : List Nat) (T' : pm_T), pm_del false C room dl f d og acc T = (some a, T') → acc ≠ [] →
    (og = false → acc.length ≤ a.length) ∧ (og = true → acc.length + (if 0 < d then 1 else 0) ≤ a.length + 2) := by
  intro f
  induction f with
  | zero => intro d og acc T a T' h; cases h
  | succ f ih =>
    intro d og acc T a T' h hne
    rcases hx : (if d = 0 then pm_ah C dl T else (some false, T)) with ⟨_ | _ | _, T1⟩
    · simp only [pm_del, hx] at h
      cases h
    · simp only [pm_del, hx] at h
      rcases e : pm_take 3 C T1 with ⟨_ | t, T2⟩
      · simp only [e] at h
        cases h
      · simp only [e] at h
        split at h
        · cases h
        · split at h
          · cases h
          · obtain ⟨g1, g2⟩ := ih _ _ _ _ _ _ h (by simp)
            rw [List.length_append] at g1 g2
            simp only [List.length_cons, List.length_nil] at g1 g2
            have hemp : acc.isEmpty = false := by
              cases acc with
              | nil => exact absurd rfl hne
              | cons y ys => rfl
            constructor
            · intro ho
              have : pm_og og d t acc = false := by
                unfold pm_og
                split
                · rw [hemp, Bool.and_false]
                · exact ho
              have := g1 this
              omega
            · intro ho
              by_cases hd0 : d = 0
              · have : pm_og og d t acc = false := by
                  unfold pm_og
                  rw [if_pos hd0, hemp, Bool.and_false]
                have := g1 this
                rw [if_neg (by omega)]
                omega
              · have : pm_og og d t acc = true := by
                  unfold pm_og
                  rw [if_neg hd0]
                  exact ho
                have := g2 this
                rw [if_pos (by omega)]
                split at this <;> omega
    · simp only [pm_del, hx] at h
      cases h
      have hd0 : d = 0 := by
        by_cases hd0 : d = 0
        · exact hd0
        · rw [if_neg hd0] at hx
          cases hx
      constructor
      · intro ho
        rw [ho]
        exact Nat.le_refl _
      · intro ho
        rw [ho, if_neg (by omega), if_pos rfl, List.length_dropLast, List.length_tail]
        omega
theorem pe_del {C : Nat → Nat} {room : Nat} {dl : List Nat} (hC : ∀ a, a < 128 → C a < 8) (hd : dl.length ≤ 8) : ∀ (f d : Nat) (og : Bool) (acc : List Nat) (T : pm_T), pi_T T → T.1 = 0 → pm_len T < f → (∀ y, y ∈ acc → pi_tok T.2.2.2.length y) →
    pm_del true C room dl f d og acc T = pm_del false C room dl f d og acc T ∨ ((∃ T1, pm_del true C room dl f d og acc T = (none, T1) ∧ T1.1 ≠ 0) ∧ ∀ r T2, pm_del false C room dl f d og acc T = (r, T2) → (r = none → T2.1 ≠ 0) ∧ ∀ a, r = some a → room < a.length) := by
  intro f
  induction f with
  | zero => intro d og acc T hT h0 hf; omega
  | succ f ih =>
    intro d og acc T hT h0 hf ha
    have hx : ∃ x T1, (if d = 0 then pm_ah C dl T else (some false, T)) = (x, T1) ∧ pi_to T T1 ∧ (∀ a, x = some a → T1.1 = 0) ∧ (x = none → T1.1 ≠ 0) := by
      by_cases hd0 : d = 0
      · rw [if_pos hd0]
        obtain ⟨g1, g2, g3, g4⟩ := pi_ah hC dl T _ _ hT h0 hd rfl
        exact ⟨_, _, rfl, g1, g2, g3⟩
      · rw [if_neg hd0]
        exact ⟨_, _, rfl, pi_to_rf hT, fun _ _ => h0, fun z => (nomatch z)⟩
    obtain ⟨x, T1, hx, a, b1, b2⟩ := hx
    rcases x with _ | _ | _
    · simp only [pm_del, hx]
      exact Or.inl trivial
    · have a0 := b1 _ rfl
      rcases e : pm_take 3 C T1 with ⟨_ | t, T2⟩
      · simp only [pm_del, hx, e]
        exact Or.inl trivial
      · obtain ⟨g, k, c, dd⟩ := pi_tk a.1 hC a0 e
        have al := a.2.2
        have hall := pi_all ha (pi_to_k (pi_to_tr a g)) c
        simp only [pm_del, hx, e]
        by_cases h8 : d = 0 ∧ pm_cat t = 2
        · simp only [if_pos h8]
          exact Or.inl trivial
        · simp only [if_neg h8]
          rw [if_neg (show ¬ (false = true ∧ room + pm_ob (pm_og og d t acc) (pm_nest t d) ≤ acc.length) from fun z => (nomatch z.1))]
          by_cases hr : room + pm_ob (pm_og og d t acc) (pm_nest t d) ≤ acc.length
          · rw [if_pos ⟨trivial, hr⟩]
            refine Or.inr ⟨⟨_, rfl, by show 16 ≠ 0; decide⟩, fun r T3 h => ?_⟩
            obtain ⟨_, _, g3⟩ := pi_del hC hd _ _ _ _ _ _ _ g.1 k (by omega) hall h
            refine ⟨g3, fun y hy => ?_⟩
            cases hy
            obtain ⟨q1, q2⟩ := pe_dl _ _ _ _ _ _ _ h (by simp)
            rw [List.length_append] at q1 q2
            simp only [List.length_cons, List.length_nil] at q1 q2
            cases ho : pm_og og d t acc with
            | false =>
              have := q1 ho
              omega
            | true =>
              have q3 := q2 ho
              rw [ho] at hr
              unfold pm_ob at hr
              rw [if_pos rfl] at hr
              by_cases hp : 0 < pm_nest t d
              · rw [if_pos hp] at q3 hr
                omega
              · rw [if_neg hp] at q3 hr
                omega
          · rw [if_neg (fun z => hr z.2)]
            exact ih _ _ _ _ g.1 k (by omega) hall
    · simp only [pm_del, hx]
      exact Or.inl trivial
theorem pe_arg {C : Nat → Nat} {room : Nat} {dl : List Nat} (hC : ∀ a, a < 128 → C a < 8) (hd : dl.length ≤ 8) {T : pm_T} (hT : pi_T T) (h0 : T.1 = 0) :
    pm_arg true C room dl T = pm_arg false C room dl T ∨ ((∃ T1, pm_arg true C room dl T = (none, T1) ∧ T1.1 ≠ 0) ∧ ∀ r T2, pm_arg false C room dl T = (r, T2) → (r = none → T2.1 ≠ 0) ∧ ∀ a, r = some a → room < a.length) := by
  unfold pm_arg
  split
  · exact pe_und hC hT h0
  · exact pe_del hC hd _ _ _ [] _ hT h0 (by omega) (fun y hy => (nomatch hy))
theorem pe_args {C : Nat → Nat} (hC : ∀ a, a < 128 → C a < 8) : ∀ (n : Nat) (pt : List Nat) (tot : Nat) (acc : List (List Nat)) (T : pm_T), pi_T T → T.1 = 0 → pt.length ≤ 8 → tot ≤ 256 →
    pm_args true C n pt tot acc T = pm_args false C n pt tot acc T ∨ ∃ T1 T2, pm_args true C n pt tot acc T = (none, T1) ∧ T1.1 ≠ 0 ∧ pm_args false C n pt tot acc T = (none, T2) ∧ T2.1 ≠ 0 := by
  intro n
  induction n with
  | zero => intro pt tot acc T _ _ _ _; exact Or.inl rfl
  | succ n ih =>
    intro pt tot acc T hT h0 hl ht
    have hd : (pt.tail.takeWhile (fun r => decide (r < 2048))).length ≤ 8 := Nat.le_trans (List.takeWhile_sublist _).length_le (by rw [List.length_tail]; omega)
    have hd2 : (pt.tail.dropWhile (fun r => decide (r < 2048))).length ≤ 8 := Nat.le_trans (List.dropWhile_sublist _).length_le (by rw [List.length_tail]; omega)
    rcases pe_arg (room := 256 - tot) hC hd hT h0 with e | ⟨⟨T1, e1, e2⟩, e3⟩
    · rcases e4 : pm_arg false C (256 - tot) (pt.tail.takeWhile (fun r => decide (r < 2048))) T with ⟨_ | a, T1⟩
      · simp only [pm_args, e, e4]
        exact Or.inl trivial
      · obtain ⟨g, k, _⟩ := pi_arg hC hd hT h0 e4
        simp only [pm_args, e, e4]
        by_cases h256 : 256 < tot + a.length
        · simp only [if_pos h256]
          exact Or.inl trivial
        · simp only [if_neg h256]
          exact ih _ _ _ _ g.1 (k a rfl).1 hd2 (by omega)
    · rcases e4 : pm_arg false C (256 - tot) (pt.tail.takeWhile (fun r => decide (r < 2048))) T with ⟨_ | a, T2⟩
      · simp only [pm_args, e1, e4]
        exact Or.inr ⟨_, _, rfl, e2, rfl, (e3 _ _ e4).1 rfl⟩
      · have := (e3 _ _ e4).2 a rfl
        simp only [pm_args, e1, e4]
        rw [if_pos (by omega)]
        exact Or.inr ⟨_, _, rfl, e2, rfl, by show 16 ≠ 0; decide⟩
/-- two ends of a step: the same, or both an error with the rest the same -/
def pe_E (A B : pm_P) : Prop := A = B ∨ (A.2 = B.2 ∧ A.1.1 ≠ 0 ∧ B.1.1 ≠ 0)
theorem pe_exp {lim n : Nat} {P : pm_P} (h : pi_I lim P) (h0 : P.1.1 = 0) (hn4 : n ≠ 4) (hk : (P.2.2.1 n).1 = 2) : pe_E (pm_exp true lim n P) (pm_exp false lim n P) := by
  obtain ⟨T, C, M, S, d, c, o, x⟩ := P
  have hM : pi_mn T.2.2.2.length (M n) := h.2.2.1.2.1 n hn4
  have hm : (M n).2.2.1.length ≤ 8 := by
    have hk' : (M n).1 = 2 := hk
    rcases hM with z | z | z | z
    · rw [z] at hk'; cases hk'
    · omega
    · exact z.2.1
    · omega
  by_cases hx : lim ≤ x
  · simp only [pm_exp, if_pos hx]
    exact Or.inl rfl
  · rcases e : pm_pre C ((M n).2.2.1.takeWhile (fun r => decide (r < 2048))) T with ⟨_ | _, T1⟩
    · simp only [pm_exp, if_neg hx, e]
      exact Or.inl rfl
    · obtain ⟨a1, a2, _⟩ := pi_pre h.2.1 _ _ _ _ h.1 h0 e
      have hd2 : ((M n).2.2.1.dropWhile (fun r => decide (r < 2048))).length ≤ 8 := Nat.le_trans (List.dropWhile_sublist _).length_le hm
      rcases pe_args h.2.1 (M n).2.1 ((M n).2.2.1.dropWhile (fun r => decide (r < 2048))) 0 [] T1 a1.1 (a2 rfl) hd2 (by decide) with e2 | ⟨T2, T3, e2, e3, e4, e5⟩
      · simp only [pm_exp, if_neg hx, e, e2]
        exact Or.inl rfl
      · simp only [pm_exp, if_neg hx, e, e2, e4]
        exact Or.inr ⟨rfl, e3, e5⟩
theorem pe_step {lim t : Nat} {P : pm_P} (h : pi_I lim P) (h0 : P.1.1 = 0) (ht : pi_tok P.1.2.2.2.length t) : pe_E (pm_step true lim t P) (pm_step false lim t P) := by
  unfold pm_step
  by_cases h1 : t < 1024
  · simp only [if_pos h1]
    exact Or.inl rfl
  · have hid := pi_id ht h.1.1.2.1 h1
    simp only [if_neg h1]
    by_cases h2 : (P.2.2.1 (t - 1024)).1 = 0
    · simp only [if_pos h2]
      exact Or.inl rfl
    · simp only [if_neg h2]
      by_cases h3 : (P.2.2.1 (t - 1024)).1 = 2
      · simp only [if_pos h3]
        exact pe_exp h h0 hid.2.2 h3
      · simp only [if_neg h3]
        exact Or.inl rfl
theorem pe_stop {b : Bool} {lim f : Nat} {P : pm_P} (h : P.1.1 ≠ 0) : pm_run b lim f P = P := by
  cases f with
  | zero => rfl
  | succ f => unfold pm_run; rw [if_pos h]
theorem pe_run {lim : Nat} : ∀ (f : Nat) (P : pm_P), pi_I lim P → (pm_run true lim f P).2 = (pm_run false lim f P).2 := by
  intro f
  induction f with
  | zero => intro P h; rfl
  | succ f ih =>
    intro P h
    by_cases h0 : P.1.1 = 0
    · have hC : ∀ a, a < 128 → P.2.1 a < 8 := by obtain ⟨T, C, M, S, d, c, o, x⟩ := P; exact h.2.1
      have e2 : ∀ b, pm_run b lim (f + 1) P = match pm_take 1 P.2.1 P.1 with
          | (none, T1) => (T1, P.2)
          | (some t, T1) => pm_run b lim f (pm_step b lim t (T1, P.2)) := fun b => by
        conv => lhs; unfold pm_run
        rw [if_neg (fun z => z h0)]
        rfl
      rw [e2, e2]
      rcases e : pm_take 1 P.2.1 P.1 with ⟨_ | t, T1⟩
      · rfl
      · obtain ⟨a, b1, _⟩ := pi_take h.1 hC h0 (by decide) e
        obtain ⟨b2, b3, b4⟩ := b1 t rfl
        have hI := pi_toI (T := P.1) (q := P.2) h a
        simp only
        rcases pe_step (t := t) hI b2 b3 with k | ⟨k1, k2, k3⟩
        · rw [k]
          exact ih _ (pi_step (b := false) (t := t) hI b2 b3).1
        · rw [pe_stop k2, pe_stop k3, k1]
    · rw [pe_stop h0, pe_stop h0]
end PE
