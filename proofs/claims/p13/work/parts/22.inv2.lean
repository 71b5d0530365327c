section PJ
theorem pi_rt {C : Nat → Nat} {n : Nat} (hC : ∀ a, a < 128 → C a < 8) : ∀ (f d : Nat) (acc : List Nat) (T : pm_T) (r : Option (List Nat)) (T' : pm_T), pi_T T → T.1 = 0 → f + acc.length = 25 → (∀ t, t ∈ acc → pi_tok T.2.2.2.length t ∨ (2049 ≤ t ∧ t ≤ 2048 + n)) → pm_rt C n f d acc T = (r, T') →
    pi_to T T' ∧ (∀ m, r = some m → T'.1 = 0 ∧ m.length ≤ 24 ∧ ∀ t, t ∈ m → pi_tok T'.2.2.2.length t ∨ (2049 ≤ t ∧ t ≤ 2048 + n)) ∧ (r = none → f ≠ 0 → T'.1 ≠ 0) := by
  intro f
  induction f with
  | zero =>
    intro d acc T r T' hT h0 hf ha h
    cases h
    exact ⟨pi_to_rf hT, fun m hm => (nomatch hm), fun _ z => absurd rfl z⟩
  | succ f ih =>
    intro d acc T r T' hT h0 hf ha h
    rcases e : pm_take 3 C T with ⟨_ | t, T1⟩
    · obtain ⟨a, b⟩ := pi_tn hT hC h0 e
      simp only [pm_rt, e] at h
      cases h
      exact ⟨a, fun m hm => (nomatch hm), fun _ _ => b⟩
    · obtain ⟨a, b, c, dd⟩ := pi_tk hT hC h0 e
      have ha1 : ∀ t, t ∈ acc → pi_tok T1.2.2.2.length t ∨ (2049 ≤ t ∧ t ≤ 2048 + n) := fun y hy => (ha y hy).imp (fun z => pi_tok_le z (pi_to_k a)) id
      simp only [pm_rt, e] at h
      split at h
      · cases h
        refine ⟨a, fun m hm => ?_, fun z => (nomatch z)⟩
        cases hm
        exact ⟨b, by omega, ha1⟩
      · split at h
        · rcases e2 : pm_take 3 C T1 with ⟨_ | v, T2⟩
          · obtain ⟨a2, b2⟩ := pi_tn a.1 hC b e2
            simp only [e2] at h
            cases h
            exact ⟨pi_to_tr a a2, fun m hm => (nomatch hm), fun _ _ => b2⟩
          · obtain ⟨a2, b2, c2, d2⟩ := pi_tk a.1 hC b e2
            simp only [e2] at h
            rcases e3 : pm_pair n t v with _ | w
            · simp only [e3] at h
              cases h
              exact ⟨pi_to_tr a a2, fun m hm => (nomatch hm), fun _ _ => by show 6 ≠ 0; decide⟩
            · simp only [e3] at h
              split at h
              · cases h
                exact ⟨pi_to_tr a a2, fun m hm => (nomatch hm), fun _ _ => by show 7 ≠ 0; decide⟩
              · next h8 =>
                have hw : pi_tok T2.2.2.2.length w ∨ (2049 ≤ w ∧ w ≤ 2048 + n) := by
                  unfold pm_pair at e3
                  split at e3
                  · cases e3
                    exact Or.inl (pi_tok_le c (pi_to_k a2))
                  · split at e3
                    · next hr =>
                      cases e3
                      exact Or.inr ⟨by omega, by omega⟩
                    · cases e3
                obtain ⟨g1, g2, g3⟩ := ih _ _ _ _ _ a2.1 b2 (by rw [List.length_append]; simp only [List.length_cons, List.length_nil]; omega) (fun y hy => by
                  rcases List.mem_append.mp hy with hy | hy
                  · exact (ha1 y hy).imp (fun z => pi_tok_le z (pi_to_k a2)) id
                  · cases List.mem_singleton.mp hy
                    exact hw) h
                refine ⟨pi_to_tr a (pi_to_tr a2 g1), g2, fun z _ => g3 z ?_⟩
                rintro rfl
                omega
        · split at h
          · cases h
            exact ⟨a, fun m hm => (nomatch hm), fun _ _ => by show 7 ≠ 0; decide⟩
          · next h8 =>
            obtain ⟨g1, g2, g3⟩ := ih _ _ _ _ _ a.1 b (by rw [List.length_append]; simp only [List.length_cons, List.length_nil]; omega) (fun y hy => by
              rcases List.mem_append.mp hy with hy | hy
              · exact ha1 y hy
              · cases List.mem_singleton.mp hy
                exact Or.inl c) h
            refine ⟨pi_to_tr a g1, g2, fun z _ => g3 z ?_⟩
            rintro rfl
            omega
theorem pi_pre {C : Nat → Nat} (hC : ∀ a, a < 128 → C a < 8) : ∀ (as : List Nat) (T : pm_T) (r : Bool) (T' : pm_T), pi_T T → T.1 = 0 → pm_pre C as T = (r, T') → pi_to T T' ∧ (r = true → T'.1 = 0) ∧ (r = false → T'.1 ≠ 0) := by
  intro as
  induction as with
  | nil =>
    intro T r T' hT h0 h
    cases h
    exact ⟨pi_to_rf hT, fun _ => h0, fun z => (nomatch z)⟩
  | cons q as ih =>
    intro T r T' hT h0 h
    rcases e : pm_take 3 C T with ⟨_ | t, T1⟩
    · obtain ⟨a, b⟩ := pi_tn hT hC h0 e
      simp only [pm_pre, e] at h
      cases h
      exact ⟨a, fun z => (nomatch z), fun _ => b⟩
    · obtain ⟨a, b, c, d⟩ := pi_tk hT hC h0 e
      simp only [pm_pre, e] at h
      split at h
      · obtain ⟨g1, g2⟩ := ih _ _ _ a.1 b h
        exact ⟨pi_to_tr a g1, g2⟩
      · cases h
        exact ⟨a, fun z => (nomatch z), fun _ => by show 8 ≠ 0; decide⟩
theorem pi_sp {C : Nat → Nat} (hC : ∀ a, a < 128 → C a < 8) : ∀ (f : Nat) (T : pm_T) (r : Option Nat) (T' : pm_T), pi_T T → T.1 = 0 → pm_len T < f → pm_sp C f T = (r, T') →
    pi_to T T' ∧ (∀ t, r = some t → T'.1 = 0 ∧ pi_tok T'.2.2.2.length t ∧ pm_cat t ≠ 4) ∧ (r = none → T'.1 ≠ 0) := by
  intro f
  induction f with
  | zero => intro T r T' hT h0 hf; omega
  | succ f ih =>
    intro T r T' hT h0 hf h
    rcases e : pm_take 3 C T with ⟨_ | t, T1⟩
    · obtain ⟨a, b⟩ := pi_tn hT hC h0 e
      simp only [pm_sp, e] at h
      cases h
      exact ⟨a, fun t z => (nomatch z), fun _ => b⟩
    · obtain ⟨a, b, c, d⟩ := pi_tk hT hC h0 e
      simp only [pm_sp, e] at h
      split at h
      · obtain ⟨g1, g2⟩ := ih _ _ _ a.1 b (by omega) h
        exact ⟨pi_to_tr a g1, g2⟩
      · next h4 =>
        cases h
        refine ⟨a, fun y hy => ?_, fun z => (nomatch z)⟩
        cases hy
        exact ⟨b, c, h4⟩
theorem pi_all {k k' : Nat} {l : List Nat} {t : Nat} (h : ∀ y, y ∈ l → pi_tok k y) (hk : k ≤ k') (ht : pi_tok k' t) : ∀ y, y ∈ l ++ [t] → pi_tok k' y := fun y hy => by
  rcases List.mem_append.mp hy with hy | hy
  · exact pi_tok_le (h y hy) hk
  · cases List.mem_singleton.mp hy
    exact ht
theorem pi_grp {b : Bool} {C : Nat → Nat} {room : Nat} (hC : ∀ a, a < 128 → C a < 8) : ∀ (f d : Nat) (acc : List Nat) (T : pm_T) (r : Option (List Nat)) (T' : pm_T), pi_T T → T.1 = 0 → pm_len T < f → (∀ y, y ∈ acc → pi_tok T.2.2.2.length y) → pm_grp b C room f d acc T = (r, T') →
    pi_to T T' ∧ (∀ a, r = some a → T'.1 = 0 ∧ (∀ y, y ∈ a → pi_tok T'.2.2.2.length y) ∧ acc.length ≤ a.length) ∧ (r = none → T'.1 ≠ 0) := by
  intro f
  induction f with
  | zero => intro d acc T r T' hT h0 hf; omega
  | succ f ih =>
    intro d acc T r T' hT h0 hf ha h
    rcases e : pm_take 3 C T with ⟨_ | t, T1⟩
    · obtain ⟨a, b⟩ := pi_tn hT hC h0 e
      simp only [pm_grp, e] at h
      cases h
      exact ⟨a, fun t z => (nomatch z), fun _ => b⟩
    · obtain ⟨a, b, c, dd⟩ := pi_tk hT hC h0 e
      simp only [pm_grp, e] at h
      split at h
      · cases h
        refine ⟨a, fun y hy => ?_, fun z => (nomatch z)⟩
        cases hy
        exact ⟨b, fun y hy => pi_tok_le (ha y hy) (pi_to_k a), Nat.le_refl _⟩
      · split at h
        · cases h
          exact ⟨a, fun t z => (nomatch z), fun _ => by show 16 ≠ 0; decide⟩
        · obtain ⟨g1, g2, g3⟩ := ih _ _ _ _ _ a.1 b (by omega) (pi_all ha (pi_to_k a) c) h
          refine ⟨pi_to_tr a g1, fun y hy => ?_, g3⟩
          obtain ⟨k1, k2, k3⟩ := g2 y hy
          rw [List.length_append] at k3
          exact ⟨k1, k2, by omega⟩
theorem pi_und {b : Bool} {C : Nat → Nat} {room : Nat} (hC : ∀ a, a < 128 → C a < 8) {T T' : pm_T} {r : Option (List Nat)} (hT : pi_T T) (h0 : T.1 = 0) (h : pm_und b C room T = (r, T')) :
    pi_to T T' ∧ (∀ a, r = some a → T'.1 = 0 ∧ ∀ y, y ∈ a → pi_tok T'.2.2.2.length y) ∧ (r = none → T'.1 ≠ 0) := by
  rcases e : pm_sp C (pm_len T + 1) T with ⟨_ | t, T1⟩
  · obtain ⟨a, _, c⟩ := pi_sp hC _ _ _ _ hT h0 (by omega) e
    simp only [pm_und, e] at h
    cases h
    exact ⟨a, fun t z => (nomatch z), fun _ => c rfl⟩
  · obtain ⟨a, bb, _⟩ := pi_sp hC _ _ _ _ hT h0 (by omega) e
    obtain ⟨b1, b2, b3⟩ := bb t rfl
    simp only [pm_und, e] at h
    split at h
    · cases h
      exact ⟨a, fun t z => (nomatch z), fun _ => by show 8 ≠ 0; decide⟩
    · split at h
      · obtain ⟨g1, g2, g3⟩ := pi_grp hC _ _ [] _ _ _ a.1 b1 (by omega) (fun y hy => (nomatch hy)) h
        exact ⟨pi_to_tr a g1, fun y hy => ⟨(g2 y hy).1, (g2 y hy).2.1⟩, g3⟩
      · split at h
        · cases h
          exact ⟨a, fun t z => (nomatch z), fun _ => by show 16 ≠ 0; decide⟩
        · cases h
          refine ⟨a, fun y hy => ?_, fun z => (nomatch z)⟩
          cases hy
          exact ⟨b1, fun y hy => by cases List.mem_singleton.mp hy; exact b2⟩
theorem pi_look_ps {ns : List (List Nat)} {w r : List Nat} {x : Option Nat} {T' : pm_T} (h : pm_look ns w r = (x, T')) : T'.2.2.1 = [] := by
  unfold pm_look at h
  split at h
  · cases h; rfl
  · split at h <;> (cases h; rfl)
theorem pi_raw_ps {e : Nat} {C : Nat → Nat} {ns : List (List Nat)} {x : Option Nat} {T' : pm_T} : ∀ r : List Nat, pm_raw e C ns r = (x, T') → T'.2.2.1 = [] := by
  intro r
  induction r with
  | nil => intro h; cases h; rfl
  | cons c cs ih =>
    intro h
    simp only [pm_raw] at h
    split at h
    · cases cs with
      | nil => cases h; rfl
      | cons n cs =>
        simp only [pm_cs] at h
        split at h
        · cases h; rfl
        · exact pi_look_ps h
    · split at h
      · exact ih h
      · cases h; rfl
theorem pi_tps {e : Nat} {C : Nat → Nat} {T T' : pm_T} {t : Nat} (h : pm_take e C T = (some t, T')) : T.2.2.1 = t :: T'.2.2.1 ∨ (T.2.2.1 = [] ∧ T'.2.2.1 = []) := by
  obtain ⟨st, rest, ps, ns⟩ := T
  cases ps with
  | nil => exact Or.inr ⟨rfl, pi_raw_ps rest h⟩
  | cons y ps => cases h; exact Or.inl rfl
theorem pi_ah {C : Nat → Nat} (hC : ∀ a, a < 128 → C a < 8) : ∀ (as : List Nat) (T : pm_T) (r : Option Bool) (T' : pm_T), pi_T T → T.1 = 0 → as.length ≤ 8 → pm_ah C as T = (r, T') →
    pi_to T T' ∧ (∀ a, r = some a → T'.1 = 0) ∧ (r = none → T'.1 ≠ 0) ∧ (T'.2.2.1.length ≤ T.2.2.1.length ∨ T'.2.2.1.length ≤ as.length) := by
  intro as
  induction as with
  | nil =>
    intro T r T' hT h0 hl h
    cases h
    exact ⟨pi_to_rf hT, fun _ _ => h0, fun z => (nomatch z), Or.inl (Nat.le_refl _)⟩
  | cons q as ih =>
    intro T r T' hT h0 hl h
    have hl' : as.length + 1 ≤ 8 := hl
    rcases e : pm_take 3 C T with ⟨_ | t, T1⟩
    · obtain ⟨a, b⟩ := pi_tn hT hC h0 e
      have ep : T1.2.2.1 = [] := by
        obtain ⟨st, rest, ps, ns⟩ := T
        cases ps with
        | nil => exact pi_raw_ps rest e
        | cons y ps => cases e
      simp only [pm_ah, e] at h
      cases h
      exact ⟨a, fun _ z => (nomatch z), fun _ => b, Or.inr (by rw [ep]; exact Nat.zero_le _)⟩
    · obtain ⟨a, b, c, d⟩ := pi_tk hT hC h0 e
      have hp := pi_tps e
      have hfr : ∀ T2 : pm_T, pi_to T1 T2 → T2.1 = 0 → (T2.2.2.1.length ≤ T1.2.2.1.length ∨ T2.2.2.1.length ≤ as.length) → pi_to T (pm_front t T2) ∧ (∀ a, some false = some a → (pm_front t T2).1 = 0) ∧ (some false = none → (pm_front t T2).1 ≠ 0) ∧ ((pm_front t T2).2.2.1.length ≤ T.2.2.1.length ∨ (pm_front t T2).2.2.1.length ≤ (q :: as).length) := by
        intro T2 g g0 gl
        have l2 : (pm_front t T2).2.2.1.length = T2.2.2.1.length + 1 := rfl
        have l3 : (q :: as).length = as.length + 1 := rfl
        have l4 : pm_len (pm_front t T2) = T2.2.1.length + (T2.2.2.1.length + 1) := rfl
        have l5 : pm_len T2 = T2.2.1.length + T2.2.2.1.length := rfl
        have l6 : T.2.2.1.length = T1.2.2.1.length + 1 ∨ T1.2.2.1.length = 0 := by
          rcases hp with hp | hp
          · exact Or.inl (by rw [hp]; rfl)
          · exact Or.inr (by rw [hp.2]; rfl)
        have l7 : T.2.2.1.length ≤ 256 := hT.2.2.2.1
        have gl2 : T2.2.2.1.length + 1 ≤ T.2.2.1.length ∨ T2.2.2.1.length + 1 ≤ as.length + 1 := by omega
        refine ⟨⟨⟨g.1.1, g.1.2.1, g.1.2.2.1, by rw [l2]; omega, fun y hy => ?_⟩, a.2.1.trans g.2.1, by have := g.2.2; omega⟩, fun _ _ => g0, fun z => (nomatch z), by rw [l2, l3]; exact gl2⟩
        rcases List.mem_cons.mp hy with hy | hy
        · rw [hy]; exact pi_tok_le c (show T1.2.2.2.length ≤ T2.2.2.2.length from pi_to_k g)
        · exact g.1.2.2.2.2 y hy
      simp only [pm_ah, e] at h
      split at h
      · rcases e2 : pm_ah C as T1 with ⟨_ | _ | _, T2⟩
        · obtain ⟨g1, g2, g3, g4⟩ := ih _ _ _ a.1 b (by omega) e2
          simp only [e2] at h
          cases h
          refine ⟨pi_to_tr a g1, fun _ z => (nomatch z), fun _ => g3 rfl, ?_⟩
          have l3 : (q :: as).length = as.length + 1 := rfl
          rcases hp with hp | hp
          · have : T.2.2.1.length = T1.2.2.1.length + 1 := by rw [hp]; rfl
            omega
          · have : T1.2.2.1.length = 0 := by rw [hp.2]; rfl
            omega
        · obtain ⟨g1, g2, g3, g4⟩ := ih _ _ _ a.1 b (by omega) e2
          simp only [e2] at h
          cases h
          exact hfr T2 g1 (g2 _ rfl) g4
        · obtain ⟨g1, g2, g3, g4⟩ := ih _ _ _ a.1 b (by omega) e2
          simp only [e2] at h
          cases h
          refine ⟨pi_to_tr a g1, fun _ _ => g2 _ rfl, fun z => (nomatch z), ?_⟩
          have l3 : (q :: as).length = as.length + 1 := rfl
          rcases hp with hp | hp
          · have : T.2.2.1.length = T1.2.2.1.length + 1 := by rw [hp]; rfl
            omega
          · have : T1.2.2.1.length = 0 := by rw [hp.2]; rfl
            omega
      · cases h
        exact hfr T1 (pi_to_rf a.1) b (Or.inl (Nat.le_refl _))
theorem pi_del {b : Bool} {C : Nat → Nat} {room : Nat} {dl : List Nat} (hC : ∀ a, a < 128 → C a < 8) (hd : dl.length ≤ 8) : ∀ (f d : Nat) (og : Bool) (acc : List Nat) (T : pm_T) (r : Option (List Nat)) (T' : pm_T), pi_T T → T.1 = 0 → pm_len T < f → (∀ y, y ∈ acc → pi_tok T.2.2.2.length y) → pm_del b C room dl f d og acc T = (r, T') →
    pi_to T T' ∧ (∀ a, r = some a → T'.1 = 0 ∧ (∀ y, y ∈ a → pi_tok T'.2.2.2.length y)) ∧ (r = none → T'.1 ≠ 0) := by
  intro f
  induction f with
  | zero => intro d og acc T r T' hT h0 hf; omega
  | succ f ih =>
    intro d og acc T r T' hT h0 hf ha h
    have hx : ∃ x T1, (if d = 0 then pm_ah C dl T else (some false, T)) = (x, T1) ∧ pi_to T T1 ∧ (∀ a, x = some a → T1.1 = 0) ∧ (x = none → T1.1 ≠ 0) := by
      by_cases hd0 : d = 0
      · rw [if_pos hd0]
        obtain ⟨g1, g2, g3, g4⟩ := pi_ah hC dl T _ _ hT h0 hd rfl
        exact ⟨_, _, rfl, g1, g2, g3⟩
      · rw [if_neg hd0]
        exact ⟨_, _, rfl, pi_to_rf hT, fun _ _ => h0, fun z => (nomatch z)⟩
    obtain ⟨x, T1, hx, a, b1, b2⟩ := hx
    simp only [pm_del, hx] at h
    rcases x with _ | _ | _
    · cases h
      exact ⟨a, fun _ z => (nomatch z), fun _ => b2 rfl⟩
    · simp only at h
      have a0 := b1 _ rfl
      rcases e : pm_take 3 C T1 with ⟨_ | t, T2⟩
      · obtain ⟨g, k⟩ := pi_tn a.1 hC a0 e
        simp only [e] at h
        cases h
        exact ⟨pi_to_tr a g, fun t z => (nomatch z), fun _ => k⟩
      · obtain ⟨g, k, c, dd⟩ := pi_tk a.1 hC a0 e
        simp only [e] at h
        split at h
        · cases h
          exact ⟨pi_to_tr a g, fun t z => (nomatch z), fun _ => by show 8 ≠ 0; decide⟩
        · split at h
          · cases h
            exact ⟨pi_to_tr a g, fun t z => (nomatch z), fun _ => by show 16 ≠ 0; decide⟩
          · have := a.2.2
            obtain ⟨g1, g2, g3⟩ := ih _ _ _ _ _ _ g.1 k (by omega) (pi_all ha (pi_to_k (pi_to_tr a g)) c) h
            exact ⟨pi_to_tr a (pi_to_tr g g1), g2, g3⟩
    · cases h
      refine ⟨a, fun y hy => ?_, fun z => (nomatch z)⟩
      cases hy
      refine ⟨b1 _ rfl, fun y hy => pi_tok_le (ha y ?_) (pi_to_k a)⟩
      split at hy
      · exact List.mem_of_mem_tail (List.dropLast_subset _ hy)
      · exact hy
theorem pi_arg {b : Bool} {C : Nat → Nat} {room : Nat} {dl : List Nat} (hC : ∀ a, a < 128 → C a < 8) (hd : dl.length ≤ 8) {T T' : pm_T} {r : Option (List Nat)} (hT : pi_T T) (h0 : T.1 = 0) (h : pm_arg b C room dl T = (r, T')) :
    pi_to T T' ∧ (∀ a, r = some a → T'.1 = 0 ∧ ∀ y, y ∈ a → pi_tok T'.2.2.2.length y) ∧ (r = none → T'.1 ≠ 0) := by
  unfold pm_arg at h
  split at h
  · exact pi_und hC hT h0 h
  · exact pi_del hC hd _ _ _ [] _ _ _ hT h0 (by omega) (fun y hy => (nomatch hy)) h
theorem pi_args {b : Bool} {C : Nat → Nat} (hC : ∀ a, a < 128 → C a < 8) : ∀ (n : Nat) (pt : List Nat) (tot : Nat) (acc : List (List Nat)) (T : pm_T) (r : Option (List (List Nat))) (T' : pm_T), pi_T T → T.1 = 0 → pt.length ≤ 8 → (∀ a, a ∈ acc → ∀ y, y ∈ a → pi_tok T.2.2.2.length y) → pm_args b C n pt tot acc T = (r, T') →
    pi_to T T' ∧ (∀ as, r = some as → T'.1 = 0 ∧ as.length = acc.length + n ∧ ∀ a, a ∈ as → ∀ y, y ∈ a → pi_tok T'.2.2.2.length y) ∧ (r = none → T'.1 ≠ 0) := by
  intro n
  induction n with
  | zero =>
    intro pt tot acc T r T' hT h0 hl ha h
    cases h
    refine ⟨pi_to_rf hT, fun as hs => ?_, fun z => (nomatch z)⟩
    cases hs
    exact ⟨h0, rfl, ha⟩
  | succ n ih =>
    intro pt tot acc T r T' hT h0 hl ha h
    have hd : (pt.tail.takeWhile (fun r => decide (r < 2048))).length ≤ 8 := Nat.le_trans (List.takeWhile_sublist _).length_le (by rw [List.length_tail]; omega)
    have hd2 : (pt.tail.dropWhile (fun r => decide (r < 2048))).length ≤ 8 := Nat.le_trans (List.dropWhile_sublist _).length_le (by rw [List.length_tail]; omega)
    rcases e : pm_arg b C (256 - tot) (pt.tail.takeWhile (fun r => decide (r < 2048))) T with ⟨_ | a, T1⟩
    · obtain ⟨g, _, k⟩ := pi_arg hC hd hT h0 e
      simp only [pm_args, e] at h
      cases h
      exact ⟨g, fun _ z => (nomatch z), fun _ => k rfl⟩
    · obtain ⟨g, k, _⟩ := pi_arg hC hd hT h0 e
      obtain ⟨k1, k2⟩ := k a rfl
      simp only [pm_args, e] at h
      split at h
      · cases h
        exact ⟨g, fun _ z => (nomatch z), fun _ => by show 16 ≠ 0; decide⟩
      · obtain ⟨g1, g2, g3⟩ := ih _ _ _ _ _ _ g.1 k1 hd2 (fun y hy => by
          rcases List.mem_append.mp hy with hy | hy
          · exact fun z hz => pi_tok_le (ha y hy z hz) (pi_to_k g)
          · cases List.mem_singleton.mp hy
            exact k2) h
        refine ⟨pi_to_tr g g1, fun as hs => ?_, g3⟩
        obtain ⟨m1, m2, m3⟩ := g2 as hs
        rw [List.length_append] at m2
        exact ⟨m1, by rw [m2]; simp only [List.length_cons, List.length_nil]; omega, m3⟩
end PJ
