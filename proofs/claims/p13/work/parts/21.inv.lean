section PI
def pi_tok (k t : Nat) : Prop := (128 ≤ t ∧ t < 896) ∨ (1024 ≤ t ∧ t < 1024 + k ∧ t ≠ 1028)
def pi_ns (ns : List (List Nat)) : Prop := 14 ≤ ns.length ∧ ns.length ≤ 32 ∧ 8 < (ns.getD 4 []).length ∧ ∀ w, w ∈ ns → 1 ≤ w.length ∧ w.length ≤ 11 ∧ ∀ c, c ∈ w → c < 128
def pi_T (T : pm_T) : Prop := pi_ns T.2.2.2 ∧ (∀ c, c ∈ T.2.1 → c < 128) ∧ T.2.1.length ≤ 256 ∧ T.2.2.1.length ≤ 256 ∧ ∀ t, t ∈ T.2.2.1 → pi_tok T.2.2.2.length t
def pi_mn (k : Nat) (m : pm_Mn) : Prop := m = pm_m0 ∨ (m.1 = 1 ∧ m.2.1 < 14 ∧ m.2.1 ≠ 4 ∧ m.2.2.1 = [] ∧ m.2.2.2 = []) ∨ (m.1 = 2 ∧ m.2.2.1.length ≤ 8 ∧ m.2.2.2.length ≤ 24 ∧ m.2.2.1.countP (fun r => decide (2048 ≤ r)) = m.2.1 ∧ (∀ t, t ∈ m.2.2.1 → pi_tok k t ∨ (2049 ≤ t ∧ t ≤ 2057)) ∧ (∀ t, t ∈ m.2.2.2 → pi_tok k t ∨ (2049 ≤ t ∧ t ≤ 2048 + m.2.1))) ∨ (m.1 = 3 ∧ 128 ≤ m.2.1 ∧ m.2.1 < 896 ∧ m.2.2.1 = [] ∧ m.2.2.2 = [])
def pi_M (k : Nat) (M : Nat → pm_Mn) : Prop := M 4 = (1, 4, [], []) ∧ (∀ i, i ≠ 4 → pi_mn k (M i)) ∧ ∀ i, k ≤ i → M i = pm_m0
def pi_sv (k d : Nat) (s : pm_Sv) : Prop := s.1 < 160 ∧ s.1 ≠ 4 ∧ (s.1 < 32 → s.1 < k ∧ pi_mn k s.2.2.1) ∧ (32 ≤ s.1 → s.2.2.2 < 8) ∧ 1 ≤ s.2.1 ∧ s.2.1 ≤ d
def pi_lv : List pm_Sv → Prop
  | [] => True
  | s :: S => (∀ r, r ∈ S → r.2.1 ≤ s.2.1 ∧ (r.2.1 = s.2.1 → r.1 ≠ s.1)) ∧ pi_lv S
def pi_Q (k lim : Nat) : pm_Q → Prop
  | (C, M, S, d, c, o, x) => (∀ a, a < 128 → C a < 8) ∧ pi_M k M ∧ S.length ≤ 32 ∧ (∀ s, s ∈ S → pi_sv k d s) ∧ pi_lv S ∧ d ≤ 8 ∧ c.length ≤ 8 ∧ (∀ a, a ∈ c → a ≤ 1) ∧ o.length ≤ 256 ∧ x ≤ lim ∧ lim ≤ 100
def pi_I (lim : Nat) (P : pm_P) : Prop := pi_T P.1 ∧ pi_Q P.1.2.2.2.length lim P.2
theorem pi_tok_le {k k' t : Nat} (h : pi_tok k t) (hk : k ≤ k') : pi_tok k' t := by
  rcases h with h | h
  · exact Or.inl h
  · exact Or.inr ⟨h.1, by omega, h.2.2⟩
theorem pi_mn_le {k k' : Nat} {m : pm_Mn} (h : pi_mn k m) (hk : k ≤ k') : pi_mn k' m := by
  rcases h with h | h | h | h
  · exact Or.inl h
  · exact Or.inr (Or.inl h)
  · obtain ⟨a, b, c, d, e, f⟩ := h
    refine Or.inr (Or.inr (Or.inl ⟨a, b, c, d, fun t ht => ?_, fun t ht => ?_⟩))
    · rcases e t ht with g | g
      · exact Or.inl (pi_tok_le g hk)
      · exact Or.inr g
    · rcases f t ht with g | g
      · exact Or.inl (pi_tok_le g hk)
      · exact Or.inr g
  · exact Or.inr (Or.inr (Or.inr h))
theorem pi_Q_le {k k' lim : Nat} {q : pm_Q} (h : pi_Q k lim q) (hk : k ≤ k') : pi_Q k' lim q := by
  obtain ⟨C, M, S, d, c, o, x⟩ := q
  obtain ⟨h1, h2, h3, h4, h5⟩ := h
  refine ⟨h1, ⟨h2.1, fun i hi => pi_mn_le (h2.2.1 i hi) hk, fun i hi => h2.2.2 i (by omega)⟩, h3, fun s hs => ?_, h5⟩
  obtain ⟨a, b, e, f⟩ := h4 s hs
  exact ⟨a, b, fun z => ⟨by have := (e z).1; omega, pi_mn_le (e z).2 hk⟩, f⟩
theorem pi_err {k : Nat} {T : pm_T} (h : pi_T T) : pi_T (pm_err k T) := h
theorem pi_look {ns : List (List Nat)} {w r : List Nat} {x : Option Nat} {T' : pm_T} (hn : pi_ns ns) (hr : ∀ c, c ∈ r → c < 128) (hl : r.length ≤ 256) (hw : 1 ≤ w.length) (hw8 : w.length ≤ 8) (hwc : ∀ c, c ∈ w → c < 128) (h : pm_look ns w r = (x, T')) :
    pi_T T' ∧ ns <+: T'.2.2.2 ∧ pm_len T' = r.length ∧ (∀ t, x = some t → T'.1 = 0 ∧ pi_tok T'.2.2.2.length t) ∧ (x = none → T'.1 ≠ 0) := by
  unfold pm_look at h
  split at h
  · next hi =>
    cases h
    refine ⟨⟨hn, hr, hl, Nat.zero_le _, fun t ht => (nomatch ht)⟩, List.prefix_refl _, rfl, fun t ht => ⟨rfl, ?_⟩, fun z => (nomatch z)⟩
    cases ht
    refine Or.inr ⟨by omega, by simpa using hi, fun e => ?_⟩
    have e4 : ns.idxOf w = 4 := by omega
    have g := List.getElem_idxOf hi
    have l : 4 < ns.length := by omega
    have g2 : ns.getD 4 [] = w := by
      rw [List.getD_eq_getElem?_getD, List.getElem?_eq_getElem l]
      simp only [e4] at g
      exact g
    have := hn.2.2.1
    rw [g2] at this
    omega
  · split at h
    · next hi h32 =>
      cases h
      exact ⟨⟨hn, hr, hl, Nat.zero_le _, fun t ht => (nomatch ht)⟩, List.prefix_refl _, rfl, fun t ht => (nomatch ht), fun _ => by show 5 ≠ 0; decide⟩
    · next hi h32 =>
      cases h
      obtain ⟨n1, n2, n3, n4⟩ := hn
      refine ⟨⟨⟨?_, ?_, ?_, ?_⟩, hr, hl, Nat.zero_le _, fun t ht => (nomatch ht)⟩, List.prefix_append _ _, rfl, fun t ht => ⟨rfl, ?_⟩, fun z => (nomatch z)⟩
      · show 14 ≤ (ns ++ [w]).length
        rw [List.length_append]; omega
      · show (ns ++ [w]).length ≤ 32
        rw [List.length_append]; simp only [List.length_cons, List.length_nil]; omega
      · show 8 < ((ns ++ [w]).getD 4 []).length
        rw [List.getD_eq_getElem?_getD, List.getElem?_append_left (by omega), ← List.getD_eq_getElem?_getD]
        exact n3
      · intro v hv
        rcases List.mem_append.mp hv with hv | hv
        · exact n4 v hv
        · cases List.mem_singleton.mp hv
          exact ⟨hw, by omega, hwc⟩
      · cases ht
        refine Or.inr ⟨by omega, ?_, by omega⟩
        show 1024 + ns.length < 1024 + (ns ++ [w]).length
        rw [List.length_append]; simp only [List.length_cons, List.length_nil]; omega
theorem pi_word {C : Nat → Nat} {n : Nat} {cs : List Nat} (hn : n < 128) (hc : ∀ c, c ∈ cs → c < 128) : 1 ≤ (pm_word C n cs).length ∧ (∀ c, c ∈ pm_word C n cs → c < 128) ∧ (∀ c, c ∈ pm_rest C n cs → c < 128) ∧ (pm_rest C n cs).length ≤ cs.length := by
  unfold pm_word pm_rest
  by_cases h : C n = 5
  · rw [if_pos h, if_pos h]
    refine ⟨Nat.le_add_left 1 _, fun c hx => ?_, fun c hx => ?_, ?_⟩
    · rcases List.mem_cons.mp hx with rfl | hx
      · exact hn
      · exact hc c (List.takeWhile_subset _ hx)
    · exact hc c (List.dropWhile_subset _ (List.dropWhile_subset _ hx))
    · exact Nat.le_trans (List.dropWhile_sublist _).length_le (List.dropWhile_sublist _).length_le
  · rw [if_neg h, if_neg h]
    refine ⟨Nat.le_refl 1, fun c hx => ?_, hc, Nat.le_refl _⟩
    cases List.mem_singleton.mp hx
    exact hn
theorem pi_cs {C : Nat → Nat} {ns : List (List Nat)} {r : List Nat} {x : Option Nat} {T' : pm_T} (hn : pi_ns ns) (hr : ∀ c, c ∈ r → c < 128) (hl : r.length ≤ 256) (h : pm_cs C ns r = (x, T')) :
    pi_T T' ∧ ns <+: T'.2.2.2 ∧ pm_len T' ≤ r.length ∧ (∀ t, x = some t → T'.1 = 0 ∧ pi_tok T'.2.2.2.length t) ∧ (x = none → T'.1 ≠ 0) := by
  cases r with
  | nil =>
    cases h
    exact ⟨⟨hn, hr, hl, Nat.zero_le _, fun t ht => (nomatch ht)⟩, List.prefix_refl _, Nat.le_refl _, fun t ht => (nomatch ht), fun _ => by show 3 ≠ 0; decide⟩
  | cons n cs =>
    obtain ⟨w1, w2, w3, w4⟩ := pi_word (C := C) (hr n List.mem_cons_self) (fun c hx => hr c (List.mem_cons_of_mem _ hx))
    have l1 : cs.length + 1 ≤ 256 := hl
    simp only [pm_cs] at h
    split at h
    · next h8 =>
      cases h
      exact ⟨⟨hn, w3, (by show (pm_rest C n cs).length ≤ 256; omega), Nat.zero_le _, fun t ht => (nomatch ht)⟩, List.prefix_refl _, Nat.le_trans w4 (Nat.le_succ _), fun t ht => (nomatch ht), fun _ => by show 4 ≠ 0; decide⟩
    · next h8 =>
      obtain ⟨a, b, c, d⟩ := pi_look hn w3 (by omega) w1 (by omega) w2 h
      exact ⟨a, b, by rw [c]; exact Nat.le_trans w4 (Nat.le_succ _), d⟩
theorem pi_raw {e : Nat} {C : Nat → Nat} {ns : List (List Nat)} {x : Option Nat} {T' : pm_T} (hn : pi_ns ns) (hC : ∀ a, a < 128 → C a < 8) (he : e ≠ 0) : ∀ r : List Nat, (∀ c, c ∈ r → c < 128) → r.length ≤ 256 → pm_raw e C ns r = (x, T') →
    pi_T T' ∧ ns <+: T'.2.2.2 ∧ pm_len T' ≤ r.length ∧ (∀ t, x = some t → T'.1 = 0 ∧ pi_tok T'.2.2.2.length t ∧ pm_len T' + 1 ≤ r.length) ∧ (x = none → T'.1 ≠ 0) := by
  intro r
  induction r with
  | nil =>
    intro hr hl h
    cases h
    exact ⟨⟨hn, hr, hl, Nat.zero_le _, fun t ht => (nomatch ht)⟩, List.prefix_refl _, Nat.le_refl _, fun t ht => (nomatch ht), fun _ => he⟩
  | cons c cs ih =>
    intro hr hl h
    have hc := hr c List.mem_cons_self
    have hcs : ∀ a, a ∈ cs → a < 128 := fun a ha => hr a (List.mem_cons_of_mem _ ha)
    have l1 : cs.length + 1 ≤ 256 := hl
    have l2 : (c :: cs).length = cs.length + 1 := rfl
    simp only [pm_raw] at h
    split at h
    · obtain ⟨a, b, k, d, f⟩ := pi_cs hn hcs (by omega) h
      exact ⟨a, b, by omega, fun t ht => ⟨(d t ht).1, (d t ht).2, by omega⟩, f⟩
    · split at h
      · obtain ⟨a, b, k, d, f⟩ := ih hcs (by omega) h
        exact ⟨a, b, by omega, fun t ht => ⟨(d t ht).1, (d t ht).2.1, by have := (d t ht).2.2; omega⟩, f⟩
      · next h0 h7 =>
        cases h
        have h8 := hC c hc
        refine ⟨⟨hn, hcs, by show cs.length ≤ 256; omega, Nat.zero_le _, fun t ht => (nomatch ht)⟩, List.prefix_refl _, by show cs.length + 0 ≤ _; omega, fun t ht => ⟨rfl, ?_, by show cs.length + 0 + 1 ≤ _; omega⟩, fun z => (nomatch z)⟩
        cases ht
        exact Or.inl ⟨by omega, by omega⟩
/-- what reading leaves: names grow at their end, tokens become fewer -/
def pi_to (T T' : pm_T) : Prop := pi_T T' ∧ T.2.2.2 <+: T'.2.2.2 ∧ pm_len T' ≤ pm_len T
theorem pi_to_tr {A B D : pm_T} (h : pi_to A B) (g : pi_to B D) : pi_to A D := ⟨g.1, h.2.1.trans g.2.1, Nat.le_trans g.2.2 h.2.2⟩
theorem pi_to_rf {A : pm_T} (h : pi_T A) : pi_to A A := ⟨h, List.prefix_refl _, Nat.le_refl _⟩
theorem pi_to_er {A B : pm_T} {k : Nat} (h : pi_to A B) : pi_to A (pm_err k B) := h
theorem pi_to_k {A B : pm_T} (h : pi_to A B) : A.2.2.2.length ≤ B.2.2.2.length := h.2.1.length_le
theorem pi_take {e : Nat} {C : Nat → Nat} {T T' : pm_T} {x : Option Nat} (hT : pi_T T) (hC : ∀ a, a < 128 → C a < 8) (h0 : T.1 = 0) (he : e ≠ 0) (h : pm_take e C T = (x, T')) :
    pi_to T T' ∧ (∀ t, x = some t → T'.1 = 0 ∧ pi_tok T'.2.2.2.length t ∧ pm_len T' + 1 ≤ pm_len T) ∧ (x = none → T'.1 ≠ 0) := by
  obtain ⟨st, rest, ps, ns⟩ := T
  obtain ⟨a1, a2, a3, a4, a5⟩ := hT
  cases ps with
  | nil =>
    obtain ⟨a, b, c, d⟩ := pi_raw a1 hC he rest a2 a3 h
    exact ⟨⟨a, b, c⟩, d⟩
  | cons t ps =>
    cases h
    have l : (t :: ps).length = ps.length + 1 := rfl
    have a4' : (t :: ps).length ≤ 256 := a4
    refine ⟨⟨⟨a1, a2, a3, by show ps.length ≤ 256; omega, fun y hy => a5 y (List.mem_cons_of_mem _ hy)⟩, List.prefix_refl _, by show rest.length + ps.length ≤ rest.length + (t :: ps).length; omega⟩, fun y hy => ?_, fun z => (nomatch z)⟩
    cases hy
    exact ⟨h0, a5 t List.mem_cons_self, by show rest.length + ps.length + 1 ≤ rest.length + (t :: ps).length; omega⟩
theorem pi_tk {C : Nat → Nat} {T T' : pm_T} {t : Nat} (hT : pi_T T) (hC : ∀ a, a < 128 → C a < 8) (h0 : T.1 = 0) (h : pm_take 3 C T = (some t, T')) : pi_to T T' ∧ T'.1 = 0 ∧ pi_tok T'.2.2.2.length t ∧ pm_len T' + 1 ≤ pm_len T := by
  obtain ⟨a, b, _⟩ := pi_take hT hC h0 (by decide) h
  exact ⟨a, b t rfl⟩
theorem pi_tn {C : Nat → Nat} {T T' : pm_T} (hT : pi_T T) (hC : ∀ a, a < 128 → C a < 8) (h0 : T.1 = 0) (h : pm_take 3 C T = (none, T')) : pi_to T T' ∧ T'.1 ≠ 0 := by
  obtain ⟨a, _, b⟩ := pi_take hT hC h0 (by decide) h
  exact ⟨a, b rfl⟩
theorem pi_skip {C : Nat → Nat} {M : Nat → pm_Mn} {els : Bool} (hC : ∀ a, a < 128 → C a < 8) : ∀ (f nest : Nat) (T : pm_T) (p : Nat) (T' : pm_T), pi_T T → T.1 = 0 → pm_len T < f → pm_skip C M els f nest T = (p, T') →
    pi_to T T' ∧ ((T'.1 = 0 ∧ (p = 12 ∨ p = 13)) ∨ (T'.1 ≠ 0 ∧ p = 99)) := by
  intro f
  induction f with
  | zero => intro nest T p T' hT h0 hf; omega
  | succ f ih =>
    intro nest T p T' hT h0 hf h
    rcases e : pm_take 3 C T with ⟨_ | t, T1⟩
    · obtain ⟨a, b⟩ := pi_tn hT hC h0 e
      simp only [pm_skip, e] at h
      cases h
      exact ⟨a, Or.inr ⟨b, rfl⟩⟩
    · obtain ⟨a, b, c, d⟩ := pi_tk hT hC h0 e
      simp only [pm_skip, e] at h
      split at h
      · next hh =>
        cases h
        refine ⟨a, Or.inl ⟨b, ?_⟩⟩
        rcases hh.2 with z | z
        · exact Or.inr z
        · exact Or.inl z.1
      · split at h
        · obtain ⟨g, k⟩ := ih _ _ _ _ a.1 b (by omega) h
          exact ⟨pi_to_tr a g, k⟩
        · split at h
          · obtain ⟨g, k⟩ := ih _ _ _ _ a.1 b (by omega) h
            exact ⟨pi_to_tr a g, k⟩
          · obtain ⟨g, k⟩ := ih _ _ _ _ a.1 b (by omega) h
            exact ⟨pi_to_tr a g, k⟩
theorem pi_pt {C : Nat → Nat} (hC : ∀ a, a < 128 → C a < 8) : ∀ (f n : Nat) (acc : List Nat) (T : pm_T) (r : Option (Nat × List Nat)) (T' : pm_T), pi_T T → T.1 = 0 → f + acc.length = 9 → acc.countP (fun r => decide (2048 ≤ r)) = n → (∀ t, t ∈ acc → pi_tok T.2.2.2.length t ∨ (2049 ≤ t ∧ t ≤ 2057)) → pm_pt C f n acc T = (r, T') →
    pi_to T T' ∧ (∀ m, r = some m → T'.1 = 0 ∧ m.2.length ≤ 8 ∧ m.2.countP (fun r => decide (2048 ≤ r)) = m.1 ∧ ∀ t, t ∈ m.2 → pi_tok T'.2.2.2.length t ∨ (2049 ≤ t ∧ t ≤ 2057)) ∧ (r = none → f ≠ 0 → T'.1 ≠ 0) := by
  intro f
  induction f with
  | zero =>
    intro n acc T r T' hT h0 hf hn ha h
    cases h
    exact ⟨pi_to_rf hT, fun m hm => (nomatch hm), fun _ z => absurd rfl z⟩
  | succ f ih =>
    intro n acc T r T' hT h0 hf hn ha h
    have hnl : n ≤ acc.length := by rw [← hn]; exact List.countP_le_length
    rcases e : pm_take 3 C T with ⟨_ | t, T1⟩
    · obtain ⟨a, b⟩ := pi_tn hT hC h0 e
      simp only [pm_pt, e] at h
      cases h
      exact ⟨a, fun m hm => (nomatch hm), fun _ _ => b⟩
    · obtain ⟨a, b, c, d⟩ := pi_tk hT hC h0 e
      have ha1 : ∀ t, t ∈ acc → pi_tok T1.2.2.2.length t ∨ (2049 ≤ t ∧ t ≤ 2057) := fun y hy => (ha y hy).imp (fun z => pi_tok_le z (pi_to_k a)) id
      simp only [pm_pt, e] at h
      split at h
      · cases h
        refine ⟨a, fun m hm => ?_, fun z => (nomatch z)⟩
        cases hm
        exact ⟨b, by show acc.length ≤ 8; omega, hn, ha1⟩
      · split at h
        · cases h
          exact ⟨a, fun m hm => (nomatch hm), fun _ _ => by show 6 ≠ 0; decide⟩
        · split at h
          · rcases e2 : pm_take 3 C T1 with ⟨_ | v, T2⟩
            · obtain ⟨a2, b2⟩ := pi_tn a.1 hC b e2
              simp only [e2] at h
              cases h
              exact ⟨pi_to_tr a a2, fun m hm => (nomatch hm), fun _ _ => b2⟩
            · obtain ⟨a2, b2, c2, d2⟩ := pi_tk a.1 hC b e2
              simp only [e2] at h
              split at h
              · split at h
                · cases h
                  exact ⟨pi_to_tr a a2, fun m hm => (nomatch hm), fun _ _ => by show 7 ≠ 0; decide⟩
                · next hv h8 =>
                  obtain ⟨g1, g2, g3⟩ := ih _ _ _ _ _ a2.1 b2 (by rw [List.length_append]; simp only [List.length_cons, List.length_nil]; omega) (by rw [List.countP_append, hn]; simp; omega) (fun y hy => by
                    rcases List.mem_append.mp hy with hy | hy
                    · exact (ha1 y hy).imp (fun z => pi_tok_le z (pi_to_k a2)) id
                    · cases List.mem_singleton.mp hy
                      exact Or.inr ⟨by omega, by omega⟩) h
                  refine ⟨pi_to_tr a (pi_to_tr a2 g1), g2, fun z _ => g3 z ?_⟩
                  rintro rfl
                  omega
              · cases h
                exact ⟨pi_to_tr a a2, fun m hm => (nomatch hm), fun _ _ => by show 6 ≠ 0; decide⟩
          · split at h
            · cases h
              exact ⟨a, fun m hm => (nomatch hm), fun _ _ => by show 7 ≠ 0; decide⟩
            · next h8 =>
              have c2 : ¬ 2048 ≤ t := by rcases c with c | c <;> have := a.1.1.2.1 <;> omega
              obtain ⟨g1, g2, g3⟩ := ih _ _ _ _ _ a.1 b (by rw [List.length_append]; simp only [List.length_cons, List.length_nil]; omega) (by rw [List.countP_append, hn]; simp [c2]) (fun y hy => by
                rcases List.mem_append.mp hy with hy | hy
                · exact ha1 y hy
                · cases List.mem_singleton.mp hy
                  exact Or.inl c) h
              refine ⟨pi_to_tr a g1, g2, fun z _ => g3 z ?_⟩
              rintro rfl
              omega
end PI
