section PK
def pi_mu (lim : Nat) (P : pm_P) : Nat := pm_len P.1 + 600 * (lim - P.2.2.2.2.2.2.2)
/-- what a step leaves: the invariant, names that only grow, and fewer tokens unless it ends in an error -/
def pi_P (lim : Nat) (P P' : pm_P) : Prop := pi_I lim P' ∧ P.1.2.2.2 <+: P'.1.2.2.2 ∧ (P'.1.1 = 0 → pi_mu lim P' ≤ pi_mu lim P)
theorem pi_P_tr {lim : Nat} {A B D : pm_P} (h : pi_P lim A B) (g : pi_P lim B D) (hb : D.1.1 = 0 → B.1.1 = 0) : pi_P lim A D :=
  ⟨g.1, h.2.1.trans g.2.1, fun z => Nat.le_trans (g.2.2 z) (h.2.2 (hb z))⟩
theorem pi_P_rf {lim : Nat} {A : pm_P} (h : pi_I lim A) : pi_P lim A A := ⟨h, List.prefix_refl _, fun _ => Nat.le_refl _⟩
theorem pi_P_to {lim : Nat} {T T' : pm_T} {q : pm_Q} (h : pi_I lim (T, q)) (g : pi_to T T') : pi_P lim (T, q) (T', q) :=
  ⟨⟨g.1, pi_Q_le h.2 (pi_to_k g)⟩, g.2.1, fun _ => Nat.add_le_add_right g.2.2 _⟩
theorem pi_P_er {lim k : Nat} {T : pm_T} {q : pm_Q} (h : pi_I lim (T, q)) (hk : k ≠ 0) : pi_P lim (T, q) (pm_err k T, q) :=
  ⟨h, List.prefix_refl _, fun z => absurd z hk⟩
theorem pi_upC {C : Nat → Nat} {i k : Nat} (h : ∀ a, a < 128 → C a < 8) (hk : k < 8) : ∀ a, a < 128 → pm_upF C i k a < 8 := fun a ha => by
  unfold pm_upF
  split
  · exact hk
  · exact h a ha
theorem pi_upM {k : Nat} {M : Nat → pm_Mn} {i : Nat} {m : pm_Mn} (h : pi_M k M) (hi : i < k) (h4 : i ≠ 4) (hm : pi_mn k m) : pi_M k (pm_upF M i m) := by
  refine ⟨?_, fun j hj => ?_, fun j hj => ?_⟩
  · unfold pm_upF
    rw [if_neg (fun z => h4 z.symm)]
    exact h.1
  · unfold pm_upF
    split
    · exact hm
    · exact h.2.1 j hj
  · unfold pm_upF
    rw [if_neg (by omega)]
    exact h.2.2 j hj
theorem pi_pop {k d : Nat} : ∀ (S : List pm_Sv) (C : Nat → Nat) (M : Nat → pm_Mn), (∀ a, a < 128 → C a < 8) → pi_M k M → (∀ s, s ∈ S → pi_sv k d s) → pi_lv S →
    (∀ a, a < 128 → (pm_pop d S C M).2.1 a < 8) ∧ pi_M k (pm_pop d S C M).2.2 ∧ (pm_pop d S C M).1.length ≤ S.length ∧ (∀ s, s ∈ (pm_pop d S C M).1 → pi_sv k (d - 1) s) ∧ pi_lv (pm_pop d S C M).1 := by
  intro S
  induction S with
  | nil =>
    intro C M hC hM hs hl
    exact ⟨hC, hM, Nat.le_refl _, fun s hs => (nomatch hs), trivial⟩
  | cons s S ih =>
    intro C M hC hM hs hl
    have hs' : ∀ r, r ∈ S → pi_sv k d r := fun r hr => hs r (List.mem_cons_of_mem _ hr)
    obtain ⟨s1, s2, s3, s4, s5, s6⟩ := hs s List.mem_cons_self
    unfold pm_pop
    split
    · next hd =>
      split
      · next h32 =>
        obtain ⟨a, b, c, e⟩ := ih C (pm_upF M s.1 s.2.2.1) hC (pi_upM hM (s3 h32).1 s2 (s3 h32).2) hs' hl.2
        exact ⟨a, b, Nat.le_trans c (Nat.le_succ _), e⟩
      · next h32 =>
        obtain ⟨a, b, c, e⟩ := ih (pm_upF C (s.1 - 32) s.2.2.2) M (pi_upC hC (s4 (by omega))) hM hs' hl.2
        exact ⟨a, b, Nat.le_trans c (Nat.le_succ _), e⟩
    · next hd =>
      refine ⟨hC, hM, Nat.le_refl _, fun r hr => ?_, hl⟩
      obtain ⟨r1, r2, r3, r4, r5, r6⟩ := hs r hr
      refine ⟨r1, r2, r3, r4, r5, ?_⟩
      rcases List.mem_cons.mp hr with hr | hr
      · rw [hr]; omega
      · have := (hl.1 r hr).1
        omega
theorem pi_setAll {k d i kk : Nat} {m : pm_Mn} (hi : i < 32 → pi_mn k m) (hk : 32 ≤ i → kk < 8) : ∀ S : List pm_Sv, (∀ s, s ∈ S → pi_sv k d s) → pi_lv S → (∀ s, s ∈ pm_setAll i m kk S → pi_sv k d s) ∧ pi_lv (pm_setAll i m kk S) := by
  intro S hs hl
  constructor
  · intro s hx
    obtain ⟨r, hr, e⟩ := List.mem_map.mp hx
    obtain ⟨r1, r2, r3, r4, r5, r6⟩ := hs r hr
    split at e
    · next hri =>
      rw [← e]
      exact ⟨r1, r2, fun z => ⟨(r3 z).1, hi (by rw [← hri]; exact z)⟩, fun z => hk (by rw [← hri]; exact z), r5, r6⟩
    · rw [← e]; exact ⟨r1, r2, r3, r4, r5, r6⟩
  · clear hs
    have key : ∀ s : pm_Sv, (if s.1 = i then (s.1, s.2.1, m, kk) else s).1 = s.1 ∧ (if s.1 = i then (s.1, s.2.1, m, kk) else s).2.1 = s.2.1 := fun s => by split <;> exact ⟨rfl, rfl⟩
    induction S with
    | nil => trivial
    | cons s S ih =>
      refine ⟨fun r hr => ?_, ih hl.2⟩
      obtain ⟨y, hy, e⟩ := List.mem_map.mp hr
      have h1 := key y
      have h2 := key s
      rw [← e, h1.1, h1.2, h2.1, h2.2]
      exact hl.1 y hy
theorem pi_open {lim : Nat} {P : pm_P} (h : pi_I lim P) : pi_P lim P (pm_open P) := by
  obtain ⟨T, C, M, S, d, q⟩ := P
  simp only [pm_open]
  split
  · exact pi_P_er h (by decide)
  · obtain ⟨hT, c1, c2, c3, c4, c5, c6, c7⟩ := h
    refine ⟨⟨hT, c1, c2, c3, fun s hs => ?_, c5, by omega, c7⟩, List.prefix_refl _, fun _ => Nat.le_refl _⟩
    obtain ⟨r1, r2, r3, r4, r5, r6⟩ := c4 s hs
    exact ⟨r1, r2, r3, r4, r5, by omega⟩
theorem pi_close {lim : Nat} {P : pm_P} (h : pi_I lim P) : pi_P lim P (pm_close P) := by
  obtain ⟨T, C, M, S, d, q⟩ := P
  simp only [pm_close]
  split
  · exact pi_P_er h (by decide)
  · obtain ⟨hT, c1, c2, c3, c4, c5, c6, c7⟩ := h
    obtain ⟨a1, a2, a3, a4, a5⟩ := pi_pop S C M c1 c2 c4 c5
    exact ⟨⟨hT, a1, a2, by omega, a4, a5, by omega, c7⟩, List.prefix_refl _, fun _ => Nat.le_refl _⟩
theorem pi_sav {i d : Nat} : ∀ S : List pm_Sv, pi_lv S → (∀ s, s ∈ S → s.2.1 ≤ d) → ¬ pm_sav i d S = true → ∀ s, s ∈ S → s.2.1 = d → s.1 ≠ i := by
  intro S
  induction S with
  | nil => intro _ _ _ s hs; cases hs
  | cons s S ih =>
    intro hl hd hn r hr e
    unfold pm_sav at hn
    split at hn
    · split at hn
      · exact absurd rfl hn
      · next hi =>
        rcases List.mem_cons.mp hr with hr | hr
        · rw [hr]; exact hi
        · exact ih hl.2 (fun r hr => hd r (List.mem_cons_of_mem _ hr)) hn r hr e
    · next hsd =>
      rcases List.mem_cons.mp hr with hr | hr
      · rw [hr] at e; exact absurd e hsd
      · have h1 := (hl.1 r hr).1
        have h2 := hd s List.mem_cons_self
        omega
theorem pi_assign {lim i k : Nat} {g : Bool} {m : pm_Mn} {P : pm_P} (h : pi_I lim P) (hi : i < 160) (h4 : i ≠ 4) (hn : i < 32 → i < P.1.2.2.2.length ∧ pi_mn P.1.2.2.2.length m) (hk : 32 ≤ i → k < 8) : pi_P lim P (pm_assign g i m k P) := by
  obtain ⟨T, C, M, S, d, q⟩ := P
  obtain ⟨hT, c1, c2, c3, c4, c5, c6, c7⟩ := h
  have e1 : ∀ a, a < 128 → (if i < 32 then C else pm_upF C (i - 32) k) a < 8 := by
    split
    · exact c1
    · exact pi_upC c1 (hk (by omega))
  have e2 : pi_M T.2.2.2.length (if i < 32 then pm_upF M i m else M) := by
    split
    · next h32 => exact pi_upM c2 (hn h32).1 h4 (hn h32).2
    · exact c2
  unfold pm_assign
  dsimp only
  split
  · obtain ⟨s1, s2⟩ := pi_setAll (k := T.2.2.2.length) (d := d) (i := i) (kk := k) (m := m) (fun z => (hn z).2) hk S c4 c5
    exact ⟨⟨hT, e1, e2, by unfold pm_setAll; rw [List.length_map]; exact c3, s1, s2, c6, c7⟩, List.prefix_refl _, fun _ => Nat.le_refl _⟩
  · split
    · exact ⟨⟨hT, e1, e2, c3, c4, c5, c6, c7⟩, List.prefix_refl _, fun _ => Nat.le_refl _⟩
    · next hd =>
      split
      · exact ⟨⟨hT, c1, c2, c3, c4, c5, c6, c7⟩, List.prefix_refl _, fun z => absurd z (by show ¬ 11 = 0; decide)⟩
      · next h32 =>
        have hd0 : d ≠ 0 := fun z => hd (Or.inl z)
        have hsv := pi_sav S c5 (fun s hs => (c4 s hs).2.2.2.2.2) (fun z => hd (Or.inr z))
        refine ⟨⟨hT, e1, e2, by show S.length + 1 ≤ 32; omega, fun s hs => ?_, ⟨fun r hr => ⟨(c4 r hr).2.2.2.2.2, fun z => hsv r hr z⟩, c5⟩, c6, c7⟩, List.prefix_refl _, fun _ => Nat.le_refl _⟩
        rcases List.mem_cons.mp hs with hs | hs
        · rw [hs]
          refine ⟨hi, h4, fun z => ⟨(hn z).1, c2.2.1 i h4⟩, fun z => c1 _ ?_, by show 1 ≤ d; omega, Nat.le_refl _⟩
          have z' : 32 ≤ i := z
          omega
        · exact c4 s hs
theorem pi_toI {lim : Nat} {T T' : pm_T} {q : pm_Q} (h : pi_I lim (T, q)) (g : pi_to T T') : pi_I lim (T', q) := (pi_P_to h g).1
theorem pi_id {k t : Nat} (h : pi_tok k t) (hk : k ≤ 32) (ht : ¬ t < 1024) : t - 1024 < k ∧ t - 1024 < 32 ∧ t - 1024 ≠ 4 := by
  rcases h with h | h
  · omega
  · omega
theorem pi_mng {k t : Nat} {M : Nat → pm_Mn} (hM : pi_M k M) (hk : k ≤ 32) (h : pi_tok k t) : pi_mn k (pm_mng M t) := by
  unfold pm_mng
  split
  · next ht =>
    rcases h with h | h
    · exact Or.inr (Or.inr (Or.inr ⟨rfl, h.1, h.2, rfl, rfl⟩))
    · omega
  · next ht => exact hM.2.1 _ (pi_id h hk ht).2.2
theorem pi_def {lim : Nat} {g : Bool} {P : pm_P} (h : pi_I lim P) (h0 : P.1.1 = 0) : pi_P lim P (pm_def g P) := by
  obtain ⟨T, C, q⟩ := P
  have hC : ∀ a, a < 128 → C a < 8 := by obtain ⟨M, S, d, c, o, x⟩ := q; exact h.2.1
  unfold pm_def
  rcases e : pm_take 3 C T with ⟨_ | t, T1⟩
  · simp only [e]
    exact pi_P_to h (pi_tn h.1 hC h0 e).1
  · obtain ⟨a, b, c, d⟩ := pi_tk h.1 hC h0 e
    simp only [e]
    split
    · exact pi_P_tr (pi_P_to h a) (pi_P_er (pi_toI h a) (by decide)) (fun z => absurd z (by show ¬ 6 = 0; decide))
    · next ht =>
      rcases e2 : pm_pt C 9 0 [] T1 with ⟨_ | ⟨n, pt⟩, T2⟩
      · simp only [e2]
        exact pi_P_to h (pi_to_tr a (pi_pt hC _ _ [] _ _ _ a.1 b rfl rfl (fun y hy => (nomatch hy)) e2).1)
      · obtain ⟨a2, b2, _⟩ := pi_pt hC _ _ [] _ _ _ a.1 b rfl rfl (fun y hy => (nomatch hy)) e2
        obtain ⟨b3, b4, b5, b6⟩ := b2 _ rfl
        simp only [e2]
        rcases e3 : pm_rt C n 25 0 [] T2 with ⟨_ | rt, T3⟩
        · simp only [e3]
          exact pi_P_to h (pi_to_tr a (pi_to_tr a2 (pi_rt hC _ _ [] _ _ _ a2.1 b3 rfl (fun y hy => (nomatch hy)) e3).1))
        · obtain ⟨a3, d2, _⟩ := pi_rt hC _ _ [] _ _ _ a2.1 b3 rfl (fun y hy => (nomatch hy)) e3
          obtain ⟨d3, d4, d5⟩ := d2 _ rfl
          simp only [e3]
          have a4 := pi_to_tr a (pi_to_tr a2 a3)
          have hid := pi_id (pi_tok_le c (pi_to_k (pi_to_tr a2 a3))) a4.1.1.2.1 ht
          refine pi_P_tr (pi_P_to h a4) (pi_assign (pi_toI h a4) (by omega) hid.2.2 (fun _ => ⟨hid.1, Or.inr (Or.inr (Or.inl ⟨rfl, b4, d4, b5, fun y hy => ?_, d5⟩))⟩) (fun z => by omega)) (fun _ => d3)
          exact (b6 y hy).imp (fun z => pi_tok_le z (pi_to_k a3)) id
theorem pi_let {lim : Nat} {g : Bool} {P : pm_P} (h : pi_I lim P) (h0 : P.1.1 = 0) : pi_P lim P (pm_let g P) := by
  obtain ⟨T, C, M, q⟩ := P
  have hC : ∀ a, a < 128 → C a < 8 := by obtain ⟨S, d, c, o, x⟩ := q; exact h.2.1
  unfold pm_let
  rcases e : pm_take 3 C T with ⟨_ | t, T1⟩
  · simp only [e]
    exact pi_P_to h (pi_tn h.1 hC h0 e).1
  · obtain ⟨a, b, c, d⟩ := pi_tk h.1 hC h0 e
    simp only [e]
    split
    · exact pi_P_tr (pi_P_to h a) (pi_P_er (pi_toI h a) (by decide)) (fun z => absurd z (by show ¬ 6 = 0; decide))
    · next ht =>
      rcases e2 : pm_take 3 C T1 with ⟨_ | v, T2⟩
      · simp only [e2]
        exact pi_P_to h (pi_to_tr a (pi_tn a.1 hC b e2).1)
      · obtain ⟨a2, b2, c2, d2⟩ := pi_tk a.1 hC b e2
        simp only [e2]
        have a4 := pi_to_tr a a2
        have hid := pi_id (pi_tok_le c (pi_to_k a2)) a4.1.1.2.1 ht
        have hM : pi_M T2.2.2.2.length M := by obtain ⟨S, d, c, o, x⟩ := q; exact (pi_toI h a4).2.2.1
        exact pi_P_tr (pi_P_to h a4) (pi_assign (pi_toI h a4) (by omega) hid.2.2 (fun _ => ⟨hid.1, pi_mng hM a4.1.1.2.1 c2⟩) (fun z => by omega)) (fun _ => b2)
theorem pi_cm {ns : List (List Nat)} {t : Nat} (hn : pi_ns ns) (h : ¬ pm_cm ns t = 1000) : pm_cm ns t < 128 := by
  unfold pm_cm at h ⊢
  split
  · exact Nat.mod_lt _ (by decide)
  · next ht =>
    rw [if_neg ht] at h
    split
    · next c e =>
      have l : t - 1024 < ns.length := by
        rcases Nat.lt_or_ge (t - 1024) ns.length with l | l
        · exact l
        · rw [List.getD_eq_getElem?_getD, List.getElem?_eq_none l] at e
          cases e
      have m : [c] ∈ ns := by
        rw [← e, List.getD_eq_getElem?_getD, List.getElem?_eq_getElem l]
        exact List.getElem_mem l
      exact (hn.2.2.2 _ m).2.2 c List.mem_cons_self
    · next e => simp only [e] at h; exact absurd trivial h
theorem pi_catc {lim : Nat} {g : Bool} {P : pm_P} (h : pi_I lim P) (h0 : P.1.1 = 0) : pi_P lim P (pm_catc g P) := by
  obtain ⟨T, C, q⟩ := P
  have hC : ∀ a, a < 128 → C a < 8 := by obtain ⟨M, S, d, c, o, x⟩ := q; exact h.2.1
  unfold pm_catc
  rcases e : pm_take 3 C T with ⟨_ | t, T1⟩
  · simp only [e]
    exact pi_P_to h (pi_tn h.1 hC h0 e).1
  · obtain ⟨a, b, c, d⟩ := pi_tk h.1 hC h0 e
    simp only [e]
    split
    · exact pi_P_tr (pi_P_to h a) (pi_P_er (pi_toI h a) (by decide)) (fun z => absurd z (by show ¬ 14 = 0; decide))
    · next ht =>
      rcases e2 : pm_take 3 C T1 with ⟨_ | v, T2⟩
      · simp only [e2]
        exact pi_P_to h (pi_to_tr a (pi_tn a.1 hC b e2).1)
      · obtain ⟨a2, b2, c2, d2⟩ := pi_tk a.1 hC b e2
        simp only [e2]
        have a4 := pi_to_tr a a2
        have hc := pi_cm a.1.1 ht
        split
        · exact pi_P_tr (pi_P_to h a4) (pi_assign (pi_toI h a4) (by omega) (by omega) (fun z => by omega) (fun z => by omega)) (fun _ => b2)
        · exact pi_P_tr (pi_P_to h a4) (pi_P_er (pi_toI h a4) (by decide)) (fun z => absurd z (by show ¬ 14 = 0; decide))
theorem pi_push {lim k : Nat} {P : pm_P} (h : pi_I lim P) (hk : k ≤ 1) : pi_P lim P (pm_push k P) := by
  obtain ⟨T, C, M, S, d, c, o, x⟩ := P
  simp only [pm_push]
  split
  · exact pi_P_er h (by decide)
  · obtain ⟨hT, c1, c2, c3, c4, c5, c6, c7, c8, c9⟩ := h
    refine ⟨⟨hT, c1, c2, c3, c4, c5, c6, by show c.length + 1 ≤ 8; omega, fun a ha => ?_, c9⟩, List.prefix_refl _, fun _ => Nat.le_refl _⟩
    rcases List.mem_cons.mp ha with ha | ha
    · rw [ha]; exact hk
    · exact c8 a ha
theorem pi_if {lim : Nat} {hb : Bool} {P : pm_P} (h : pi_I lim P) (h0 : P.1.1 = 0) : pi_P lim P (pm_if hb P) := by
  obtain ⟨T, C, M, q⟩ := P
  have hC : ∀ a, a < 128 → C a < 8 := by obtain ⟨S, d, c, o, x⟩ := q; exact h.2.1
  simp only [pm_if]
  split
  · exact pi_push h (by decide)
  · rcases e : pm_skip C M true (pm_len T + 1) 0 T with ⟨p, T1⟩
    obtain ⟨a, b⟩ := pi_skip hC _ _ _ _ _ h.1 h0 (Nat.lt_succ_self _) e
    simp only
    split
    · next h12 => exact pi_P_tr (pi_P_to h a) (pi_push (pi_toI h a) (by decide)) (fun _ => (b.resolve_right (fun z => by have := z.2; omega)).1)
    · exact pi_P_to h a
theorem pi_ifx {lim : Nat} {P : pm_P} (h : pi_I lim P) (h0 : P.1.1 = 0) : pi_P lim P (pm_ifx P) := by
  obtain ⟨T, C, M, q⟩ := P
  have hC : ∀ a, a < 128 → C a < 8 := by obtain ⟨S, d, c, o, x⟩ := q; exact h.2.1
  unfold pm_ifx
  rcases e : pm_take 3 C T with ⟨_ | t, T1⟩
  · simp only [e]
    exact pi_P_to h (pi_tn h.1 hC h0 e).1
  · obtain ⟨a, b, c, d⟩ := pi_tk h.1 hC h0 e
    simp only [e]
    rcases e2 : pm_take 3 C T1 with ⟨_ | v, T2⟩
    · simp only [e2]
      exact pi_P_to h (pi_to_tr a (pi_tn a.1 hC b e2).1)
    · obtain ⟨a2, b2, c2, d2⟩ := pi_tk a.1 hC b e2
      simp only [e2]
      exact pi_P_tr (pi_P_to h (pi_to_tr a a2)) (pi_if (pi_toI h (pi_to_tr a a2)) b2) (fun _ => b2)
theorem pi_else {lim : Nat} {P : pm_P} (h : pi_I lim P) (h0 : P.1.1 = 0) : pi_P lim P (pm_else P) := by
  obtain ⟨T, C, M, S, d, c, o, x⟩ := P
  simp only [pm_else]
  split
  · exact pi_P_er h (by decide)
  · rcases e : pm_skip C M false (pm_len T + 1) 0 T with ⟨p, T1⟩
    obtain ⟨a, b⟩ := pi_skip h.2.1 _ _ _ _ _ h.1 h0 (Nat.lt_succ_self _) e
    simp only
    split
    · obtain ⟨hT, c1, c2, c3, c4, c5, c6, c7, c8, c9⟩ := pi_toI h a
      exact ⟨⟨hT, c1, c2, c3, c4, c5, c6, by rw [List.length_tail]; omega, fun y hy => c8 y (List.mem_of_mem_tail hy), c9⟩, a.2.1, fun _ => Nat.add_le_add_right a.2.2 _⟩
    · exact pi_P_to h a
theorem pi_fi {lim : Nat} {P : pm_P} (h : pi_I lim P) : pi_P lim P (pm_fi P) := by
  obtain ⟨T, C, M, S, d, c, o, x⟩ := P
  simp only [pm_fi]
  split
  · exact pi_P_er h (by decide)
  · obtain ⟨hT, c1, c2, c3, c4, c5, c6, c7, c8, c9⟩ := h
    exact ⟨⟨hT, c1, c2, c3, c4, c5, c6, by rw [List.length_tail]; omega, fun y hy => c8 y (List.mem_of_mem_tail hy), c9⟩, List.prefix_refl _, fun _ => Nat.le_refl _⟩
theorem pi_out {lim t : Nat} {P : pm_P} (h : pi_I lim P) : pi_P lim P (pm_out t P) := by
  obtain ⟨T, C, M, S, d, c, o, x⟩ := P
  simp only [pm_out]
  split
  · split
    · exact pi_P_er h (by decide)
    · obtain ⟨hT, c1, c2, c3, c4, c5, c6, c7, c8, c9, c10⟩ := h
      exact ⟨⟨hT, c1, c2, c3, c4, c5, c6, c7, c8, by rw [List.length_append]; simp only [List.length_cons, List.length_nil]; omega, c10⟩, List.prefix_refl _, fun _ => Nat.le_refl _⟩
  · exact pi_P_rf h
theorem pi_out0 {t : Nat} {P : pm_P} (h : (pm_out t P).1.1 = 0) : P.1.1 = 0 := by
  obtain ⟨T, C, M, S, d, c, o, x⟩ := P
  simp only [pm_out] at h
  split at h
  · next z => exact z
  · exact h
theorem pi_char {lim t : Nat} {P : pm_P} (h : pi_I lim P) : pi_P lim P (pm_char t P) := by
  unfold pm_char
  split
  · exact pi_P_tr (pi_open h) (pi_out (pi_open h).1) pi_out0
  · split
    · exact pi_P_tr (pi_close h) (pi_out (pi_close h).1) pi_out0
    · exact pi_out h
theorem pi_sub {k n : Nat} {as : List (List Nat)} {rt : List Nat} (ha : ∀ a, a ∈ as → ∀ y, y ∈ a → pi_tok k y) (hr : ∀ t, t ∈ rt → pi_tok k t ∨ (2049 ≤ t ∧ t ≤ 2048 + n)) : ∀ y, y ∈ pm_sub as rt → pi_tok k y := by
  intro y hy
  obtain ⟨r, h1, h2⟩ := List.mem_flatMap.mp hy
  split at h2
  · next hlt =>
    cases List.mem_singleton.mp h2
    rcases hr _ h1 with z | z
    · exact z
    · omega
  · next hlt =>
    by_cases l : r - 2049 < as.length
    · rw [List.getD_eq_getElem?_getD, List.getElem?_eq_getElem l] at h2
      exact ha _ (List.getElem_mem l) y h2
    · rw [List.getD_eq_getElem?_getD, List.getElem?_eq_none (by omega)] at h2
      cases h2
theorem pi_exp {lim n : Nat} {b : Bool} {P : pm_P} (h : pi_I lim P) (h0 : P.1.1 = 0) (hn4 : n ≠ 4) (hk : (P.2.2.1 n).1 = 2) : pi_P lim P (pm_exp b lim n P) := by
  obtain ⟨T, C, M, S, d, c, o, x⟩ := P
  have hM : pi_mn T.2.2.2.length (M n) := h.2.2.1.2.1 n hn4
  have hm : (M n).2.2.1.length ≤ 8 ∧ (∀ t, t ∈ (M n).2.2.2 → pi_tok T.2.2.2.length t ∨ (2049 ≤ t ∧ t ≤ 2048 + (M n).2.1)) := by
    have hk' : (M n).1 = 2 := hk
    rcases hM with z | z | z | z
    · rw [z] at hk'; cases hk'
    · omega
    · exact ⟨z.2.1, z.2.2.2.2.2⟩
    · omega
  simp only [pm_exp]
  split
  · exact pi_P_er h (by decide)
  · next hx =>
    have hI : ∀ T' : pm_T, pi_to T T' → pi_P lim (T, C, M, S, d, c, o, x) (T', C, M, S, d, c, o, x + 1) := fun T' g => by
      obtain ⟨hT, c1, c2, c3, c4, c5, c6, c7, c8, c9, c10, c11⟩ := pi_toI h g
      refine ⟨⟨hT, c1, c2, c3, c4, c5, c6, c7, c8, c9, by omega, c11⟩, g.2.1, fun _ => ?_⟩
      have := g.2.2
      show pm_len T' + 600 * (lim - (x + 1)) ≤ pm_len T + 600 * (lim - x)
      omega
    rcases e : pm_pre C ((M n).2.2.1.takeWhile (fun r => decide (r < 2048))) T with ⟨_ | _, T1⟩
    · simp only [e]
      exact hI T1 (pi_pre h.2.1 _ _ _ _ h.1 h0 e).1
    · obtain ⟨a1, a2, _⟩ := pi_pre h.2.1 _ _ _ _ h.1 h0 e
      have a3 := a2 rfl
      simp only [e]
      have hd2 : ((M n).2.2.1.dropWhile (fun r => decide (r < 2048))).length ≤ 8 := Nat.le_trans (List.dropWhile_sublist _).length_le hm.1
      rcases e2 : pm_args b C (M n).2.1 ((M n).2.2.1.dropWhile (fun r => decide (r < 2048))) 0 [] T1 with ⟨_ | as, T2⟩
      · simp only [e2]
        exact hI T2 (pi_to_tr a1 (pi_args h.2.1 _ _ _ [] _ _ _ a1.1 a3 hd2 (fun y hy => (nomatch hy)) e2).1)
      · obtain ⟨g1, g2, _⟩ := pi_args h.2.1 _ _ _ [] _ _ _ a1.1 a3 hd2 (fun y hy => (nomatch hy)) e2
        obtain ⟨g3, g4, g5⟩ := g2 _ rfl
        simp only [e2]
        have g6 := pi_to_tr a1 g1
        split
        · exact pi_P_tr (hI T2 g6) (pi_P_er (hI T2 g6).1 (by decide)) (fun z => absurd z (by show ¬ 16 = 0; decide))
        · next h256 =>
          obtain ⟨hT, c1, c2, c3, c4, c5, c6, c7, c8, c9, c10, c11⟩ := pi_toI h g6
          obtain ⟨t1, t2, t3, t4, t5⟩ := hT
          refine ⟨⟨⟨t1, t2, t3, by show (pm_sub as (M n).2.2.2 ++ T2.2.2.1).length ≤ 256; rw [List.length_append]; omega, fun y hy => ?_⟩, c1, c2, c3, c4, c5, c6, c7, c8, c9, by omega, c11⟩, g6.2.1, fun _ => ?_⟩
          · rcases List.mem_append.mp hy with hy | hy
            · exact pi_sub (k := T2.2.2.2.length) (n := (M n).2.1) g5 (fun t ht => (hm.2 t ht).imp (fun z => pi_tok_le z (pi_to_k g6)) id) y hy
            · exact t5 y hy
          · show T2.2.1.length + (pm_sub as (M n).2.2.2 ++ T2.2.2.1).length + 600 * (lim - (x + 1)) ≤ pm_len T + 600 * (lim - x)
            have t3' : T2.2.1.length ≤ 256 := t3
            rw [List.length_append]
            omega
theorem pi_act {lim p : Nat} {P : pm_P} (h : pi_I lim P) (h0 : P.1.1 = 0) : pi_P lim P (pm_act p P) := by
  unfold pm_act
  split
  · exact pi_def h h0
  · split
    · exact pi_let h h0
    · split
      · exact pi_open h
      · split
        · exact pi_close h
        · split
          · exact pi_catc h h0
          · split
            · exact pi_if h h0
            · split
              · exact pi_ifx h h0
              · split
                · exact pi_else h h0
                · split
                  · exact pi_fi h
                  · exact pi_P_rf h
theorem pi_step {lim t : Nat} {b : Bool} {P : pm_P} (h : pi_I lim P) (h0 : P.1.1 = 0) (ht : pi_tok P.1.2.2.2.length t) : pi_P lim P (pm_step b lim t P) := by
  unfold pm_step
  split
  · exact pi_char h
  · next hlt =>
    have hid := pi_id ht h.1.1.2.1 hlt
    split
    · exact pi_P_er h (by decide)
    · split
      · next h2 => exact pi_exp h h0 hid.2.2 h2
      · split
        · exact pi_act h h0
        · exact pi_char h
theorem pi_run {lim : Nat} {b : Bool} : ∀ (f : Nat) (P : pm_P), pi_I lim P → (P.1.1 = 0 → pi_mu lim P < f) → pi_I lim (pm_run b lim f P) ∧ (pm_run b lim f P).1.1 ≠ 0 ∧ P.1.2.2.2 <+: (pm_run b lim f P).1.2.2.2 := by
  intro f
  induction f with
  | zero =>
    intro P h hm
    exact ⟨h, fun z => absurd (hm z) (Nat.not_lt_zero _), List.prefix_refl _⟩
  | succ f ih =>
    intro P h hm
    by_cases h0 : P.1.1 = 0
    · have hC : ∀ a, a < 128 → P.2.1 a < 8 := by obtain ⟨T, C, M, S, d, c, o, x⟩ := P; exact h.2.1
      rcases e : pm_take 1 P.2.1 P.1 with ⟨_ | t, T1⟩
      · obtain ⟨a, _, bn⟩ := pi_take h.1 hC h0 (by decide) e
        have e2 : pm_run b lim (f + 1) P = (T1, P.2) := by
          unfold pm_run
          rw [if_neg (fun z => z h0), e]
        rw [e2]
        exact ⟨pi_toI (T := P.1) (q := P.2) h a, bn rfl, a.2.1⟩
      · obtain ⟨a, b1, _⟩ := pi_take h.1 hC h0 (by decide) e
        obtain ⟨b2, b3, b4⟩ := b1 t rfl
        have e2 : pm_run b lim (f + 1) P = pm_run b lim f (pm_step b lim t (T1, P.2)) := by
          conv => lhs; unfold pm_run
          rw [if_neg (fun z => z h0), e]
        rw [e2]
        have hI := pi_toI (T := P.1) (q := P.2) h a
        obtain ⟨s1, s2, s3⟩ := pi_step (b := b) (t := t) hI b2 b3
        have hm' := hm h0
        obtain ⟨r1, r2, r3⟩ := ih _ s1 (fun z => by
          have k1 := s3 z
          have k2 : pi_mu lim (T1, P.2) + 1 ≤ pi_mu lim P := by
            show pm_len T1 + 600 * (lim - P.2.2.2.2.2.2.2) + 1 ≤ pm_len P.1 + 600 * (lim - P.2.2.2.2.2.2.2)
            omega
          omega)
        exact ⟨r1, r2, (a.2.1.trans s2).trans r3⟩
    · have e2 : pm_run b lim (f + 1) P = P := by
        unfold pm_run
        rw [if_pos h0]
      rw [e2]
      exact ⟨h, h0, List.prefix_refl _⟩
end PK
