section YC
variable {post : SY → Prop} {F1 F2 F3 F4 F5 F6 F7 F8 F9 F10 F11 F12 : Int32} {A1 A2 A3 A4 A5 A6 A7 A8 A9 A10 A11 A12 A13 A14 A15 A16 A17 A18 A19 : Nat → Int32}
theorem yc_86 {f t : Nat} (hf : f < 65) (ht : t < 65) (K : ∀ rx : Nat → Int32, (∀ j, j < 24 → rx (t * 24 + j) = A12 (f * 24 + j)) → (∀ j, (j < t * 24 ∨ t * 24 + 24 ≤ j) → rx j = A12 j) → post (F1, F2, F3, F4, F5, F6, F7, F8, F9, F10, F11, F12, A1, A2, A3, A4, A5, A6, A7, A8, A9, A10, A11, rx, A13, A14, A15, A16, A17, A18, A19)) : ∀ (n i : Nat) (rx : Nat → Int32), 24 < n + i → i ≤ 24 → (∀ j, j < i → rx (t * 24 + j) = A12 (f * 24 + j)) → (∀ j, (j < t * 24 ∨ t * 24 + i ≤ j) → rx j = A12 j) → wY_copy_86 post (nI f) (nI t) F1 F2 F3 F4 F5 F6 F7 F8 F9 F10 F11 F12 n (nI i) A1 A2 A3 A4 A5 A6 A7 A8 A9 A10 A11 rx A13 A14 A15 A16 A17 A18 A19 := by
  intro n
  induction n with
  | zero => intro i rx h1 h2; omega
  | succ n ih =>
    intro i rx h1 h2 h3 h4
    by_cases he : i = 24
    · subst he
      exact br_t (nI_le (Nat.le_refl 24) (by decide)) (K rx h3 h4)
    · have e1 : nI f * 24 + nI i = nI (f * 24 + i) := by rw [← nI_add, ← pk_mul]; rfl
      have e2 : nI t * 24 + nI i = nI (t * 24 + i) := by rw [← nI_add, ← pk_mul]; rfl
      refine br_f (nI_ge (b := 24) (by omega) (by decide)) ?_
      rw [e1, e2, nI_clamp (by omega), nI_clamp (by omega)]
      refine ⟨vp_in_nI (by omega) (by decide), vp_in_nI (by omega) (by decide), fun rx' e => nm_r (nI_1 _) ?_⟩
      subst e
      have hv : rx (f * 24 + i) = A12 (f * 24 + i) := by
        by_cases hft : f = t
        · subst hft; exact h4 _ (by omega)
        · exact h4 _ (by omega)
      refine ih (i + 1) _ (by omega) (by omega) (fun j hj => ?_) (fun j hj => ?_)
      · by_cases ej : j = i
        · rw [ej, pk_us, hv]
        · rw [pk_un (by omega)]
          exact h3 j (by omega)
      · rw [pk_un (by omega)]
        exact h4 j (by omega)
theorem yc_50 {f t : Nat} (hf : f < 65) (ht : t < 65) (K : ∀ px : Nat → Int32, (∀ j, j < 8 → px (t * 8 + j) = A11 (f * 8 + j)) → (∀ j, (j < t * 8 ∨ t * 8 + 8 ≤ j) → px j = A11 j) → ∃ n86 : Nat, wY_copy_86 post (nI f) (nI t) F1 F2 F3 F4 F5 F6 F7 F8 F9 F10 F11 F12 n86 0 A1 A2 A3 A4 A5 A6 A7 A8 A9 A10 px A12 A13 A14 A15 A16 A17 A18 A19) : ∀ (n i : Nat) (px : Nat → Int32), 8 < n + i → i ≤ 8 → (∀ j, j < i → px (t * 8 + j) = A11 (f * 8 + j)) → (∀ j, (j < t * 8 ∨ t * 8 + i ≤ j) → px j = A11 j) → wY_copy_50 post (nI f) (nI t) F1 F2 F3 F4 F5 F6 F7 F8 F9 F10 F11 F12 n (nI i) A1 A2 A3 A4 A5 A6 A7 A8 A9 A10 px A12 A13 A14 A15 A16 A17 A18 A19 := by
  intro n
  induction n with
  | zero => intro i px h1 h2; omega
  | succ n ih =>
    intro i px h1 h2 h3 h4
    by_cases he : i = 8
    · subst he
      exact br_t (nI_le (Nat.le_refl 8) (by decide)) (K px h3 h4)
    · have e1 : nI f * 8 + nI i = nI (f * 8 + i) := by rw [← nI_add, ← pk_mul]; rfl
      have e2 : nI t * 8 + nI i = nI (t * 8 + i) := by rw [← nI_add, ← pk_mul]; rfl
      refine br_f (nI_ge (b := 8) (by omega) (by decide)) ?_
      rw [e1, e2, nI_clamp (by omega), nI_clamp (by omega)]
      refine ⟨vp_in_nI (by omega) (by decide), vp_in_nI (by omega) (by decide), fun px' e => nm_r (nI_1 _) ?_⟩
      subst e
      have hv : px (f * 8 + i) = A11 (f * 8 + i) := by
        by_cases hft : f = t
        · subst hft; exact h4 _ (by omega)
        · exact h4 _ (by omega)
      refine ih (i + 1) _ (by omega) (by omega) (fun j hj => ?_) (fun j hj => ?_)
      · by_cases ej : j = i
        · rw [ej, pk_us, hv]
        · rw [pk_un (by omega)]
          exact h3 j (by omega)
      · rw [pk_un (by omega)]
        exact h4 j (by omega)
theorem yc_copy {f t : Nat} (hf : f < 65) (ht : t < 65) (K : ∀ w' : yr_W, yr_cp (A7, A8, A9, A10, A11, A12) w' f t → post (F1, F2, F3, F4, F5, F6, F7, F8, F9, F10, F11, F12, A1, A2, A3, A4, A5, A6, w'.1, w'.2.1, w'.2.2.1, w'.2.2.2.1, w'.2.2.2.2.1, w'.2.2.2.2.2, A13, A14, A15, A16, A17, A18, A19)) : wpY_copy post (F1, F2, F3, F4, F5, F6, F7, F8, F9, F10, F11, F12, A1, A2, A3, A4, A5, A6, A7, A8, A9, A10, A11, A12, A13, A14, A15, A16, A17, A18, A19) (nI f) (nI t) := by
  have vf : vp_in (nI f) 65 := vp_in_nI hf (by decide)
  have vt : vp_in (nI t) 65 := vp_in_nI ht (by decide)
  have cf : (nI f).toNatClampNeg = f := nI_clamp (by omega)
  have ct : (nI t).toNatClampNeg = t := nI_clamp (by omega)
  refine ⟨vf, vt, fun kd q1 => ⟨vf, vt, fun vl q2 => ⟨vf, vt, fun pl q3 => ⟨vf, vt, fun rl q4 => ⟨9, ?_⟩⟩⟩⟩⟩
  rw [cf, ct] at q1 q2 q3 q4
  refine yc_50 hf ht (fun px c1 c2 => ⟨25, ?_⟩) 9 0 A11 (by decide) (by decide) (fun j hj => absurd hj (Nat.not_lt_zero _)) (fun j _ => rfl)
  refine yc_86 hf ht (fun rx c3 c4 => ?_) 25 0 A12 (by decide) (by decide) (fun j hj => absurd hj (Nat.not_lt_zero _)) (fun j _ => rfl)
  exact K (kd, vl, pl, rl, px, rx) ⟨⟨by rw [q1]; exact pk_us, by rw [q2]; exact pk_us, by rw [q3]; exact pk_us, by rw [q4]; exact pk_us, c1, c3⟩, fun s hs => ⟨by rw [q1]; exact pk_un hs, by rw [q2]; exact pk_un hs, by rw [q3]; exact pk_un hs, by rw [q4]; exact pk_un hs⟩, c2, c4⟩
end YC
section YD
theorem yd_V_fr {si sl si' sl' : Nat → Int32} {w w' : yr_W} : ∀ S : List pm_Sv, (∀ j, j < S.length → si' j = si j ∧ sl' j = sl j) → (∀ j m, j < S.length → m.2.2.1.length ≤ 8 → m.2.2.2.length ≤ 24 → yr_M w (32 + j) m → yr_M w' (32 + j) m) → (∀ j, j < S.length → w'.2.1 (32 + j) = w.2.1 (32 + j)) → (∀ s, s ∈ S → s.1 < 32 → s.2.2.1.2.2.1.length ≤ 8 ∧ s.2.2.1.2.2.2.length ≤ 24) → yr_V si sl w S → yr_V si' sl' w' S := by
  intro S
  induction S with
  | nil => intro _ _ _ _ _; trivial
  | cons s S ih =>
    intro h1 h2 h3 h4 h
    have l : (s :: S).length = S.length + 1 := rfl
    obtain ⟨a, b⟩ := h1 S.length (by omega)
    refine ⟨⟨a.trans h.1.1, b.trans h.1.2.1, fun z => h2 _ _ (by omega) (h4 s List.mem_cons_self z).1 (h4 s List.mem_cons_self z).2 (h.1.2.2.1 z), fun z => (h3 _ (by omega)).trans (h.1.2.2.2 z)⟩, ih (fun j hj => h1 j (by omega)) (fun j m hj => h2 j m (by omega)) (fun j hj => h3 j (by omega)) (fun r hr => h4 r (List.mem_cons_of_mem _ hr)) h.2⟩
theorem yd_sz {k d : Nat} {S : List pm_Sv} (hk : k ≤ 32) (h : ∀ s, s ∈ S → pi_sv k d s) : ∀ s, s ∈ S → s.1 < 32 → s.2.2.1.2.2.1.length ≤ 8 ∧ s.2.2.1.2.2.2.length ≤ 24 := fun s hs z => (xs_small hk (Or.inl ((h s hs).2.2.1 z).2)).2
theorem yd_V_cp {si sl : Nat → Int32} {w w' : yr_W} {S : List pm_Sv} {f t : Nat} (hc : yr_cp w w' f t) (ht : t < 32 ∨ 32 + S.length ≤ t) (hz : ∀ s, s ∈ S → s.1 < 32 → s.2.2.1.2.2.1.length ≤ 8 ∧ s.2.2.1.2.2.2.length ≤ 24) (h : yr_V si sl w S) : yr_V si sl w' S :=
  yd_V_fr S (fun j _ => ⟨rfl, rfl⟩) (fun j m hj h8 h24 g => yr_cp_ne hc (by omega) h8 h24 g) (fun j hj => (hc.2.1 _ (by omega)).2.1) hz h
def yd_MM (w : yr_W) (M : Nat → pm_Mn) : Prop := ∀ i, i < 32 → yr_M w i (M i)
/-- all meanings are short -/
def yd_sM (M : Nat → pm_Mn) : Prop := ∀ i, (M i).2.2.1.length ≤ 8 ∧ (M i).2.2.2.length ≤ 24
theorem yd_sMi {k : Nat} {M : Nat → pm_Mn} (hk : k ≤ 32) (h : pi_M k M) : yd_sM M := fun i => by
  by_cases h4 : i = 4
  · rw [h4, h.1]; exact ⟨by decide, by decide⟩
  · exact (xs_small hk (Or.inl (h.2.1 i h4))).2
theorem yd_MM_up {w w' : yr_W} {M : Nat → pm_Mn} {f i : Nat} {m : pm_Mn} (h : yd_MM w M) (hs : yd_sM M) (hc : yr_cp w w' f i) (h8 : m.2.2.1.length ≤ 8) (h24 : m.2.2.2.length ≤ 24) (hm : yr_M w f m) : yd_MM w' (pm_upF M i m) := fun j hj => by
  unfold pm_upF
  split
  · next e => rw [e]; exact yr_cp_to hc h8 h24 hm
  · next e => exact yr_cp_ne hc e (hs j).1 (hs j).2 (h j hj)
theorem yd_V_mid {si sl : Nat → Int32} {w : yr_W} {s : pm_Sv} {B : List pm_Sv} : ∀ A : List pm_Sv, yr_V si sl w (A ++ s :: B) → si B.length = nI s.1 ∧ sl B.length = nI s.2.1 ∧ (s.1 < 32 → yr_M w (32 + B.length) s.2.2.1) ∧ (32 ≤ s.1 → w.2.1 (32 + B.length) = nI s.2.2.2) := by
  intro A
  induction A with
  | nil => intro h; exact h.1
  | cons a A ih => intro h; exact ih h.2
theorem yd_V_tail {si sl : Nat → Int32} {w : yr_W} {B : List pm_Sv} : ∀ A : List pm_Sv, yr_V si sl w (A ++ B) → yr_V si sl w B := by
  intro A
  induction A with
  | nil => intro h; exact h
  | cons a A ih => intro h; exact ih h.2
/-- one save gets another value -/
theorem yd_V_set {si sl : Nat → Int32} {w w' : yr_W} {s s' : pm_Sv} {B : List pm_Sv} (e1 : s'.1 = s.1) (e2 : s'.2.1 = s.2.1) (hM : ∀ j m, j ≠ 32 + B.length → m.2.2.1.length ≤ 8 → m.2.2.2.length ≤ 24 → yr_M w j m → yr_M w' j m) (hv : ∀ j, j ≠ 32 + B.length → w'.2.1 j = w.2.1 j) (h1 : s.1 < 32 → yr_M w' (32 + B.length) s'.2.2.1) (h2 : 32 ≤ s.1 → w'.2.1 (32 + B.length) = nI s'.2.2.2) :
    ∀ A : List pm_Sv, (∀ r, r ∈ A ++ s :: B → r.1 < 32 → r.2.2.1.2.2.1.length ≤ 8 ∧ r.2.2.1.2.2.2.length ≤ 24) → yr_V si sl w (A ++ s :: B) → yr_V si sl w' (A ++ s' :: B) := by
  intro A
  induction A with
  | nil =>
    intro hz h
    refine ⟨⟨by rw [e1]; exact h.1.1, by rw [e2]; exact h.1.2.1, fun z => h1 (by rw [← e1]; exact z), fun z => h2 (by rw [← e1]; exact z)⟩, ?_⟩
    exact yd_V_fr B (fun j _ => ⟨rfl, rfl⟩) (fun j m hj => hM (32 + j) m (by omega)) (fun j hj => hv _ (by omega)) (fun r hr => hz r (List.mem_cons_of_mem _ hr)) h.2
  | cons a A ih =>
    intro hz h
    have l1 : (A ++ s :: B).length = (A ++ s' :: B).length := by rw [List.length_append, List.length_append]; rfl
    have l2 : (A ++ s' :: B).length = A.length + (B.length + 1) := List.length_append
    have h' : yr_V si sl w (a :: (A ++ s :: B)) := h
    obtain ⟨⟨g1, g2, g3, g4⟩, g5⟩ := h'
    show yr_V si sl w' (a :: (A ++ s' :: B))
    rw [l1] at g1 g2 g3 g4
    have hza := hz a List.mem_cons_self
    exact ⟨⟨g1, g2, fun z => hM _ _ (by omega) (hza z).1 (hza z).2 (g3 z), fun z => (hv _ (by omega)).trans (g4 z)⟩, ih (fun r hr => hz r (List.mem_cons_of_mem _ hr)) g5⟩
end YD
