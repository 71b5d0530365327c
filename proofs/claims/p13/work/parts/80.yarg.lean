section ZL
theorem zl_grp {C : Nat → Nat} {room : Nat} (hC : ∀ a, a < 128 → C a < 8) : ∀ (f d : Nat) (acc : List Nat) (T : pm_T) (a : List Nat) (T' : pm_T), pi_T T → T.1 = 0 → pm_grp false C room f d acc T = (some a, T') → a.length ≤ acc.length + pm_len T := by
  intro f
  induction f with
  | zero => intro d acc T a T' _ _ h; cases h
  | succ f ih =>
    intro d acc T a T' hT h0 h
    rcases e : pm_take 3 C T with ⟨_ | t, T1⟩
    · simp only [pm_grp, e] at h
      cases h
    · obtain ⟨p1, p2, p3, p4⟩ := pi_tk hT hC h0 e
      simp only [pm_grp, e] at h
      split at h
      · cases h
        omega
      · rw [if_neg (fun z => nomatch z.1)] at h
        have := ih _ _ _ _ _ p1.1 p2 h
        rw [List.length_append] at this
        simp only [List.length_cons, List.length_nil] at this
        omega
theorem zl_und {C : Nat → Nat} {room : Nat} (hC : ∀ a, a < 128 → C a < 8) {T T' : pm_T} {a : List Nat} (hT : pi_T T) (h0 : T.1 = 0) (h : pm_und false C room T = (some a, T')) : a.length ≤ pm_len T + 1 := by
  rcases e : pm_sp C (pm_len T + 1) T with ⟨_ | t, T1⟩
  · simp only [pm_und, e] at h
    cases h
  · obtain ⟨s1, s2, s3⟩ := pi_sp hC _ _ _ _ hT h0 (Nat.lt_succ_self _) e
    obtain ⟨s4, s5, s6⟩ := s2 t rfl
    have s7 : pm_len T1 ≤ pm_len T := s1.2.2
    simp only [pm_und, e] at h
    split at h
    · cases h
    · split at h
      · have := zl_grp hC _ _ _ _ _ _ s1.1 s4 h
        have e0 : ([] : List Nat).length = 0 := rfl
        omega
      · rw [if_neg (fun z => nomatch z.1)] at h
        cases h
        show 1 ≤ pm_len T + 1
        omega
theorem zl_del {C : Nat → Nat} {room : Nat} {dl : List Nat} (hC : ∀ a, a < 128 → C a < 8) (hd : dl.length ≤ 8) : ∀ (f d : Nat) (og : Bool) (acc : List Nat) (T : pm_T) (a : List Nat) (T' : pm_T), pi_T T → T.1 = 0 → pm_del false C room dl f d og acc T = (some a, T') → a.length ≤ acc.length + pm_len T := by
  intro f
  induction f with
  | zero => intro d og acc T a T' _ _ h; cases h
  | succ f ih =>
    intro d og acc T a T' hT h0 h
    have hx : ∀ b T1, (if d = 0 then pm_ah C dl T else (some false, T)) = (some b, T1) → pi_to T T1 ∧ T1.1 = 0 := fun b T1 e => by
      by_cases hz : d = 0
      · rw [if_pos hz] at e
        obtain ⟨g1, g2, _⟩ := pi_ah hC dl T _ _ hT h0 hd e
        exact ⟨g1, g2 b rfl⟩
      · rw [if_neg hz] at e
        cases e
        exact ⟨pi_to_rf hT, h0⟩
    rcases e : (if d = 0 then pm_ah C dl T else (some false, T)) with ⟨_ | b, T1⟩
    · simp only [pm_del, e] at h
      cases h
    · obtain ⟨g1, g2⟩ := hx b T1 e
      have g3 : pm_len T1 ≤ pm_len T := g1.2.2
      cases b with
      | true =>
        simp only [pm_del, e] at h
        split at h
        · cases h
          rw [List.length_dropLast, List.length_tail]
          omega
        · cases h
          omega
      | false =>
        rcases e2 : pm_take 3 C T1 with ⟨_ | t, T2⟩
        · simp only [pm_del, e, e2] at h
          cases h
        · obtain ⟨p1, p2, p3, p4⟩ := pi_tk g1.1 hC g2 e2
          simp only [pm_del, e, e2] at h
          split at h
          · cases h
          · rw [if_neg (fun z => nomatch z.1)] at h
            have := ih _ _ _ _ _ _ p1.1 p2 h
            rw [List.length_append] at this
            simp only [List.length_cons, List.length_nil] at this
            omega
theorem zl_arg {C : Nat → Nat} {room : Nat} {dl : List Nat} (hC : ∀ a, a < 128 → C a < 8) (hd : dl.length ≤ 8) {T T' : pm_T} {a : List Nat} (hT : pi_T T) (h0 : T.1 = 0) (h : pm_arg false C room dl T = (some a, T')) : a.length ≤ pm_len T + 1 := by
  unfold pm_arg at h
  split at h
  · exact zl_und hC hT h0 h
  · have := zl_del hC hd _ _ _ _ _ _ _ hT h0 h
    have e0 : ([] : List Nat).length = 0 := rfl
    omega
end ZL
section ZB
variable {L : List Nat} {lim : Nat} {w : yr_W} {ar ast aln : Nat → Int32} {rn : Int32} {v : SY} {post : SY → Prop} {F1 F2 F3 F4 F5 F6 F7 F8 F9 F10 F11 F12 : Int32} {A1 A2 A3 A4 A5 A6 A7 A8 A9 A10 A11 A12 A13 A14 A15 A16 A17 A18 A19 : Nat → Int32}
theorem zb_scan {C : Nat → Nat} {room n ds k s : Nat} {dl : List Nat} {T : pm_T} {q : (Nat → pm_Mn) × List pm_Sv × Nat × List Nat × List Nat × Nat} (hL : xr_I L) (hC : ∀ a, a < 128 → C a < 8) (hk : k < 10) (hs : s ≤ 256) (hn : n < 32) (hds : ds + dl.length ≤ 8) (hdt : ∀ t, t ∈ dl → t < 4096) (hD : ∀ j, j < dl.length → w.2.2.2.2.1 (n * 8 + ds + j) = nI (dl.getD j 0)) (hst : ast k = nI s) (hR : yr_R L lim (T, C, q) w ar ast aln rn (F1, F2, F3, F4, F5, F6, F7, F8, F9, F10, F11, F12, A1, A2, A3, A4, A5, A6, A7, A8, A9, A10, A11, A12, A13, A14, A15, A16, A17, A18, A19)) (hI : pi_I lim (T, C, q)) (h0 : T.1 = 0)
    (K : ∀ r T' ar' aln' v', pm_arg false C room dl T = (r, T') → (∀ j, j < s → ar' j = ar j) → (∀ a, r = some a → xe_C ar' s a ∧ aln' = upd aln k (nI a.length)) → yr_R L lim (T', C, q) w ar' ast aln' rn v' → post v') : wpY_scanArg post (F1, F2, F3, F4, F5, F6, F7, F8, F9, F10, F11, F12, A1, A2, A3, A4, A5, A6, A7, A8, A9, A10, A11, A12, A13, A14, A15, A16, A17, A18, A19) (nI n) (nI ds) (nI (ds + dl.length)) (nI k) := by
  have hl : pm_len T ≤ 512 := xe_len hI.1
  obtain ⟨z1, z2, z3, z4, z5, z6, z7, z8, z9⟩ := yl_tab hR
  have hv : A17 (nI k).toNatClampNeg = nI s := by rw [nI_clamp (by omega), z8]; exact hst
  refine ⟨vp_in_nI hk (by decide), nm_r hv ?_⟩
  by_cases hd : dl = []
  · subst hd
    refine br_t rfl (yy_und (room := room) hL hC hk hs hR hI h0 (fun r T' ar' aln' v' q1 => K r T' ar' aln' v' ?_))
    unfold pm_arg
    exact q1
  · have hd1 : 0 < dl.length := List.length_pos_iff.mpr hd
    refine br_f (fun z => by have := (nI_eq (by omega) (by omega)).mp z; omega) ⟨pm_len T + 2, ?_⟩
    have h := za_delL (post := post) (room := room) hL hC hk hs hn hds hdt hD (pm_len T + 1) 0 false [] T ar (pm_len T + 2) 0 _ _ _ _ _ _ _ _ _ _ _ _ _ _ _ _ _ _ _ _ _ _ _ _ _ _ _ _ _ _ _ (by omega) (by omega) (by omega) (by show 0 + _ ≤ _; omega) ⟨fun z => (nomatch z), fun z => absurd z yz_nil⟩ rfl (fun i hi => absurd hi (Nat.not_lt_zero _)) (fun t ht => (nomatch ht)) hR hI h0 (fun j hj => absurd hj (Nat.not_lt_zero _)) (fun r T' ar' aln' v' q1 => K r T' ar' aln' v' ?_)
    · exact h
    · unfold pm_arg
      rw [if_neg (by simpa using hd)]
      exact q1
end ZB
