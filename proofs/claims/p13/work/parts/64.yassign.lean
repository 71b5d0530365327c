section YI
variable {L : List Nat} {lim : Nat} {w : yr_W} {ar ast aln : Nat → Int32} {rn : Int32} {v : SY} {post : SY → Prop} {F1 F2 F3 F4 F5 F6 F7 F8 F9 F10 F11 F12 : Int32} {A1 A2 A3 A4 A5 A6 A7 A8 A9 A10 A11 A12 A13 A14 A15 A16 A17 A18 A19 : Nat → Int32}
/-- slot 64 holds what is to be assigned to item i -/
def yi_new (w : yr_W) (i : Nat) (m : pm_Mn) (k : Nat) : Prop := (i < 32 → yr_M w 64 m ∧ m.2.2.1.length ≤ 8 ∧ m.2.2.2.length ≤ 24) ∧ (32 ≤ i → w.2.1 64 = nI k)
theorem yi_217 {T : pm_T} {C : Nat → Nat} {M : Nat → pm_Mn} {S : List pm_Sv} {d i k kk : Nat} {m : pm_Mn} {q : List Nat × List Nat × Nat} (hi : i < 160) (hkk : kk ≤ 32) (hsv : ∀ s, s ∈ S → pi_sv kk d s) (hsM : yd_sM M) (hm : yi_new w i m k) (hR : yr_R L lim (T, C, M, S, d, q) w ar ast aln rn (F1, F2, F3, F4, F5, F6, F7, F8, F9, F10, F11, F12, A1, A2, A3, A4, A5, A6, A7, A8, A9, A10, A11, A12, A13, A14, A15, A16, A17, A18, A19))
    (K : ∀ w' v', yr_R L lim (T, (if i < 32 then C else pm_upF C (i - 32) k), (if i < 32 then pm_upF M i m else M), S, d, q) w' ar ast aln rn v' → post v') : wY_assign_217 post (nI i) F1 F2 F3 F4 F5 F6 F7 F8 F9 F10 F11 F12 A1 A2 A3 A4 A5 A6 A7 A8 A9 A10 A11 A12 A13 A14 A15 A16 A17 A18 A19 := by
  obtain ⟨st, rest, ps, ns⟩ := T
  obtain ⟨c, o, x⟩ := q
  obtain ⟨ip, pc, inp, cat, pend, out, nl, nch, si, sl, cd, stk, e, h1, hs, h2, h3, h4, h5, h6, h7⟩ := hR
  cases e
  by_cases hlt : i < 32
  · rw [if_pos hlt, if_pos hlt] at K
    obtain ⟨m1, m2, m3⟩ := hm.1 hlt
    refine br_f (nI_ge (b := 32) hlt (by decide)) (yc_copy (f := 64) (by decide) (by omega) (fun w' hc => ?_))
    have hc' : yr_cp w w' 64 i := hc
    exact K w' _ ⟨_, _, _, _, _, _, _, _, _, _, _, _, rfl, h1, hs, h2, h3, h4, yd_MM_up h5 hsM hc' m2 m3 m1, yd_V_cp hc' (Or.inl hlt) (yd_sz hkk hsv) h6, h7⟩
  · rw [if_neg hlt, if_neg hlt] at K
    have e3 : nI i - 32 = nI (i - 32) := pk_sub (b := 32) (by omega)
    refine br_t (nI_le (a := 32) (by omega) (by omega)) ⟨by rw [e3]; exact vp_in_nI (by omega) (by decide), fun cat' y => K w _ ⟨_, _, _, cat', _, _, _, _, _, _, _, _, rfl, h1, hs, h2, ?_, h4, h5, h6, h7⟩⟩
    rw [e3, nI_clamp (by omega), hm.2 (by omega)] at y
    subst y
    exact xg_C_up h3
theorem yi_80 {S : List pm_Sv} {d i kk : Nat} (hd : d ≤ 8) (hi : i < 160) (hS : S.length ≤ 32) (hsv : ∀ s, s ∈ S → pi_sv kk d s) (hV : yr_V A13 A14 w S)
    (Ky : (∃ s, s ∈ S ∧ s.1 = i ∧ s.2.1 = d) → wY_assign_217 post (nI i) F1 F2 F3 F4 F5 F6 F7 F8 F9 (nI S.length) (nI d) F12 A1 A2 A3 A4 A5 A6 A7 A8 A9 A10 A11 A12 A13 A14 A15 A16 A17 A18 A19)
    (Kf : ¬ (∃ s, s ∈ S ∧ s.1 = i ∧ s.2.1 = d) → 32 ≤ S.length → post (F1, F2, 11, F4, F5, F6, F7, F8, F9, nI S.length, nI d, F12, A1, A2, A3, A4, A5, A6, A7, A8, A9, A10, A11, A12, A13, A14, A15, A16, A17, A18, A19))
    (Kn : ¬ (∃ s, s ∈ S ∧ s.1 = i ∧ s.2.1 = d) → S.length < 32 → (vp_in (nI S.length) 32 ∧ ∀ si' : Nat → Int32, si' = upd A13 (nI S.length).toNatClampNeg (nI i) → (vp_in (nI S.length) 32 ∧ ∀ sl' : Nat → Int32, sl' = upd A14 (nI S.length).toNatClampNeg (nI d) → ((32 ≤ nI i → (vp_in (nI i - 32) 128 ∧ (vp_in (32 + nI S.length) 65 ∧ ∀ vl' : Nat → Int32, vl' = upd A8 (32 + nI S.length).toNatClampNeg (A2 (nI i - 32).toNatClampNeg) → wY_assign_207 post (nI i) F1 F2 F3 F4 F5 F6 F7 F8 F9 (nI S.length) (nI d) F12 A1 A2 A3 A4 A5 A6 A7 vl' A9 A10 A11 A12 si' sl' A15 A16 A17 A18 A19))) ∧ (¬ 32 ≤ nI i → wpY_copy (fun u => match u with | (F1, F2, F3, F4, F5, F6, F7, F8, F9, F10, F11, F12, A1, A2, A3, A4, A5, A6, A7, A8, A9, A10, A11, A12, A13, A14, A15, A16, A17, A18, A19) => wY_assign_207 post (nI i) F1 F2 F3 F4 F5 F6 F7 F8 F9 F10 F11 F12 A1 A2 A3 A4 A5 A6 A7 A8 A9 A10 A11 A12 A13 A14 A15 A16 A17 A18 A19) (F1, F2, F3, F4, F5, F6, F7, F8, F9, nI S.length, nI d, F12, A1, A2, A3, A4, A5, A6, A7, A8, A9, A10, A11, A12, si', sl', A15, A16, A17, A18, A19) (nI i) (32 + nI S.length)))))) :
    ∀ (R D : List pm_Sv) (n : Nat) (b : Int32), S = R.reverse ++ D → R.length < n → (b = 0 ↔ ¬ ∃ s, s ∈ D ∧ s.1 = i ∧ s.2.1 = d) → wY_assign_80 post (nI i) F1 F2 F3 F4 F5 F6 F7 F8 F9 (nI S.length) (nI d) F12 A1 A2 A3 A4 A5 A6 A7 A8 A9 A10 A11 A12 A13 A14 A15 A16 A17 A18 A19 n b (nI D.length) := by
  intro R
  induction R with
  | nil =>
    intro D n b hs hn hb
    obtain ⟨n, rfl⟩ : ∃ m, n = m + 1 := ⟨n - 1, by omega⟩
    have hs' : S = D := hs
    rw [← hs'] at hb ⊢
    refine br_t (nI_le (Nat.le_refl _) (by omega)) ?_
    by_cases hz : b = 0
    · have hne := hb.mp hz
      refine br_t hz ?_
      by_cases h32 : 32 ≤ S.length
      · exact br_t (by rw [show S.length = 32 from by omega]; rfl) (Kf hne h32)
      · exact br_f (fun z => by have := (nI_eq (b := 32) (by omega) (by decide)).mp z; omega) (Kn hne (by omega))
    · exact br_f hz (Ky (Classical.byContradiction fun z => hz (hb.mpr z)))
  | cons s R ih =>
    intro D n b hs hn hb
    obtain ⟨n, rfl⟩ : ∃ m, n = m + 1 := ⟨n - 1, by omega⟩
    have hn' : R.length + 1 < n + 1 := hn
    have er : S = R.reverse ++ (s :: D) := by rw [hs, List.reverse_cons, List.append_assoc]; rfl
    have hV' := hV
    rw [er] at hV'
    obtain ⟨v1, v2, v3, v4⟩ := yd_V_mid _ hV'
    have hlt : D.length < S.length := by
      rw [er, List.length_append]
      exact Nat.lt_of_lt_of_le (Nat.lt_succ_self _) (Nat.le_add_left _ _)
    obtain ⟨s1, s2, s3, s4, s5, s6⟩ := hsv s (by rw [er]; exact List.mem_append_right _ List.mem_cons_self)
    have vi : vp_in (nI D.length) 32 := vp_in_nI (by omega) (by decide)
    have cl : (nI D.length).toNatClampNeg = D.length := nI_clamp (by omega)
    refine br_f (nI_ge hlt (by omega)) ⟨vi, ?_⟩
    rw [cl, v1, v2]
    by_cases e1 : s.1 = i
    · refine br_t (by rw [e1]) ⟨vi, ?_⟩
      by_cases e2 : s.2.1 = d
      · refine br_t (by rw [e2]) (nm_r (nI_1 _) (ih (s :: D) n 1 er (by omega) ⟨fun z => absurd z ci_10, fun z => absurd ⟨s, List.mem_cons_self, e1, e2⟩ z⟩))
      · refine br_f (fun z => e2 ((nI_eq (by omega) (by omega)).mp z)) (nm_r (nI_1 _) (ih (s :: D) n b er (by omega) (hb.trans ⟨fun z ⟨r, hr, g1, g2⟩ => ?_, fun z ⟨r, hr, g⟩ => z ⟨r, List.mem_cons_of_mem _ hr, g⟩⟩)))
        rcases List.mem_cons.mp hr with e | hr
        · rw [e] at g2; exact e2 g2
        · exact z ⟨r, hr, g1, g2⟩
    · refine br_f (fun z => e1 ((nI_eq (by omega) (by omega)).mp z)) (nm_r (nI_1 _) (ih (s :: D) n b er (by omega) (hb.trans ⟨fun z ⟨r, hr, g1, g2⟩ => ?_, fun z ⟨r, hr, g⟩ => z ⟨r, List.mem_cons_of_mem _ hr, g⟩⟩)))
      rcases List.mem_cons.mp hr with e | hr
      · rw [e] at g1; exact e1 g1
      · exact z ⟨r, hr, g1, g2⟩
theorem yi_6 {S0 : List pm_Sv} {M : Nat → pm_Mn} {i k kk d : Nat} {m : pm_Mn} (hi : i < 160) (hkk : kk ≤ 32) (hsv : ∀ s, s ∈ S0 → pi_sv kk d s) (hsM : yd_sM M) : ∀ (R D : List pm_Sv) (n : Nat) (w : yr_W), (∀ s, s ∈ R.reverse ++ D → s ∈ S0) → R.length < n → (R.reverse ++ D).length ≤ 32 → yr_V A13 A14 w (R.reverse ++ pm_setAll i m k D) → yi_new w i m k → yd_MM w M →
    (∀ w', yr_V A13 A14 w' (pm_setAll i m k (R.reverse ++ D)) → yi_new w' i m k → yd_MM w' M → wY_assign_217 post (nI i) F1 F2 F3 F4 F5 F6 F7 F8 F9 (nI (R.reverse ++ D).length) F11 F12 A1 A2 A3 A4 A5 A6 (w'.1) (w'.2.1) (w'.2.2.1) (w'.2.2.2.1) (w'.2.2.2.2.1) (w'.2.2.2.2.2) A13 A14 A15 A16 A17 A18 A19) →
    wY_assign_6 post (nI i) n (nI D.length) F1 F2 F3 F4 F5 F6 F7 F8 F9 (nI (R.reverse ++ D).length) F11 F12 A1 A2 A3 A4 A5 A6 (w.1) (w.2.1) (w.2.2.1) (w.2.2.2.1) (w.2.2.2.2.1) (w.2.2.2.2.2) A13 A14 A15 A16 A17 A18 A19 := by
  intro R
  induction R with
  | nil =>
    intro D n w hsub hn hl hV hm hM K
    obtain ⟨n, rfl⟩ : ∃ m, n = m + 1 := ⟨n - 1, by omega⟩
    have hl' : D.length ≤ 32 := hl
    exact br_t (nI_le (Nat.le_refl _) (by omega)) (K w hV hm hM)
  | cons s R ih =>
    intro D n w hsub hn hl hV hm hM K
    obtain ⟨n, rfl⟩ : ∃ m, n = m + 1 := ⟨n - 1, by omega⟩
    have hn' : R.length + 1 < n + 1 := hn
    have er : (s :: R).reverse ++ D = R.reverse ++ (s :: D) := by rw [List.reverse_cons, List.append_assoc]; rfl
    have er2 : (s :: R).reverse ++ pm_setAll i m k D = R.reverse ++ (s :: pm_setAll i m k D) := by rw [List.reverse_cons, List.append_assoc]; rfl
    rw [er] at hl K hsub ⊢
    rw [er2] at hV
    have hlen : (s :: D).length = D.length + 1 := rfl
    have hB : D.length + 1 ≤ 32 := by
      rw [List.length_append] at hl
      omega
    have hlt : D.length < (R.reverse ++ s :: D).length := by
      rw [List.length_append]
      omega
    obtain ⟨v1, v2, v3, v4⟩ := yd_V_mid _ hV
    rw [xa_sl] at v1 v2 v3 v4
    have cl : (nI D.length).toNatClampNeg = D.length := nI_clamp (by omega)
    have e32 : (32 : Int32) + nI D.length = nI (32 + D.length) := nI_add 32 _
    have hs1 := (hsv s (hsub s (List.mem_append_right _ List.mem_cons_self))).1
    have hzz : ∀ r, r ∈ R.reverse ++ s :: pm_setAll i m k D → r.1 < 32 → r.2.2.1.2.2.1.length ≤ 8 ∧ r.2.2.1.2.2.2.length ≤ 24 := fun r hr hlt' => by
      rcases List.mem_append.mp hr with hr | hr
      · exact yd_sz hkk hsv r (hsub r (List.mem_append_left _ hr)) hlt'
      · rcases List.mem_cons.mp hr with e | hr
        · rw [e] at hlt' ⊢; exact yd_sz hkk hsv s (hsub s (List.mem_append_right _ List.mem_cons_self)) hlt'
        · obtain ⟨y, hy, e⟩ := List.mem_map.mp hr
          have hyy := hsub y (List.mem_append_right _ (List.mem_cons_of_mem _ hy))
          split at e
          · next hyi =>
            rw [← e] at hlt' ⊢
            exact (hm.1 (by rw [← hyi]; exact hlt')).2
          · rw [← e] at hlt' ⊢; exact yd_sz hkk hsv y hyy hlt'
    refine br_f (nI_ge hlt (by omega)) ⟨vp_in_nI (by omega) (by decide), ?_⟩
    rw [cl, v1, e32]
    by_cases e : s.1 = i
    · refine br_t (by rw [e]) ?_
      by_cases hlt2 : i < 32
      · obtain ⟨m1, m2, m3⟩ := hm.1 hlt2
        refine br_f (nI_ge (b := 32) hlt2 (by decide)) (yc_copy (f := 64) (by decide) (by omega) (fun w' hc => nm_r (nI_1 _) ?_))
        have hc' : yr_cp w w' 64 (32 + D.length) := hc
        refine ih (s :: D) n w' hsub (by omega) hl ?_ ⟨fun z => ⟨yr_cp_ne hc' (by omega) m2 m3 m1, m2, m3⟩, fun z => by omega⟩ (fun j hj => yr_cp_ne hc' (by omega) (hsM j).1 (hsM j).2 (hM j hj)) K
        rw [xa_sc, if_pos e]
        refine yd_V_set (s := s) (s' := (s.1, s.2.1, m, k)) rfl rfl (fun j mm hj h8 h24 g => yr_cp_ne hc' (by rw [xa_sl] at hj; exact hj) h8 h24 g) (fun j hj => (hc'.2.1 j (by rw [xa_sl] at hj; exact hj)).2.1) (fun _ => by rw [xa_sl]; exact yr_cp_to hc' m2 m3 m1) (fun z => absurd z (by omega)) _ hzz hV
      · have hk64 := hm.2 (by omega)
        refine br_t (nI_le (a := 32) (by omega) (by omega)) ⟨vp_in_nI (by omega) (by decide), fun vl' y => nm_r (nI_1 _) ?_⟩
        rw [nI_clamp (by omega), hk64] at y
        subst y
        have hMj : ∀ j mm, j ≠ 32 + D.length → yr_M w j mm → yr_M (w.1, upd w.2.1 (32 + D.length) (nI k), w.2.2) j mm := fun j mm hj g => ⟨g.1, (pk_un hj).trans g.2.1, g.2.2⟩
        refine ih (s :: D) n (w.1, upd w.2.1 (32 + D.length) (nI k), w.2.2) hsub (by omega) hl ?_ ⟨fun z => absurd z hlt2, fun _ => (pk_un (by omega)).trans hk64⟩ (fun j hj => hMj j _ (by omega) (hM j hj)) K
        rw [xa_sc, if_pos e]
        refine yd_V_set (s := s) (s' := (s.1, s.2.1, m, k)) rfl rfl (fun j mm hj _ _ g => hMj j mm (by rw [xa_sl] at hj; exact hj) g) (fun j hj => pk_un (by rw [xa_sl] at hj; exact hj)) (fun z => absurd z (by omega)) (fun _ => by rw [xa_sl]; exact pk_us) _ hzz hV
    · refine br_f (fun z => e ((nI_eq (by omega) (by omega)).mp z)) (nm_r (nI_1 _) ?_)
      refine ih (s :: D) n w hsub (by omega) hl ?_ hm hM K
      rw [xa_sc, if_neg e]
      exact hV
end YI
