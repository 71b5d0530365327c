section YO
variable {L : List Nat} {lim : Nat} {w : yr_W} {ar ast aln : Nat → Int32} {rn : Int32} {v : SY} {post : SY → Prop} {F1 F2 F3 F4 F5 F6 F7 F8 F9 F10 F11 F12 : Int32} {A1 A2 A3 A4 A5 A6 A7 A8 A9 A10 A11 A12 A13 A14 A15 A16 A17 A18 A19 : Nat → Int32}
/-- a skip to fi alone doesn't end at else -/
theorem yo_no12 {C : Nat → Nat} {M : Nat → pm_Mn} : ∀ (f nest : Nat) (T T' : pm_T), ¬ pm_skip C M false f nest T = (12, T') := by
  intro f
  induction f with
  | zero => intro nest T T' h; cases h
  | succ f ih =>
    intro nest T T' h
    rcases e : pm_take 3 C T with ⟨_ | t, T1⟩
    · simp only [pm_skip, e] at h; cases h
    · simp only [pm_skip, e] at h
      split at h
      · next hh =>
        have h12 : pm_prim M t = 12 := congrArg Prod.fst h
        rcases hh.2 with z | z
        · omega
        · exact absurd z.2 (by decide)
      · split at h
        · exact ih _ _ _ h
        · split at h
          · exact ih _ _ _ h
          · exact ih _ _ _ h
theorem yo_143 {b : Bool} {P : pm_P} (hL : xr_I L) (hR : yr_R L lim P w ar ast aln rn (F1, F2, F3, F4, F5, F6, F7, F8, F9, F10, F11, F12, A1, A2, A3, A4, A5, A6, A7, A8, A9, A10, A11, A12, A13, A14, A15, A16, A17, A18, A19)) (hI : pi_I lim P) (h0 : P.1.1 = 0) (K : ∀ v', yr_R L lim (pm_if b P) w ar ast aln rn v' → post v') : wY_doCond_143 post (xa_b b) F1 F2 F3 F4 F5 F6 F7 F8 F9 F10 F11 F12 A1 A2 A3 A4 A5 A6 A7 A8 A9 A10 A11 A12 A13 A14 A15 A16 A17 A18 A19 := by
  obtain ⟨T, C, M, q⟩ := P
  have hC : ∀ a, a < 128 → C a < 8 := by obtain ⟨S, d, c, o, x⟩ := q; exact hI.2.1
  cases b with
  | true =>
    refine br_f ci_10 (ys_push (k := 0) hR hI fun v' h => ?_)
    have k := K v' (by simp only [pm_if]; exact h)
    obtain ⟨F1, F2, F3, F4, F5, F6, F7, F8, F9, F10, F11, F12, A1, A2, A3, A4, A5, A6, A7, A8, A9, A10, A11, A12, A13, A14, A15, A16, A17, A18, A19⟩ := v'
    exact k
  | false =>
    refine br_t rfl (ys_skip (els := true) hL hR hI h0 (fun T1 v1 e1 hn hR1 => ?_) (fun T1 v1 e1 hn hR1 => ?_) (fun T1 v1 e1 hn hR1 => ?_))
    · have k := K v1 (by simp only [pm_if, e1]; exact hR1)
      obtain ⟨F1, F2, F3, F4, F5, F6, F7, F8, F9, F10, F11, F12, A1, A2, A3, A4, A5, A6, A7, A8, A9, A10, A11, A12, A13, A14, A15, A16, A17, A18, A19⟩ := v1
      exact br_t rfl k
    · obtain ⟨a1, a2⟩ := pi_skip hC _ _ _ _ _ hI.1 h0 (Nat.lt_succ_self _) e1
      obtain ⟨F1, F2, F3, F4, F5, F6, F7, F8, F9, F10, F11, F12, A1, A2, A3, A4, A5, A6, A7, A8, A9, A10, A11, A12, A13, A14, A15, A16, A17, A18, A19⟩ := v1
      refine br_f ci_10 (br_t (yk_f0 hR1 hn) (ys_push (k := 1) hR1 (pi_toI hI a1) fun v' h => ?_))
      have k := K v' (by simp only [pm_if, e1]; exact h)
      obtain ⟨F1, F2, F3, F4, F5, F6, F7, F8, F9, F10, F11, F12, A1, A2, A3, A4, A5, A6, A7, A8, A9, A10, A11, A12, A13, A14, A15, A16, A17, A18, A19⟩ := v'
      exact k
    · have k := K v1 (by simp only [pm_if, e1]; exact hR1)
      obtain ⟨F1, F2, F3, F4, F5, F6, F7, F8, F9, F10, F11, F12, A1, A2, A3, A4, A5, A6, A7, A8, A9, A10, A11, A12, A13, A14, A15, A16, A17, A18, A19⟩ := v1
      exact br_t rfl k
theorem yo_cond {p : Nat} {P : pm_P} (hp9 : 9 ≤ p) (hp : p < 14) (hL : xr_I L) (hR : yr_R L lim P w ar ast aln rn v) (hI : pi_I lim P) (h0 : P.1.1 = 0) (K : ∀ v', yr_R L lim (pm_act p P) w ar ast aln rn v' → post v') : wpY_doCond post v (nI p) := by
  obtain ⟨T, C, M, q⟩ := P
  have hC : ∀ a, a < 128 → C a < 8 := by obtain ⟨S, d, c, o, x⟩ := q; exact hI.2.1
  obtain ⟨F1, F2, F3, F4, F5, F6, F7, F8, F9, F10, F11, F12, A1, A2, A3, A4, A5, A6, A7, A8, A9, A10, A11, A12, A13, A14, A15, A16, A17, A18, A19⟩ := v
  have h12 : nI p = 12 ↔ p = 12 := nI_eq (b := 12) (by omega) (by decide)
  have h13 : nI p = 13 ↔ p = 13 := nI_eq (b := 13) (by omega) (by decide)
  have h9 : nI p = 9 ↔ p = 9 := nI_eq (b := 9) (by omega) (by decide)
  have h11 : nI p = 11 ↔ p = 11 := nI_eq (b := 11) (by omega) (by decide)
  by_cases c12 : p = 12
  · subst c12
    have K' : ∀ v', yr_R L lim (pm_else (T, C, M, q)) w ar ast aln rn v' → post v' := K
    obtain ⟨S, d, c, o, x⟩ := q
    have hR' := hR
    obtain ⟨st, rest, ps, ns⟩ := T
    obtain ⟨ip, pc, inp, cat, pend, out, nl, nch, si, sl, cd, stk, e, h1, hs, h2, h3, h4, h5, h6, h7⟩ := hR
    cases e
    have hc : c.length ≤ 8 := hI.2.2.2.2.2.2.2.1
    have hc1 : ∀ a, a ∈ c → a ≤ 1 := hI.2.2.2.2.2.2.2.2.1
    refine br_t rfl ?_
    rcases c with _ | ⟨t, c⟩
    · refine br_t rfl (K' _ ?_)
      simp only [pm_else, if_pos (show ([] : List Nat) = [] ∨ ([] : List Nat).head? = some 1 from Or.inl rfl)]
      exact yk_err (k := 13) (by decide) hR'
    · have hcl : c.length + 1 ≤ 8 := hc
      have ht := hc1 t List.mem_cons_self
      have e : nI (t :: c).length - 1 = nI c.length := nI_pred _
      refine br_f (nI_ne0 (Nat.succ_pos _) (by show c.length + 1 < 2 ^ 31; omega)) ⟨by rw [e]; exact vp_in_nI (by omega) (by decide), ?_⟩
      rw [e, nI_clamp (by omega), h7.1]
      by_cases ht1 : t = 1
      · refine br_t (by rw [ht1]; rfl) (K' _ ?_)
        simp only [pm_else, if_pos (show t :: c = [] ∨ (t :: c).head? = some 1 from Or.inr (by rw [ht1]; rfl))]
        exact yk_err (k := 13) (by decide) hR'
      · have hne : ¬ (t :: c = [] ∨ (t :: c).head? = some 1) := fun z => z.elim (fun y => nomatch y) (fun y => ht1 (Option.some.inj y))
        refine br_f (fun z => ht1 ((nI_eq (b := 1) (by omega) (by decide)).mp z)) ?_
        refine ys_skip (els := false) hL hR' hI h0 (fun T1 v1 e1 hn hR1 => ?_) (fun T1 v1 e1 hn hR1 => ?_) (fun T1 v1 e1 hn hR1 => ?_)
        · have k := K' v1 (by simp only [pm_else, if_neg hne, e1]; exact hR1)
          obtain ⟨F1, F2, F3, F4, F5, F6, F7, F8, F9, F10, F11, F12, A1, A2, A3, A4, A5, A6, A7, A8, A9, A10, A11, A12, A13, A14, A15, A16, A17, A18, A19⟩ := v1
          exact br_f (yk_f1 hR1 hn) k
        · obtain ⟨a1, a2⟩ := pi_skip hC _ _ _ _ _ hI.1 h0 (Nat.lt_succ_self _) e1
          exact absurd e1 (yo_no12 _ _ _ _)
        · obtain ⟨st1, rest1, ps1, ns1⟩ := T1
          have hst : nI st1 = 0 := congrArg nI hn
          obtain ⟨ip, pc, inp, cat, pend, out, nl, nch, si, sl, cd, stk, rfl, h1, hs, h2, h3, h4, h5, h6, h7⟩ := hR1
          refine br_t hst (nm_r e (K' _ ?_))
          simp only [pm_else, if_neg hne, e1]
          exact ⟨ip, pc, inp, cat, pend, out, nl, nch, si, sl, cd, stk, rfl, h1, hs, h2, h3, h4, h5, h6, h7.2⟩
  · refine br_f (fun z => c12 (h12.mp z)) ?_
    by_cases c13 : p = 13
    · subst c13
      have K' : ∀ v', yr_R L lim (pm_fi (T, C, M, q)) w ar ast aln rn v' → post v' := K
      obtain ⟨S, d, c, o, x⟩ := q
      have hR' := hR
      obtain ⟨st, rest, ps, ns⟩ := T
      obtain ⟨ip, pc, inp, cat, pend, out, nl, nch, si, sl, cd, stk, e, h1, hs, h2, h3, h4, h5, h6, h7⟩ := hR
      cases e
      have hc : c.length ≤ 8 := hI.2.2.2.2.2.2.2.1
      refine br_t rfl ?_
      rcases c with _ | ⟨t, c⟩
      · refine br_t rfl (K' _ ?_)
        simp only [pm_fi]
        exact yk_err (k := 13) (by decide) hR'
      · have hcl : c.length + 1 ≤ 8 := hc
        refine br_f (nI_ne0 (Nat.succ_pos _) (by show c.length + 1 < 2 ^ 31; omega)) (nm_r (nI_pred c.length) (K' _ ?_))
        simp only [pm_fi]
        rw [if_neg (fun z => nomatch z)]
        exact ⟨_, _, _, _, _, _, _, _, _, _, _, _, rfl, h1, hs, h2, h3, h4, h5, h6, h7.2⟩
    · refine br_f (fun z => c13 (h13.mp z)) ?_
      by_cases c9 : p = 9
      · subst c9
        exact br_t rfl (br_f (by decide) (yo_143 (b := true) hL hR hI h0 K))
      · refine br_f (fun z => c9 (h9.mp z)) ?_
        by_cases c11 : p = 11
        · subst c11
          have K' : ∀ v', yr_R L lim (pm_ifx (T, C, M, q)) w ar ast aln rn v' → post v' := K
          refine br_t rfl ?_
          refine yk_need hL hR hI h0 (fun t T1 v1 e1 hR1 => ?_) (fun T1 v1 e1 hne hR1 => ?_)
          · have e1' : pm_take 3 C T = (some t, T1) := e1
            obtain ⟨p1, p2, p3, p4⟩ := pi_tk hI.1 hC h0 e1'
            have hI1 := pi_toI hI p1
            obtain ⟨F1, F2, F3, F4, F5, F6, F7, F8, F9, F10, F11, F12, A1, A2, A3, A4, A5, A6, A7, A8, A9, A10, A11, A12, A13, A14, A15, A16, A17, A18, A19⟩ := v1
            refine br_t (yk_f0 hR1 p2) ?_
            refine yk_need hL hR1 hI1 p2 (fun u T2 v2 e2 hR2 => ?_) (fun T2 v2 e2 hne hR2 => ?_)
            · have e2' : pm_take 3 C T1 = (some u, T2) := e2
              obtain ⟨r1, r2, r3, r4⟩ := pi_tk p1.1 hC p2 e2'
              have hI2 := pi_toI hI1 r1
              obtain ⟨F1, F2, F3, F4, F5, F6, F7, F8, F9, F10, F11, F12, A1, A2, A3, A4, A5, A6, A7, A8, A9, A10, A11, A12, A13, A14, A15, A16, A17, A18, A19⟩ := v2
              have fin : ∀ b : Bool, decide (pm_mng M t = pm_mng M u) = b → wY_doCond_143 post (xa_b b) F1 F2 F3 F4 F5 F6 F7 F8 F9 F10 F11 F12 A1 A2 A3 A4 A5 A6 A7 A8 A9 A10 A11 A12 A13 A14 A15 A16 A17 A18 A19 := fun b hb =>
                yo_143 (b := b) hL hR2 hI2 r2 (fun v' h => K' v' (by simp only [pm_ifx, e1', e2', hb]; exact h))
              exact br_t (yk_f0 hR2 r2) (ym_meq hR2 hI2 (pi_tok_le p3 (pi_to_k r1)) r3 (fun e => fin true (decide_eq_true e)) (fun e => fin false (decide_eq_false e)))
            · have e2' : pm_take 3 C T1 = (none, T2) := e2
              have k := K' v2 (by simp only [pm_ifx, e1', e2']; exact hR2)
              obtain ⟨F1, F2, F3, F4, F5, F6, F7, F8, F9, F10, F11, F12, A1, A2, A3, A4, A5, A6, A7, A8, A9, A10, A11, A12, A13, A14, A15, A16, A17, A18, A19⟩ := v2
              exact br_f (yk_f1 hR2 hne) k
          · have e1' : pm_take 3 C T = (none, T1) := e1
            have k := K' v1 (by simp only [pm_ifx, e1']; exact hR1)
            obtain ⟨F1, F2, F3, F4, F5, F6, F7, F8, F9, F10, F11, F12, A1, A2, A3, A4, A5, A6, A7, A8, A9, A10, A11, A12, A13, A14, A15, A16, A17, A18, A19⟩ := v1
            exact br_f (yk_f1 hR1 hne) k
        · have c10 : p = 10 := by omega
          subst c10
          exact br_f (by decide) (yo_143 (b := false) hL hR hI h0 K)
end YO
