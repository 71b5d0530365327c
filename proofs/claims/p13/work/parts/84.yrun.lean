section ZF
variable {L : List Nat} {lim : Nat} {w : yr_W} {ar ast aln : Nat → Int32} {rn : Int32} {v : SY} {F1 F2 F3 F4 F5 F6 F7 F8 F9 F10 F11 F12 : Int32} {A1 A2 A3 A4 A5 A6 A7 A8 A9 A10 A11 A12 A13 A14 A15 A16 A17 A18 A19 : Nat → Int32}
theorem zf_step {post : SY → Prop} {t : Nat} {P : pm_P} (hL : xr_I L) (hR : yr_R L lim P w ar ast aln rn v) (hI : pi_I lim P) (h0 : P.1.1 = 0) (ht : pi_tok P.1.2.2.2.length t) (K : ∀ w' ar' ast' aln' v', yr_R L lim (pm_step false lim t P) w' ar' ast' aln' rn v' → post v') : wpY_step post v (nI t) := by
  have hk : P.1.2.2.2.length ≤ 32 := hI.1.1.2.1
  have hMi : pi_M P.1.2.2.2.length P.2.2.1 := by obtain ⟨T, C, M, S, d, c, o, x⟩ := P; exact hI.2.2.1
  have hMM := yl_MM hR
  have hb := xs_tok hk ht
  obtain ⟨F1, F2, F3, F4, F5, F6, F7, F8, F9, F10, F11, F12, A1, A2, A3, A4, A5, A6, A7, A8, A9, A10, A11, A12, A13, A14, A15, A16, A17, A18, A19⟩ := v
  obtain ⟨z1, z2, z3, z4, z5, z6, z7, z8, z9⟩ := yl_tab hR
  by_cases hlt : t < 1024
  · have hst : pm_step false lim t P = pm_char t P := by
      unfold pm_step
      rw [if_pos hlt]
    rw [hst] at K
    exact br_t (nI_lt (b := 1024) hlt (by decide)) (yu_char hlt hR hI (fun w' v' h => K w' ar ast aln v' h))
  · have hid := pi_id ht hk hlt
    have e : nI t - 1024 = nI (t - 1024) := pk_sub (b := 1024) (by omega)
    have hm : yr_M w (t - 1024) (P.2.2.1 (t - 1024)) := hMM (t - 1024) hid.2.1
    have v65 : vp_in (nI (t - 1024)) 65 := vp_in_nI (by omega) (by decide)
    have hkd : A7 (nI (t - 1024)).toNatClampNeg = nI (P.2.2.1 (t - 1024)).1 := by rw [nI_clamp (by omega), z1]; exact hm.1
    have hvl : A8 (nI (t - 1024)).toNatClampNeg = nI (P.2.2.1 (t - 1024)).2.1 := by rw [nI_clamp (by omega), z2]; exact hm.2.1
    have hmn := hMi.2.1 (t - 1024) hid.2.2
    have hst : pm_step false lim t P = if (P.2.2.1 (t - 1024)).1 = 0 then (pm_err 2 P.1, P.2) else if (P.2.2.1 (t - 1024)).1 = 2 then pm_exp false lim (t - 1024) P else if (P.2.2.1 (t - 1024)).1 = 1 then pm_act (P.2.2.1 (t - 1024)).2.1 P else pm_char (P.2.2.1 (t - 1024)).2.1 P := by
      unfold pm_step
      rw [if_neg hlt]
    rw [hst] at K
    refine br_f (nI_nlt (b := 1024) (by omega) (by omega)) (nm_r e ⟨v65, nm_r hkd ?_⟩)
    have hsm := (xs_small hk (Or.inl hmn)).1
    have hs0 : (P.2.2.1 (t - 1024)).1 < 4096 := hsm 0
    have hs1 : (P.2.2.1 (t - 1024)).2.1 < 4096 := hsm 1
    by_cases k0 : (P.2.2.1 (t - 1024)).1 = 0
    · rw [if_pos k0] at K
      exact br_t (by rw [k0]; rfl) (K w ar ast aln _ (yk_err (k := 2) (by decide) hR))
    · rw [if_neg k0] at K
      refine br_f (fun z => k0 ((nI_eq (b := 0) (by omega) (by decide)).mp z)) ?_
      by_cases k2 : (P.2.2.1 (t - 1024)).1 = 2
      · rw [if_pos k2] at K
        refine br_t (by rw [k2]; rfl) (ze_exp hL hR hI h0 hid.2.1 hid.2.2 k2 (fun ar' ast' aln' v' h => ?_))
        have k := K w ar' ast' aln' v' h
        obtain ⟨F1, F2, F3, F4, F5, F6, F7, F8, F9, F10, F11, F12, A1, A2, A3, A4, A5, A6, A7, A8, A9, A10, A11, A12, A13, A14, A15, A16, A17, A18, A19⟩ := v'
        exact k
      · rw [if_neg k2] at K
        refine br_f (fun z => k2 ((nI_eq (b := 2) (by omega) (by decide)).mp z)) ?_
        by_cases k1 : (P.2.2.1 (t - 1024)).1 = 1
        · rw [if_pos k1] at K
          have hp : (P.2.2.1 (t - 1024)).2.1 < 14 ∧ (P.2.2.1 (t - 1024)).2.1 ≠ 4 := by
            rcases hmn with z | z | z | z
            · rw [z] at k1; cases k1
            · exact ⟨z.2.1, z.2.2.1⟩
            · omega
            · omega
          refine br_t (by rw [k1]; rfl) ⟨v65, ?_⟩
          rw [hvl]
          refine yu_prim hp.1 hp.2 hL hR hI h0 (fun w' v' h => ?_)
          have k := K w' ar ast aln v' h
          obtain ⟨F1, F2, F3, F4, F5, F6, F7, F8, F9, F10, F11, F12, A1, A2, A3, A4, A5, A6, A7, A8, A9, A10, A11, A12, A13, A14, A15, A16, A17, A18, A19⟩ := v'
          exact k
        · rw [if_neg k1] at K
          have hp : (P.2.2.1 (t - 1024)).2.1 < 1024 := by
            rcases hmn with z | z | z | z
            · rw [z] at k0; exact absurd rfl k0
            · omega
            · omega
            · omega
          refine br_f (fun z => k1 ((nI_eq (b := 1) (by omega) (by decide)).mp z)) ⟨v65, nm_r hvl ?_⟩
          exact yu_char hp hR hI (fun w' v' h => K w' ar ast aln v' h)
theorem zf_runL {post : Int32 → SY → Prop} (hL : xr_I L) : ∀ (f : Nat) (P : pm_P) (w : yr_W) (ar ast aln : Nat → Int32) (N g : Nat) (F1 F2 F3 F4 F5 F6 F7 F8 F9 F10 F11 F12 : Int32) (A1 A2 A3 A4 A5 A6 A7 A8 A9 A10 A11 A12 A13 A14 A15 A16 A17 A18 A19 : Nat → Int32), (P.1.1 = 0 → pi_mu lim P < f) → f < N → g + f ≤ 200000 → yr_R L lim P w ar ast aln rn (F1, F2, F3, F4, F5, F6, F7, F8, F9, F10, F11, F12, A1, A2, A3, A4, A5, A6, A7, A8, A9, A10, A11, A12, A13, A14, A15, A16, A17, A18, A19) → pi_I lim P →
    (∀ w' ar' ast' aln' v', yr_R L lim (pm_run false lim f P) w' ar' ast' aln' rn v' → post (nI (pm_run false lim f P).1.1) v') → wY_run_19 post N (nI g) F1 F2 F3 F4 F5 F6 F7 F8 F9 F10 F11 F12 A1 A2 A3 A4 A5 A6 A7 A8 A9 A10 A11 A12 A13 A14 A15 A16 A17 A18 A19 := by
  intro f
  induction f with
  | zero =>
    intro P w ar ast aln N g F1 F2 F3 F4 F5 F6 F7 F8 F9 F10 F11 F12 A1 A2 A3 A4 A5 A6 A7 A8 A9 A10 A11 A12 A13 A14 A15 A16 A17 A18 A19 hmu hN hg hR hI K
    obtain ⟨N, rfl⟩ : ∃ m, N = m + 1 := ⟨N - 1, by omega⟩
    have hne : P.1.1 ≠ 0 := fun z => absurd (hmu z) (Nat.not_lt_zero _)
    have z1 := (yk_st hR).1
    have k' : post F3 (F1, F2, F3, F4, F5, F6, F7, F8, F9, F10, F11, F12, A1, A2, A3, A4, A5, A6, A7, A8, A9, A10, A11, A12, A13, A14, A15, A16, A17, A18, A19) := by rw [z1]; rw [z1] at hR; exact K w ar ast aln _ hR
    exact br_c (fun _ => k') (fun _ => br_f (yk_f1 hR hne) k')
  | succ f ih =>
    intro P w ar ast aln N g F1 F2 F3 F4 F5 F6 F7 F8 F9 F10 F11 F12 A1 A2 A3 A4 A5 A6 A7 A8 A9 A10 A11 A12 A13 A14 A15 A16 A17 A18 A19 hmu hN hg hR hI K
    obtain ⟨N, rfl⟩ : ∃ m, N = m + 1 := ⟨N - 1, by omega⟩
    refine br_f (nI_ge (b := 200000) (by omega) (by decide)) ?_
    by_cases h0 : P.1.1 = 0
    · obtain ⟨T, C, M, S, d, c, o, x⟩ := P
      have h0' : T.1 = 0 := h0
      have hC : ∀ a, a < 128 → C a < 8 := hI.2.1
      have hmu' := hmu h0
      have hrunN : ∀ T1, pm_take 1 C T = (none, T1) → pm_run false lim (f + 1) (T, C, M, S, d, c, o, x) = (T1, C, M, S, d, c, o, x) := fun T1 e1 => by
        unfold pm_run
        rw [if_neg (fun z => z h0)]
        show (match pm_take 1 C T with | (none, T1) => (T1, C, M, S, d, c, o, x) | (some t, T1) => pm_run false lim f (pm_step false lim t (T1, C, M, S, d, c, o, x))) = _
        rw [e1]
      refine br_t (yk_f0 hR h0) ?_
      refine yk_take hL hR hI h0' (fun t T1 v1 e1 hz hR1 => ?_) (fun T1 v1 e1 hz hR1 => ?_) (fun T0 v1 e1 hz hR1 => ?_)
      · have e1' : pm_take 1 C T = (some t, T1) := e1 1
        obtain ⟨p1, p2, _⟩ := pi_take hI.1 hC h0' (by decide) e1'
        obtain ⟨p3, p4, p5⟩ := p2 t rfl
        have hb := xs_tok p1.1.1.2.1 p4
        have hI1 : pi_I lim (T1, C, M, S, d, c, o, x) := pi_toI hI p1
        obtain ⟨s1, s2, s3⟩ := pi_step (b := false) (t := t) hI1 p3 p4
        have hrun : pm_run false lim (f + 1) (T, C, M, S, d, c, o, x) = pm_run false lim f (pm_step false lim t (T1, C, M, S, d, c, o, x)) := by
          conv => lhs; unfold pm_run
          rw [if_neg (fun z => z h0)]
          show (match pm_take 1 C T with | (none, T1) => (T1, C, M, S, d, c, o, x) | (some t, T1) => pm_run false lim f (pm_step false lim t (T1, C, M, S, d, c, o, x))) = _
          rw [e1']
        rw [hrun] at K
        obtain ⟨F1, F2, F3, F4, F5, F6, F7, F8, F9, F10, F11, F12, A1, A2, A3, A4, A5, A6, A7, A8, A9, A10, A11, A12, A13, A14, A15, A16, A17, A18, A19⟩ := v1
        refine br_t (yk_f0 hR1 p3) (br_t (nI_pos' (by omega)) ?_)
        refine zf_step hL hR1 hI1 p3 p4 (fun w' ar' ast' aln' v' hu => ?_)
        obtain ⟨F1, F2, F3, F4, F5, F6, F7, F8, F9, F10, F11, F12, A1, A2, A3, A4, A5, A6, A7, A8, A9, A10, A11, A12, A13, A14, A15, A16, A17, A18, A19⟩ := v'
        refine nm_r (nI_1 _) (ih _ w' ar' ast' aln' N (g + 1) _ _ _ _ _ _ _ _ _ _ _ _ _ _ _ _ _ _ _ _ _ _ _ _ _ _ _ _ _ _ _ (fun z => ?_) (by omega) (by omega) hu s1 K)
        have k1 := s3 z
        have k2 : pi_mu lim (T1, C, M, S, d, c, o, x) + 1 ≤ pi_mu lim (T, C, M, S, d, c, o, x) := by
          have p5' : pm_len T1 + 1 ≤ pm_len T := p5
          show pm_len T1 + 600 * (lim - x) + 1 ≤ pm_len T + 600 * (lim - x)
          omega
        omega
      · rw [hrunN T1 (e1 1)] at K
        have k := K w ar ast aln v1 hR1
        obtain ⟨F1, F2, F3, F4, F5, F6, F7, F8, F9, F10, F11, F12, A1, A2, A3, A4, A5, A6, A7, A8, A9, A10, A11, A12, A13, A14, A15, A16, A17, A18, A19⟩ := v1
        have z1 := (yk_st hR1).1
        refine br_f (yk_f1 hR1 hz) ?_
        rw [z1]
        rw [z1] at k
        exact k
      · rw [hrunN (1, T0.2) (e1 1)] at K
        obtain ⟨F1, F2, F3, F4, F5, F6, F7, F8, F9, F10, F11, F12, A1, A2, A3, A4, A5, A6, A7, A8, A9, A10, A11, A12, A13, A14, A15, A16, A17, A18, A19⟩ := v1
        refine br_t (yk_f0 hR1 hz) (br_f (by decide) ?_)
        exact K w ar ast aln _ (yk_err (k := 1) (by decide) hR1)
    · have z1 := (yk_st hR).1
      rw [pe_stop h0] at K
      have k' : post F3 (F1, F2, F3, F4, F5, F6, F7, F8, F9, F10, F11, F12, A1, A2, A3, A4, A5, A6, A7, A8, A9, A10, A11, A12, A13, A14, A15, A16, A17, A18, A19) := by rw [z1]; rw [z1] at hR; exact K w ar ast aln _ hR
      exact br_f (yk_f1 hR h0) k'
theorem zf_rn {P : pm_P} {rn' : Int32} (h : yr_R L lim P w ar ast aln rn (F1, F2, F3, F4, F5, F6, F7, F8, F9, F10, F11, F12, A1, A2, A3, A4, A5, A6, A7, A8, A9, A10, A11, A12, A13, A14, A15, A16, A17, A18, A19)) : F4 = rn ∧ yr_R L lim P w ar ast aln rn' (F1, F2, F3, rn', F5, F6, F7, F8, F9, F10, F11, F12, A1, A2, A3, A4, A5, A6, A7, A8, A9, A10, A11, A12, A13, A14, A15, A16, A17, A18, A19) := by
  obtain ⟨⟨st, rest, ps, ns⟩, C, M, S, d, c, o, x⟩ := P
  obtain ⟨ip, pc, inp, cat, pend, out, nl, nch, si, sl, cd, stk, e, h1⟩ := h
  cases e
  exact ⟨rfl, _, _, _, _, _, _, _, _, _, _, _, _, rfl, h1⟩
theorem zf_mu {P : pm_P} (hI : pi_I lim P) : pi_mu lim P < 70000 := by
  obtain ⟨T, C, M, S, d, c, o, x⟩ := P
  have h1 : pm_len T ≤ 512 := xe_len hI.1
  have h2 : x ≤ lim ∧ lim ≤ 100 := hI.2.2.2.2.2.2.2.2.2.2
  show pm_len T + 600 * (lim - x) < 70000
  omega
theorem zf_run {post : Int32 → SY → Prop} {P : pm_P} (hL : xr_I L) (hR : yr_R L lim P w ar ast aln 0 v) (hI : pi_I lim P) (K : ∀ w' ar' ast' aln' v', yr_R L lim (pm_run false lim 70000 P) w' ar' ast' aln' 1 v' → post (nI (pm_run false lim 70000 P).1.1) v') : wpY_run post v := by
  have hmu := zf_mu hI
  obtain ⟨N, hN⟩ : ∃ N : Nat, 70000 < N := ⟨70001, by decide⟩
  obtain ⟨F1, F2, F3, F4, F5, F6, F7, F8, F9, F10, F11, F12, A1, A2, A3, A4, A5, A6, A7, A8, A9, A10, A11, A12, A13, A14, A15, A16, A17, A18, A19⟩ := v
  obtain ⟨e4, hR1⟩ := zf_rn (rn' := 1) hR
  have h := zf_runL hL 70000 P w ar ast aln N 0 _ _ _ _ _ _ _ _ _ _ _ _ _ _ _ _ _ _ _ _ _ _ _ _ _ _ _ _ _ _ _ (fun _ => hmu) hN (by decide) hR1 hI K
  rw [show nI 0 = (0 : Int32) from rfl] at h
  exact br_t e4 ⟨N, h⟩
theorem zf_ran {post : Int32 → SY → Prop} {P : pm_P} (hR : yr_R L lim P w ar ast aln 1 v) (K : post (nI P.1.1) v) : wpY_run post v := by
  obtain ⟨F1, F2, F3, F4, F5, F6, F7, F8, F9, F10, F11, F12, A1, A2, A3, A4, A5, A6, A7, A8, A9, A10, A11, A12, A13, A14, A15, A16, A17, A18, A19⟩ := v
  have z1 := (yk_st hR).1
  obtain ⟨e4, hR1⟩ := zf_rn (rn' := 1) hR
  refine br_f (by rw [e4]; decide) ?_
  rw [← z1] at K
  exact K
end ZF
