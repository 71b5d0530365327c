section YS
variable {L : List Nat} {lim : Nat} {w : yr_W} {ar ast aln : Nat → Int32} {rn : Int32} {v : SY} {post : SY → Prop} {F1 F2 F3 F4 F5 F6 F7 F8 F9 F10 F11 F12 : Int32} {A1 A2 A3 A4 A5 A6 A7 A8 A9 A10 A11 A12 A13 A14 A15 A16 A17 A18 A19 : Nat → Int32}
theorem ys_push {k : Nat} {P : pm_P} (hR : yr_R L lim P w ar ast aln rn v) (hI : pi_I lim P) (K : ∀ v', yr_R L lim (pm_push k P) w ar ast aln rn v' → post v') : wpY_push post v (nI k) := by
  obtain ⟨⟨st, rest, ps, ns⟩, C, M, S, d, c, o, x⟩ := P
  have hR' := hR
  obtain ⟨ip, pc, inp, cat, pend, out, nl, nch, si, sl, cd, stk, rfl, h1, hs, h2, h3, h4, h5, h6, h7⟩ := hR
  have hc : c.length ≤ 8 := hI.2.2.2.2.2.2.2.1
  by_cases h8 : 8 ≤ c.length
  · refine br_t (by rw [show c.length = 8 from by omega]; rfl) (K _ ?_)
    simp only [pm_push, if_pos h8]
    exact yk_err (k := 12) (by decide) hR'
  · refine br_f (fun z => by have := (nI_eq (b := 8) (by omega) (by decide)).mp z; omega) ⟨vp_in_nI (by omega) (by decide), fun cd' e => nm_r (nI_1 _) (K _ ?_)⟩
    rw [nI_clamp (by omega)] at e
    subst e
    simp only [pm_push, if_neg h8]
    exact ⟨ip, pc, inp, cat, pend, out, nl, nch, si, sl, _, stk, rfl, h1, hs, h2, h3, h4, h5, h6, xr_S_push h7⟩
/-- the reference's tables at a name's token -/
theorem ys_kv {T : pm_T} {C : Nat → Nat} {M : Nat → pm_Mn} {q : List pm_Sv × Nat × List Nat × List Nat × Nat} {t : Nat} (hR : yr_R L lim (T, C, M, q) w ar ast aln rn (F1, F2, F3, F4, F5, F6, F7, F8, F9, F10, F11, F12, A1, A2, A3, A4, A5, A6, A7, A8, A9, A10, A11, A12, A13, A14, A15, A16, A17, A18, A19)) (h : t - 1024 < 32) : A7 (t - 1024) = nI (M (t - 1024)).1 ∧ A8 (t - 1024) = nI (M (t - 1024)).2.1 := by
  obtain ⟨z1, z2, z3⟩ := yl_tab hR
  have g := yl_MM hR (t - 1024) h
  exact ⟨(congrFun z1 _).trans g.1, (congrFun z2 _).trans g.2.1⟩
theorem ys_skipL {post : Int32 → SY → Prop} {C : Nat → Nat} {M : Nat → pm_Mn} {els : Bool} {q : List pm_Sv × Nat × List Nat × List Nat × Nat} (hL : xr_I L) (hC : ∀ a, a < 128 → C a < 8) : ∀ (f nest : Nat) (T : pm_T) (N step : Nat) (F1 F2 F3 F4 F5 F6 F7 F8 F9 F10 F11 F12 : Int32) (A1 A2 A3 A4 A5 A6 A7 A8 A9 A10 A11 A12 A13 A14 A15 A16 A17 A18 A19 : Nat → Int32), pm_len T < f → f < N → step + f ≤ 1000 → nest + f ≤ 1000 → yr_R L lim (T, C, M, q) w ar ast aln rn (F1, F2, F3, F4, F5, F6, F7, F8, F9, F10, F11, F12, A1, A2, A3, A4, A5, A6, A7, A8, A9, A10, A11, A12, A13, A14, A15, A16, A17, A18, A19) → pi_I lim (T, C, M, q) → T.1 = 0 →
    (∀ T' v', pm_skip C M els f nest T = (99, T') → T'.1 ≠ 0 → yr_R L lim (T', C, M, q) w ar ast aln rn v' → post 0 v') → (∀ T' v', pm_skip C M els f nest T = (12, T') → T'.1 = 0 → yr_R L lim (T', C, M, q) w ar ast aln rn v' → post 1 v') → (∀ T' v', pm_skip C M els f nest T = (13, T') → T'.1 = 0 → yr_R L lim (T', C, M, q) w ar ast aln rn v' → post 0 v') → wY_skip_4 post (xa_b els) N (nI nest) (nI step) F1 F2 F3 F4 F5 F6 F7 F8 F9 F10 F11 F12 A1 A2 A3 A4 A5 A6 A7 A8 A9 A10 A11 A12 A13 A14 A15 A16 A17 A18 A19 := by
  intro f
  induction f with
  | zero => intro nest T N step F1 F2 F3 F4 F5 F6 F7 F8 F9 F10 F11 F12 A1 A2 A3 A4 A5 A6 A7 A8 A9 A10 A11 A12 A13 A14 A15 A16 A17 A18 A19 h; omega
  | succ f ih =>
    intro nest T N step F1 F2 F3 F4 F5 F6 F7 F8 F9 F10 F11 F12 A1 A2 A3 A4 A5 A6 A7 A8 A9 A10 A11 A12 A13 A14 A15 A16 A17 A18 A19 hf hN hst hne hR hI h0 K0 K12 K13
    obtain ⟨N, rfl⟩ : ∃ m, N = m + 1 := ⟨N - 1, by omega⟩
    refine br_f (nI_ge (b := 1000) (by omega) (by decide)) ?_
    refine yk_need hL hR hI h0 (fun t T1 v1 e1 hR1 => ?_) (fun T1 v1 e1 hn1 hR1 => ?_)
    · have e1' : pm_take 3 C T = (some t, T1) := e1
      obtain ⟨p1, p2, p3, p4⟩ := pi_tk hI.1 hC h0 e1'
      have p4' : pm_len T1 + 1 ≤ pm_len T := p4
      have hb := xs_tok p1.1.1.2.1 p3
      have hI1 := pi_toI hI p1
      have hMi : pi_M T1.2.2.2.length M := by obtain ⟨S, d, c, o, x⟩ := q; exact hI1.2.2.1
      have k12 := fun (h : pm_skip C M els (f + 1) nest T = (12, T1)) => K12 T1 v1 h p2 hR1
      have k13 := fun (h : pm_skip C M els (f + 1) nest T = (13, T1)) => K13 T1 v1 h p2 hR1
      obtain ⟨F1, F2, F3, F4, F5, F6, F7, F8, F9, F10, F11, F12, A1, A2, A3, A4, A5, A6, A7, A8, A9, A10, A11, A12, A13, A14, A15, A16, A17, A18, A19⟩ := v1
      have go : ∀ nest', nest' + f ≤ 1000 → pm_skip C M els (f + 1) nest T = pm_skip C M els f nest' T1 → wY_skip_4 post (xa_b els) N (nI nest') (nI (step + 1)) F1 F2 F3 F4 F5 F6 F7 F8 F9 F10 F11 F12 A1 A2 A3 A4 A5 A6 A7 A8 A9 A10 A11 A12 A13 A14 A15 A16 A17 A18 A19 := fun nest' hn' he =>
        ih nest' T1 N (step + 1) _ _ _ _ _ _ _ _ _ _ _ _ _ _ _ _ _ _ _ _ _ _ _ _ _ _ _ _ _ _ _ (by omega) (by omega) (by omega) hn' hR1 hI1 p2 (fun T' v' q1 => K0 T' v' (by rw [he]; exact q1)) (fun T' v' q1 => K12 T' v' (by rw [he]; exact q1)) (fun T' v' q1 => K13 T' v' (by rw [he]; exact q1))
      have hb0 : xa_b els = 0 ↔ ¬ els = true := by cases els <;> simp [xa_b] <;> decide
      refine br_t (yk_f0 hR1 p2) ?_
      by_cases ht : t < 1024
      · have hp : pm_prim M t = 99 := by unfold pm_prim; rw [if_pos ht]
        refine br_t (nI_lt (b := 1024) ht (by decide)) (nm_r (nI_1 _) (go nest (by omega) ?_))
        simp only [pm_skip, e1', hp]
        rw [if_neg (fun z => by have := z.2; omega), if_neg (by omega), if_neg (by omega)]
      · obtain ⟨q1, q2, q3⟩ := pi_id p3 p1.1.1.2.1 ht
        obtain ⟨kv1, kv2⟩ := ys_kv hR1 q2
        have e : nI t - 1024 = nI (t - 1024) := pk_sub (b := 1024) (by omega)
        have hvp : vp_in (nI (t - 1024)) 65 := vp_in_nI (by omega) (by decide)
        refine br_f (nI_nlt (b := 1024) (by omega) (by omega)) ?_
        rw [e, nI_clamp (by omega), kv1, kv2]
        refine ⟨hvp, ?_⟩
        have hsm := (xs_small p1.1.1.2.1 (Or.inl (hMi.2.1 _ q3))).1 0
        have hs0 : (M (t - 1024)).1 < 4096 := hsm
        by_cases hk : (M (t - 1024)).1 = 1
        · have hp : pm_prim M t = (M (t - 1024)).2.1 := by unfold pm_prim; rw [if_neg ht, if_pos hk]
          have h14 : (M (t - 1024)).2.1 < 14 := by
            rcases hMi.2.1 _ q3 with z | z | z | z
            · rw [z] at hk; cases hk
            · exact z.2.1
            · omega
            · omega
          rw [← hp] at h14 ⊢
          refine br_t (by rw [hk]; rfl) ⟨hvp, nm_e ?_⟩
          have h85 : ¬ (9 ≤ pm_prim M t ∧ pm_prim M t ≤ 11) → wY_skip_85 post (wY_skip_4 post (xa_b els) N) (xa_b els) (nI nest) (nI step) (nI (pm_prim M t)) F1 F2 F3 F4 F5 F6 F7 F8 F9 F10 F11 F12 A1 A2 A3 A4 A5 A6 A7 A8 A9 A10 A11 A12 A13 A14 A15 A16 A17 A18 A19 := fun h => by
            by_cases h13 : pm_prim M t = 13
            · refine br_t (by rw [h13]; rfl) ?_
              by_cases hz : nest = 0
              · refine br_t (by rw [hz]; rfl) (k13 ?_)
                simp only [pm_skip, e1', if_pos (show nest = 0 ∧ (pm_prim M t = 13 ∨ (pm_prim M t = 12 ∧ els = true)) from ⟨hz, Or.inl h13⟩)]
                rw [h13]
              · refine br_f (nI_ne0 (by omega) (by omega)) (nm_r (show nI nest + (-1) = nI (nest - 1) by rw [xg_m1]; exact pk_sub (b := 1) (by omega)) (nm_r (nI_1 _) (go _ (by omega) ?_)))
                simp only [pm_skip, e1', if_neg (show ¬ (nest = 0 ∧ (pm_prim M t = 13 ∨ (pm_prim M t = 12 ∧ els = true))) from fun z => hz z.1), if_neg h, if_pos h13]
            · refine br_f (fun z => h13 ((nI_eq (b := 13) (by omega) (by decide)).mp z)) ?_
              have same : ¬ (nest = 0 ∧ pm_prim M t = 12 ∧ els = true) → pm_skip C M els (f + 1) nest T = pm_skip C M els f nest T1 := fun hn => by
                simp only [pm_skip, e1', if_neg (show ¬ (nest = 0 ∧ (pm_prim M t = 13 ∨ (pm_prim M t = 12 ∧ els = true))) from fun z => z.2.elim h13 (fun y => hn ⟨z.1, y⟩)), if_neg h, if_neg h13]
              by_cases h12 : pm_prim M t = 12
              · refine br_t (by rw [h12]; rfl) ?_
                by_cases hz : nest = 0
                · refine br_t (by rw [hz]; rfl) ?_
                  by_cases hel : els = true
                  · refine br_f (fun z => (hb0.mp z) hel) (k12 ?_)
                    simp only [pm_skip, e1', if_pos (show nest = 0 ∧ (pm_prim M t = 13 ∨ (pm_prim M t = 12 ∧ els = true)) from ⟨hz, Or.inr ⟨h12, hel⟩⟩)]
                    rw [h12]
                  · exact br_t (hb0.mpr hel) (nm_r (nI_1 _) (go _ (by omega) (same (fun z => hel z.2.2))))
                · exact br_f (nI_ne0 (by omega) (by omega)) (nm_r (nI_1 _) (go _ (by omega) (same (fun z => hz z.1))))
              · exact br_f (fun z => h12 ((nI_eq (b := 12) (by omega) (by decide)).mp z)) (nm_r (nI_1 _) (go _ (by omega) (same (fun z => h12 z.2.1))))
          by_cases c9 : pm_prim M t < 9
          · exact br_t (nI_lt (b := 9) c9 (by decide)) (h85 (fun z => by omega))
          · refine br_f (nI_nlt (b := 9) (by omega) (by omega)) ?_
            by_cases c11 : 11 < pm_prim M t
            · exact br_t (nI_lt (a := 11) c11 (by omega)) (h85 (fun z => by omega))
            · refine br_f (nI_nlt (a := 11) (by omega) (by decide)) (nm_r (nI_1 _) (nm_r (nI_1 _) (go _ (by omega) ?_)))
              simp only [pm_skip, e1', if_neg (show ¬ (nest = 0 ∧ (pm_prim M t = 13 ∨ (pm_prim M t = 12 ∧ els = true))) from fun z => by rcases z.2 with y | y <;> omega), if_pos (show 9 ≤ pm_prim M t ∧ pm_prim M t ≤ 11 from ⟨by omega, by omega⟩)]
        · have hp : pm_prim M t = 99 := by unfold pm_prim; rw [if_neg ht, if_neg hk]
          refine br_f (fun z => hk ((nI_eq (b := 1) (by omega) (by decide)).mp z)) (nm_r (nI_1 _) (go nest (by omega) ?_))
          simp only [pm_skip, e1', hp]
          rw [if_neg (fun z => by have := z.2; omega), if_neg (by omega), if_neg (by omega)]
    · have e1' : pm_take 3 C T = (none, T1) := e1
      have k := K0 T1 v1 (by simp only [pm_skip, e1']) hn1 hR1
      obtain ⟨F1, F2, F3, F4, F5, F6, F7, F8, F9, F10, F11, F12, A1, A2, A3, A4, A5, A6, A7, A8, A9, A10, A11, A12, A13, A14, A15, A16, A17, A18, A19⟩ := v1
      exact br_f (yk_f1 hR1 hn1) k
theorem ys_skip {post : Int32 → SY → Prop} {T : pm_T} {C : Nat → Nat} {M : Nat → pm_Mn} {els : Bool} {q : List pm_Sv × Nat × List Nat × List Nat × Nat} (hL : xr_I L) (hR : yr_R L lim (T, C, M, q) w ar ast aln rn v) (hI : pi_I lim (T, C, M, q)) (h0 : T.1 = 0)
    (K0 : ∀ T' v', pm_skip C M els (pm_len T + 1) 0 T = (99, T') → T'.1 ≠ 0 → yr_R L lim (T', C, M, q) w ar ast aln rn v' → post 0 v') (K12 : ∀ T' v', pm_skip C M els (pm_len T + 1) 0 T = (12, T') → T'.1 = 0 → yr_R L lim (T', C, M, q) w ar ast aln rn v' → post 1 v') (K13 : ∀ T' v', pm_skip C M els (pm_len T + 1) 0 T = (13, T') → T'.1 = 0 → yr_R L lim (T', C, M, q) w ar ast aln rn v' → post 0 v') : wpY_skip post v (xa_b els) := by
  have hC : ∀ a, a < 128 → C a < 8 := by obtain ⟨S, d, c, o, x⟩ := q; exact hI.2.1
  have hl : pm_len T ≤ 512 := xe_len hI.1
  obtain ⟨F1, F2, F3, F4, F5, F6, F7, F8, F9, F10, F11, F12, A1, A2, A3, A4, A5, A6, A7, A8, A9, A10, A11, A12, A13, A14, A15, A16, A17, A18, A19⟩ := v
  have h := ys_skipL hL hC (pm_len T + 1) 0 T (pm_len T + 2) 0 _ _ _ _ _ _ _ _ _ _ _ _ _ _ _ _ _ _ _ _ _ _ _ _ _ _ _ _ _ _ _ (by omega) (by omega) (by omega) (by omega) hR hI h0 K0 K12 K13
  exact ⟨_, h⟩
end YS
