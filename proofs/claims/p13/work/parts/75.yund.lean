section YX
variable {L : List Nat} {lim : Nat} {w : yr_W} {ar ast aln : Nat → Int32} {rn : Int32} {v : SY} {post : SY → Prop} {F1 F2 F3 F4 F5 F6 F7 F8 F9 F10 F11 F12 : Int32} {A1 A2 A3 A4 A5 A6 A7 A8 A9 A10 A11 A12 A13 A14 A15 A16 A17 A18 A19 : Nat → Int32}
theorem yx_sc {P : pm_P} (h : yr_R L lim P w ar ast aln rn (F1, F2, F3, F4, F5, F6, F7, F8, F9, F10, F11, F12, A1, A2, A3, A4, A5, A6, A7, A8, A9, A10, A11, A12, A13, A14, A15, A16, A17, A18, A19)) (ar' ast' aln' : Nat → Int32) : yr_R L lim P w ar' ast' aln' rn (F1, F2, F3, F4, F5, F6, F7, F8, F9, F10, F11, F12, A1, A2, A3, A4, A5, A6, A7, A8, A9, A10, A11, A12, A13, A14, A15, ar', ast', aln', A19) := by
  obtain ⟨⟨st, rest, ps, ns⟩, C, M, S, d, c, o, x⟩ := P
  obtain ⟨ip, pc, inp, cat, pend, out, nl, nch, si, sl, cd, stk, e, h1⟩ := h
  cases e
  exact ⟨_, _, _, _, _, _, _, _, _, _, _, _, rfl, h1⟩
theorem yx_112 {C : Nat → Nat} {room k s : Nat} {q : (Nat → pm_Mn) × List pm_Sv × Nat × List Nat × List Nat × Nat} (hL : xr_I L) (hC : ∀ a, a < 128 → C a < 8) (hk : k < 10) (hs : s ≤ 256) : ∀ (f d : Nat) (acc : List Nat) (T : pm_T) (ar : Nat → Int32) (N g : Nat) (F1 F2 F3 F4 F5 F6 F7 F8 F9 F10 F11 F12 : Int32) (A1 A2 A3 A4 A5 A6 A7 A8 A9 A10 A11 A12 A13 A14 A15 A16 A17 A18 A19 : Nat → Int32), pm_len T < f → f < N → g + f ≤ 1000 → d + f ≤ 1000 → 0 < d → acc.length + f ≤ 520 → yr_R L lim (T, C, q) w ar ast aln rn (F1, F2, F3, F4, F5, F6, F7, F8, F9, F10, F11, F12, A1, A2, A3, A4, A5, A6, A7, A8, A9, A10, A11, A12, A13, A14, A15, A16, A17, A18, A19) → pi_I lim (T, C, q) → T.1 = 0 → xe_C ar s acc →
    (∀ r T' ar' aln' v', pm_grp false C room f d acc T = (r, T') → (∀ j, j < s → ar' j = ar j) → (∀ a, r = some a → xe_C ar' s a ∧ aln' = upd aln k (nI a.length)) → yr_R L lim (T', C, q) w ar' ast aln' rn v' → post v') → wY_scanArg_112 post (nI k) (nI s) N (nI acc.length) (nI d) (nI g) F1 F2 F3 F4 F5 F6 F7 F8 F9 F10 F11 F12 A1 A2 A3 A4 A5 A6 A7 A8 A9 A10 A11 A12 A13 A14 A15 A16 A17 A18 A19 := by
  intro f
  induction f with
  | zero => intro d acc T ar N g F1 F2 F3 F4 F5 F6 F7 F8 F9 F10 F11 F12 A1 A2 A3 A4 A5 A6 A7 A8 A9 A10 A11 A12 A13 A14 A15 A16 A17 A18 A19 h; omega
  | succ f ih =>
    intro d acc T ar N g F1 F2 F3 F4 F5 F6 F7 F8 F9 F10 F11 F12 A1 A2 A3 A4 A5 A6 A7 A8 A9 A10 A11 A12 A13 A14 A15 A16 A17 A18 A19 hf hN hg hd hd0 hac hR hI h0 hacc K
    obtain ⟨N, rfl⟩ : ∃ m, N = m + 1 := ⟨N - 1, by omega⟩
    refine br_f (nI_ge (b := 1000) (by omega) (by decide)) ?_
    refine yk_need hL hR hI h0 (fun t T1 v1 e1 hR1 => ?_) (fun T1 v1 e1 hne hR1 => ?_)
    · have e1' : pm_take 3 C T = (some t, T1) := e1
      obtain ⟨p1, p2, p3, p4⟩ := pi_tk hI.1 hC h0 e1'
      have p4' : pm_len T1 + 1 ≤ pm_len T := p4
      have hb := xs_tok p1.1.1.2.1 p3
      have hI1 := pi_toI hI p1
      have hc1 := yp_c (k := 1) hb (by decide) (by decide)
      have hc2 := yp_c (k := 2) hb (by decide) (by decide)
      have hnl : pm_nest t d ≤ d + 1 := by unfold pm_nest; split <;> (try split) <;> omega
      obtain ⟨F1, F2, F3, F4, F5, F6, F7, F8, F9, F10, F11, F12, A1, A2, A3, A4, A5, A6, A7, A8, A9, A10, A11, A12, A13, A14, A15, A16, A17, A18, A19⟩ := v1
      obtain ⟨z1, z2, z3, z4, z5, z6, z7, z8, z9⟩ := yl_tab hR1
      subst z7 z8 z9
      have hw : ¬ pm_nest t d = 0 → wY_scanArg_166 post (wY_scanArg_112 post (nI k) (nI s) N) (nI k) (nI s) (nI acc.length) (nI t) (nI (pm_nest t d)) (nI g) F1 F2 F3 F4 F5 F6 F7 F8 F9 F10 F11 F12 A1 A2 A3 A4 A5 A6 A7 A8 A9 A10 A11 A12 A13 A14 A15 A16 A17 A18 A19 := fun hz => by
        have e : nI s + nI acc.length = nI (s + acc.length) := nI_add _ _
        refine ⟨by rw [e]; exact vp_in_nI (by omega) (by decide), fun ar' y => nm_r (nI_1 _) (nm_r (nI_1 _) ?_)⟩
        rw [e, nI_clamp (by omega)] at y
        subst y
        have hrec : pm_grp false C room (f + 1) d acc T = pm_grp false C room f (pm_nest t d) (acc ++ [t]) T1 := by
          simp only [pm_grp, e1', if_neg hz]
          rw [if_neg (fun z => nomatch z.1)]
        have := ih (pm_nest t d) (acc ++ [t]) T1 (upd A16 (s + acc.length) (nI t)) N (g + 1) _ _ _ _ _ _ _ _ _ _ _ _ _ _ _ _ _ _ _ _ _ _ _ _ _ _ _ _ _ _ _ (by omega) (by omega) (by omega) (by omega) (by omega) (by rw [List.length_append]; simp only [List.length_cons, List.length_nil]; omega) (yx_sc hR1 _ _ _) hI1 p2 (xe_C_push hacc) (fun r T' ar2 aln' v' q1 q2 q3 q4 => K r T' ar2 aln' v' (by rw [hrec]; exact q1) (fun j hj => (q2 j hj).trans (pk_un (by omega))) q3 q4)
        rw [List.length_append] at this
        exact this
      refine br_t (yk_f0 hR1 p2) ?_
      rw [yp_shr (by omega)]
      by_cases c1 : pm_cat t = 1
      · have hn : pm_nest t d = d + 1 := by unfold pm_nest; rw [if_pos c1]
        have k := hw (by omega)
        rw [hn] at k
        refine br_t (hc1.mpr c1) (nm_r (nI_1 _) ?_)
        refine br_f (fun z => ?_) k
        rw [yp_shr (by omega)] at z
        have := hc2.mp z
        omega
      · refine br_f (fun z => c1 (hc1.mp z)) ?_
        by_cases c2 : pm_cat t = 2
        · have hn : pm_nest t d = d - 1 := by unfold pm_nest; rw [if_neg c1, if_pos c2]
          refine br_t (by rw [yp_shr (by omega)]; exact hc2.mpr c2) (nm_r (show nI d + (-1) = nI (d - 1) by rw [xg_m1]; exact pk_sub (b := 1) (by omega)) ?_)
          by_cases hz : d - 1 = 0
          · refine br_t (by rw [hz]; rfl) ⟨vp_in_nI hk (by decide), fun aln' y => ?_⟩
            rw [nI_clamp (by omega)] at y
            subst y
            refine K (some acc) T1 A16 _ _ ?_ (fun j _ => rfl) (fun a ha => by cases ha; exact ⟨hacc, rfl⟩) (yx_sc hR1 _ _ _)
            simp only [pm_grp, e1', if_pos (show pm_nest t d = 0 by rw [hn]; exact hz)]
          · have k := hw (by omega)
            rw [hn] at k
            exact br_f (nI_ne0 (by omega) (by omega)) k
        · have hn : pm_nest t d = d := by unfold pm_nest; rw [if_neg c1, if_neg c2]
          have k := hw (by omega)
          rw [hn] at k
          refine br_f (fun z => ?_) k
          rw [yp_shr (by omega)] at z
          exact c2 (hc2.mp z)
    · have e1' : pm_take 3 C T = (none, T1) := e1
      have k := K none T1 ar aln v1 (by simp only [pm_grp, e1']) (fun j _ => rfl) (fun a ha => (nomatch ha)) hR1
      obtain ⟨F1, F2, F3, F4, F5, F6, F7, F8, F9, F10, F11, F12, A1, A2, A3, A4, A5, A6, A7, A8, A9, A10, A11, A12, A13, A14, A15, A16, A17, A18, A19⟩ := v1
      exact br_f (yk_f1 hR1 hne) k
theorem yx_23 {C : Nat → Nat} {x4 x5 x6 : Int32} {q : (Nat → pm_Mn) × List pm_Sv × Nat × List Nat × List Nat × Nat} (hL : xr_I L) (hC : ∀ a, a < 128 → C a < 8) : ∀ (f : Nat) (T : pm_T) (N g : Nat) (x7 : Int32) (F1 F2 F3 F4 F5 F6 F7 F8 F9 F10 F11 F12 : Int32) (A1 A2 A3 A4 A5 A6 A7 A8 A9 A10 A11 A12 A13 A14 A15 A16 A17 A18 A19 : Nat → Int32), pm_len T < f → f < N → g + f ≤ 1000 → yr_R L lim (T, C, q) w ar ast aln rn (F1, F2, F3, F4, F5, F6, F7, F8, F9, F10, F11, F12, A1, A2, A3, A4, A5, A6, A7, A8, A9, A10, A11, A12, A13, A14, A15, A16, A17, A18, A19) → pi_I lim (T, C, q) → T.1 = 0 →
    (∀ t T' v', pm_sp C f T = (some t, T') → yr_R L lim (T', C, q) w ar ast aln rn v' → (match v' with | (F1, F2, F3, F4, F5, F6, F7, F8, F9, F10, F11, F12, A1, A2, A3, A4, A5, A6, A7, A8, A9, A10, A11, A12, A13, A14, A15, A16, A17, A18, A19) => wY_scanArg_63 post x4 x5 x6 (nI t) F1 F2 F3 F4 F5 F6 F7 F8 F9 F10 F11 F12 A1 A2 A3 A4 A5 A6 A7 A8 A9 A10 A11 A12 A13 A14 A15 A16 A17 A18 A19)) → (∀ T' v', pm_sp C f T = (none, T') → yr_R L lim (T', C, q) w ar ast aln rn v' → post v') → wY_scanArg_23 post x4 x5 x6 N x7 (nI g) F1 F2 F3 F4 F5 F6 F7 F8 F9 F10 F11 F12 A1 A2 A3 A4 A5 A6 A7 A8 A9 A10 A11 A12 A13 A14 A15 A16 A17 A18 A19 := by
  intro f
  induction f with
  | zero => intro T N g x7 F1 F2 F3 F4 F5 F6 F7 F8 F9 F10 F11 F12 A1 A2 A3 A4 A5 A6 A7 A8 A9 A10 A11 A12 A13 A14 A15 A16 A17 A18 A19 h; omega
  | succ f ih =>
    intro T N g x7 F1 F2 F3 F4 F5 F6 F7 F8 F9 F10 F11 F12 A1 A2 A3 A4 A5 A6 A7 A8 A9 A10 A11 A12 A13 A14 A15 A16 A17 A18 A19 hf hN hg hR hI h0 K1 K0
    obtain ⟨N, rfl⟩ : ∃ m, N = m + 1 := ⟨N - 1, by omega⟩
    refine br_f (nI_ge (b := 1000) (by omega) (by decide)) ?_
    refine yk_need hL hR hI h0 (fun t T1 v1 e1 hR1 => ?_) (fun T1 v1 e1 hne hR1 => ?_)
    · have e1' : pm_take 3 C T = (some t, T1) := e1
      obtain ⟨p1, p2, p3, p4⟩ := pi_tk hI.1 hC h0 e1'
      have p4' : pm_len T1 + 1 ≤ pm_len T := p4
      have hb := xs_tok p1.1.1.2.1 p3
      have hI1 := pi_toI hI p1
      have hc4 := yp_c (k := 4) hb (by decide) (by decide)
      have k1 : ¬ pm_cat t = 4 → (match v1 with | (F1, F2, F3, F4, F5, F6, F7, F8, F9, F10, F11, F12, A1, A2, A3, A4, A5, A6, A7, A8, A9, A10, A11, A12, A13, A14, A15, A16, A17, A18, A19) => wY_scanArg_63 post x4 x5 x6 (nI t) F1 F2 F3 F4 F5 F6 F7 F8 F9 F10 F11 F12 A1 A2 A3 A4 A5 A6 A7 A8 A9 A10 A11 A12 A13 A14 A15 A16 A17 A18 A19) := fun c4 => K1 t T1 v1 (by simp only [pm_sp, e1', if_neg c4]) hR1
      obtain ⟨F1, F2, F3, F4, F5, F6, F7, F8, F9, F10, F11, F12, A1, A2, A3, A4, A5, A6, A7, A8, A9, A10, A11, A12, A13, A14, A15, A16, A17, A18, A19⟩ := v1
      refine br_t (yk_f0 hR1 p2) ?_
      by_cases c4 : pm_cat t = 4
      · have hrec : pm_sp C (f + 1) T = pm_sp C f T1 := by simp only [pm_sp, e1', if_pos c4]
        refine br_t (by rw [yp_shr (by omega)]; exact hc4.mpr c4) (nm_r (nI_1 _) ?_)
        exact ih T1 N (g + 1) (nI t) _ _ _ _ _ _ _ _ _ _ _ _ _ _ _ _ _ _ _ _ _ _ _ _ _ _ _ _ _ _ _ (by omega) (by omega) (by omega) hR1 hI1 p2 (fun t' T' v' z => K1 t' T' v' (by rw [hrec]; exact z)) (fun T' v' z => K0 T' v' (by rw [hrec]; exact z))
      · refine br_f (fun z => ?_) (k1 c4)
        rw [yp_shr (by omega)] at z
        exact c4 (hc4.mp z)
    · have e1' : pm_take 3 C T = (none, T1) := e1
      have k := K0 T1 v1 (by simp only [pm_sp, e1']) hR1
      obtain ⟨F1, F2, F3, F4, F5, F6, F7, F8, F9, F10, F11, F12, A1, A2, A3, A4, A5, A6, A7, A8, A9, A10, A11, A12, A13, A14, A15, A16, A17, A18, A19⟩ := v1
      exact br_f (yk_f1 hR1 hne) k
end YX
