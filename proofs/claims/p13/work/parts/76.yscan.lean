section YY
variable {L : List Nat} {lim : Nat} {w : yr_W} {ar ast aln : Nat → Int32} {rn : Int32} {v : SY} {post : SY → Prop} {F1 F2 F3 F4 F5 F6 F7 F8 F9 F10 F11 F12 : Int32} {A1 A2 A3 A4 A5 A6 A7 A8 A9 A10 A11 A12 A13 A14 A15 A16 A17 A18 A19 : Nat → Int32}
theorem yy_und {C : Nat → Nat} {room k s : Nat} {T : pm_T} {q : (Nat → pm_Mn) × List pm_Sv × Nat × List Nat × List Nat × Nat} (hL : xr_I L) (hC : ∀ a, a < 128 → C a < 8) (hk : k < 10) (hs : s ≤ 256) (hR : yr_R L lim (T, C, q) w ar ast aln rn (F1, F2, F3, F4, F5, F6, F7, F8, F9, F10, F11, F12, A1, A2, A3, A4, A5, A6, A7, A8, A9, A10, A11, A12, A13, A14, A15, A16, A17, A18, A19)) (hI : pi_I lim (T, C, q)) (h0 : T.1 = 0)
    (K : ∀ r T' ar' aln' v', pm_und false C room T = (r, T') → (∀ j, j < s → ar' j = ar j) → (∀ a, r = some a → xe_C ar' s a ∧ aln' = upd aln k (nI a.length)) → yr_R L lim (T', C, q) w ar' ast aln' rn v' → post v') : ∃ n23 : Nat, wY_scanArg_23 post (nI k) (nI s) 0 n23 (-1) 0 F1 F2 F3 F4 F5 F6 F7 F8 F9 F10 F11 F12 A1 A2 A3 A4 A5 A6 A7 A8 A9 A10 A11 A12 A13 A14 A15 A16 A17 A18 A19 := by
  have hl : pm_len T ≤ 512 := xe_len hI.1
  have h := yx_23 (post := post) (x4 := nI k) (x5 := nI s) (x6 := 0) hL hC (pm_len T + 1) T (pm_len T + 2) 0 (-1) _ _ _ _ _ _ _ _ _ _ _ _ _ _ _ _ _ _ _ _ _ _ _ _ _ _ _ _ _ _ _ (by omega) (by omega) (by omega) hR hI h0 (fun t T1 v1 e1 hR1 => ?_) (fun T1 v1 e1 hR1 => ?_)
  · exact ⟨_, h⟩
  · obtain ⟨s1, s2, s3⟩ := pi_sp hC _ _ _ _ hI.1 h0 (Nat.lt_succ_self _) e1
    obtain ⟨s4, s5, s6⟩ := s2 t rfl
    have hb := xs_tok s1.1.1.2.1 s5
    have hI1 := pi_toI hI s1
    have hl1 : pm_len T1 ≤ 512 := xe_len s1.1
    have hc1 := yp_c (k := 1) hb (by decide) (by decide)
    have hc2 := yp_c (k := 2) hb (by decide) (by decide)
    obtain ⟨F1, F2, F3, F4, F5, F6, F7, F8, F9, F10, F11, F12, A1, A2, A3, A4, A5, A6, A7, A8, A9, A10, A11, A12, A13, A14, A15, A16, A17, A18, A19⟩ := v1
    obtain ⟨z1, z2, z3, z4, z5, z6, z7, z8, z9⟩ := yl_tab hR1
    subst z7 z8 z9
    unfold wY_scanArg_63
    rw [yp_shr (by omega)]
    by_cases c2 : pm_cat t = 2
    · refine br_t (hc2.mpr c2) (K none (pm_err 8 T1) A16 A18 _ ?_ (fun j _ => rfl) (fun a ha => (nomatch ha)) (yk_err (k := 8) (by decide) hR1))
      simp only [pm_und, e1, if_pos c2]
    · refine br_f (fun z => c2 (hc2.mp z)) ?_
      by_cases c1 : pm_cat t = 1
      · refine br_t (hc1.mpr c1) ?_
        have h2 := yx_112 (post := post) (room := room) (k := k) (s := s) (aln := A18) (ast := A17) hL hC hk hs (pm_len T1 + 1) 1 [] T1 A16 (pm_len T1 + 2) 0 _ _ _ _ _ _ _ _ _ _ _ _ _ _ _ _ _ _ _ _ _ _ _ _ _ _ _ _ _ _ _ (by omega) (by omega) (by omega) (by omega) (by omega) (by show 0 + _ ≤ _; omega) hR1 hI1 s4 (fun j hj => absurd hj (Nat.not_lt_zero _)) (fun r T' ar' aln' v' q1 q2 q3 q4 => K r T' ar' aln' v' (by simp only [pm_und, e1, if_neg c2, if_pos c1]; exact q1) q2 q3 q4)
        exact ⟨_, h2⟩
      · refine br_f (fun z => c1 (hc1.mp z)) ⟨vp_in_nI (by omega) (by decide), fun ar' y1 => ⟨vp_in_nI hk (by decide), fun aln' y2 => ?_⟩⟩
        rw [nI_clamp (by omega)] at y1 y2
        subst y1 y2
        refine K (some [t]) T1 _ _ _ ?_ (fun j hj => pk_un (by omega)) (fun a ha => ?_) (yx_sc hR1 _ _ _)
        · simp only [pm_und, e1, if_neg c2, if_neg c1]
          rw [if_neg (fun z => nomatch z.1)]
        · cases ha
          refine ⟨fun j hj => ?_, rfl⟩
          have hj0 : j = 0 := by
            have : j < 1 := hj
            omega
          subst hj0
          exact pk_us
  · exact K none T1 ar aln v1 (by simp only [pm_und, e1]) (fun j _ => rfl) (fun a ha => (nomatch ha)) hR1
end YY
