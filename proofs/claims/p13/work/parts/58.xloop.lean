section XZ
variable {L : List Nat} {lim : Nat} {mm ar ast ae : Nat → Int32} {au al : Int32} {u : SX} {f1 f2 f3 f4 f5 f6 f7 f8 f9 f10 f11 f12 f13 f14 : Int32} {a1 a2 a3 a4 a5 a6 a7 a8 a9 a10 a11 a12 a13 a14 a15 : Nat → Int32}
theorem xz_134 {post : Int32 → SX → Prop} {J2 : Int32 → Int32 → Int32 → Int32 → Int32 → Int32 → Int32 → Int32 → Int32 → Int32 → Int32 → Int32 → Int32 → Int32 → Int32 → (Nat → Int32) → (Nat → Int32) → (Nat → Int32) → (Nat → Int32) → (Nat → Int32) → (Nat → Int32) → (Nat → Int32) → (Nat → Int32) → (Nat → Int32) → (Nat → Int32) → (Nat → Int32) → (Nat → Int32) → (Nat → Int32) → (Nat → Int32) → (Nat → Int32) → Prop} {P : pm_P} {step : Nat} (hR : xr_R L lim P mm ar ast ae au al 0 (f1, f2, f3, f4, f5, f6, f7, f8, f9, f10, f11, f12, f13, f14, a1, a2, a3, a4, a5, a6, a7, a8, a9, a10, a11, a12, a13, a14, a15)) (K : J2 (nI (step + 1)) f1 f2 f3 f4 f5 f6 f7 f8 f9 f10 f11 f12 f13 f14 a1 a2 a3 a4 a5 a6 a7 a8 a9 a10 a11 a12 a13 a14 a15) : wX_run_134 post J2 (nI step) f1 f2 f3 f4 f5 f6 f7 f8 f9 f10 f11 f12 f13 f14 a1 a2 a3 a4 a5 a6 a7 a8 a9 a10 a11 a12 a13 a14 a15 := by
  obtain ⟨z1, z2, z3, z4, z5, z6⟩ := xh_st hR
  subst z5
  exact nm_e ⟨1, br_t (by decide) (nm_r (nI_1 _) K)⟩
theorem xz_runL {post : Int32 → SX → Prop} (hL : xr_I L) : ∀ (f : Nat) (P : pm_P) (mm ar ast ae : Nat → Int32) (au al hc : Int32) (N step : Nat) (f1 f2 f3 f4 f5 f6 f7 f8 f9 f10 f11 f12 f13 f14 : Int32) (a1 a2 a3 a4 a5 a6 a7 a8 a9 a10 a11 a12 a13 a14 a15 : Nat → Int32), (P.1.1 = 0 → pi_mu lim P < f) → f < N → step + f ≤ 1000000 → xr_R L lim P mm ar ast ae au al hc (f1, f2, f3, f4, f5, f6, f7, f8, f9, f10, f11, f12, f13, f14, a1, a2, a3, a4, a5, a6, a7, a8, a9, a10, a11, a12, a13, a14, a15) → pi_I lim P →
    (∀ mm' ar' ast' ae' au' al' hc' u', xr_R L lim (pm_run true lim f P) mm' ar' ast' ae' au' al' hc' u' → post (nI (pm_run true lim f P).1.1) u') → wX_run_2 post N (nI step) f1 f2 f3 f4 f5 f6 f7 f8 f9 f10 f11 f12 f13 f14 a1 a2 a3 a4 a5 a6 a7 a8 a9 a10 a11 a12 a13 a14 a15 := by
  intro f
  induction f with
  | zero =>
    intro P mm ar ast ae au al hc N step f1 f2 f3 f4 f5 f6 f7 f8 f9 f10 f11 f12 f13 f14 a1 a2 a3 a4 a5 a6 a7 a8 a9 a10 a11 a12 a13 a14 a15 hmu hN hst hR hI K
    obtain ⟨N, rfl⟩ : ∃ m, N = m + 1 := ⟨N - 1, by omega⟩
    have hne : P.1.1 ≠ 0 := fun z => absurd (hmu z) (Nat.not_lt_zero _)
    obtain ⟨z1, z2⟩ := xh_st hR
    have hlt := xh_lt hR
    have hst' : ¬ f3 = 0 := fun z => hne ((nI_eq (b := 0) (Nat.lt_trans hlt (by decide)) (by decide)).mp (z1.symm.trans z))
    have k := K mm ar ast ae au al hc _ hR
    have k' : post f3 (f1, f2, f3, f4, f5, f6, f7, f8, f9, f10, f11, f12, f13, f14, a1, a2, a3, a4, a5, a6, a7, a8, a9, a10, a11, a12, a13, a14, a15) := by rw [z1]; rw [z1] at k; exact k
    exact br_c (fun _ => k') (fun _ => br_f hst' k')
  | succ f ih =>
    intro P mm ar ast ae au al hc N step f1 f2 f3 f4 f5 f6 f7 f8 f9 f10 f11 f12 f13 f14 a1 a2 a3 a4 a5 a6 a7 a8 a9 a10 a11 a12 a13 a14 a15 hmu hN hst hR hI K
    obtain ⟨N, rfl⟩ : ∃ m, N = m + 1 := ⟨N - 1, by omega⟩
    have hlt := xh_lt hR
    refine br_f (nI_ge (b := 1000000) (by omega) (by decide)) ?_
    by_cases h0 : P.1.1 = 0
    · obtain ⟨T, C, M, S, d, c, o, x⟩ := P
      have h0' : T.1 = 0 := h0
      have hC : ∀ a, a < 128 → C a < 8 := hI.2.1
      have hmu' := hmu h0
      obtain ⟨z1, z2⟩ := xh_st hR
      refine br_t (z1.trans (congrArg nI h0')) ?_
      have hR0 := xw_hc (hc' := 0) hR
      refine xt_take (e := 1) hL hR0 hI h0' (by decide) (fun t T1 u1 e1 hR1 => ?_) (fun T1 u1 e1 hR1 => ?_)
      · have e1' : pm_take 1 C T = (some t, T1) := e1
        obtain ⟨p1, p2, _⟩ := pi_take hI.1 hC h0' (by decide) e1'
        obtain ⟨p3, p4, p5⟩ := p2 t rfl
        have hb := xs_tok p1.1.1.2.1 p4
        have hk := p1.1.1.2.1
        have hI1 : pi_I lim (T1, C, M, S, d, c, o, x) := pi_toI hI p1
        have hMi : pi_M T1.2.2.2.length M := hI1.2.2.1
        obtain ⟨s1, s2, s3⟩ := pi_step (b := true) (t := t) hI1 p3 p4
        have hrun : pm_run true lim (f + 1) (T, C, M, S, d, c, o, x) = pm_run true lim f (pm_step true lim t (T1, C, M, S, d, c, o, x)) := by
          conv => lhs; unfold pm_run
          rw [if_neg (fun z => z h0)]
          show (match pm_take 1 C T with | (none, T1) => (T1, C, M, S, d, c, o, x) | (some t, T1) => pm_run true lim f (pm_step true lim t (T1, C, M, S, d, c, o, x))) = _
          rw [e1']
        -- the next turn
        have go : ∀ mm' ar' ast' ae' au' al' u', xr_R L lim (pm_step true lim t (T1, C, M, S, d, c, o, x)) mm' ar' ast' ae' au' al' 0 u' → (match u' with | (f_expansionLimit, f_expansionCount, f_state, f_inputLength, f_inputPosition, f_outputCount, f_pendingCount, f_namesUsed, f_saveCount, f_depth, f_conditionalCount, f_argumentsUsed, f_argumentsLimit, f_heldCount, a_input, a_output, a_pending, a_catcodes, a_nameChars, a_nameLengths, a_meanings, a_savedItems, a_savedLevels, a_savedCatcodes, a_conditionals, a_arguments, a_argumentStarts, a_argumentEnds, a_held) => wX_run_134 post (wX_run_2 post N) (nI step) f_expansionLimit f_expansionCount f_state f_inputLength f_inputPosition f_outputCount f_pendingCount f_namesUsed f_saveCount f_depth f_conditionalCount f_argumentsUsed f_argumentsLimit f_heldCount a_input a_output a_pending a_catcodes a_nameChars a_nameLengths a_meanings a_savedItems a_savedLevels a_savedCatcodes a_conditionals a_arguments a_argumentStarts a_argumentEnds a_held) := fun mm' ar' ast' ae' au' al' u' hu => by
          obtain ⟨f1, f2, f3, f4, f5, f6, f7, f8, f9, f10, f11, f12, f13, f14, a1, a2, a3, a4, a5, a6, a7, a8, a9, a10, a11, a12, a13, a14, a15⟩ := u'
          refine xz_134 hu (ih _ mm' ar' ast' ae' au' al' 0 N (step + 1) _ _ _ _ _ _ _ _ _ _ _ _ _ _ _ _ _ _ _ _ _ _ _ _ _ _ _ _ _ (fun z => ?_) (by omega) (by omega) hu s1 (fun mm2 ar2 ast2 ae2 au2 al2 hc2 u2 h2 => ?_))
          · have k1 := s3 z
            have k2 : pi_mu lim (T1, C, M, S, d, c, o, x) + 1 ≤ pi_mu lim (T, C, M, S, d, c, o, x) := by
              have p5' : pm_len T1 + 1 ≤ pm_len T := p5
              show pm_len T1 + 600 * (lim - x) + 1 ≤ pm_len T + 600 * (lim - x)
              omega
            omega
          · have k := K mm2 ar2 ast2 ae2 au2 al2 hc2 u2
            rw [hrun] at k
            exact k h2
        obtain ⟨f1, f2, f3, f4, f5, f6, f7, f8, f9, f10, f11, f12, f13, f14, a1, a2, a3, a4, a5, a6, a7, a8, a9, a10, a11, a12, a13, a14, a15⟩ := u1
        obtain ⟨y1, y2, y3, y4, y5, y6⟩ := xh_st hR1
        subst y2
        have hMM := xh_MM hR1
        have hsm := (xs_small hk (Or.inl (pi_mng hMi hk p4))).1
        have hs0 : (pm_mng M t).1 < 4096 := hsm 0
        have hs1 : (pm_mng M t).2.1 < 4096 := hsm 1
        have h40 : wX_run_40 post (wX_run_2 post N) (nI step) (nI t) f1 f2 f3 f4 f5 f6 f7 f8 f9 f10 f11 f12 f13 f14 a1 a2 a3 a4 a5 a6 a7 a8 a9 a10 a11 a12 a13 a14 a15 := by
          refine br_f (xh_n1 (by omega)) (xh_kind hk p4 hMM (xh_val hk p4 hMM (br_t (by rw [y5]; decide) ?_)))
          by_cases k3 : (pm_mng M t).1 = 3
          · have hst3 : pm_step true lim t (T1, C, M, S, d, c, o, x) = pm_char (pm_mng M t).2.1 (T1, C, M, S, d, c, o, x) ∧ (pm_mng M t).2.1 < 1024 := by
              unfold pm_step
              by_cases hlt2 : t < 1024
              · rw [if_pos hlt2]
                have em : (pm_mng M t).2.1 = t := by unfold pm_mng; rw [if_pos hlt2]
                rw [em]
                exact ⟨rfl, hlt2⟩
              · have em : pm_mng M t = M (t - 1024) := by unfold pm_mng; rw [if_neg hlt2]
                rw [em] at k3 ⊢
                rw [if_neg hlt2]
                refine ⟨?_, ?_⟩
                · show (if (M (t - 1024)).1 = 0 then _ else if (M (t - 1024)).1 = 2 then _ else if (M (t - 1024)).1 = 1 then _ else _) = _
                  rw [if_neg (by omega), if_neg (by omega), if_neg (by omega)]
                · rcases hMi.2.1 (t - 1024) (pi_id p4 hk hlt2).2.2 with z | z | z | z
                  · rw [z] at k3; cases k3
                  · omega
                  · omega
                  · omega
            refine br_t (by rw [k3]; rfl) (xk_char hst3.2 hR1 hI1 (fun mm' u' hu => go mm' ar ast ae au al u' ?_))
            rw [hst3.1]
            exact hu
          · have hlt2 : ¬ t < 1024 := fun z => k3 (by unfold pm_mng; rw [if_pos z])
            have em : pm_mng M t = M (t - 1024) := by unfold pm_mng; rw [if_neg hlt2]
            rw [em] at k3 hs0 hs1 ⊢
            have hid := pi_id p4 hk hlt2
            refine br_f (fun z => k3 ((nI_eq (b := 3) (by omega) (by decide)).mp z)) ?_
            by_cases k2 : (M (t - 1024)).1 = 2
            · have hst2 : pm_step true lim t (T1, C, M, S, d, c, o, x) = pm_exp true lim (t - 1024) (T1, C, M, S, d, c, o, x) := by
                unfold pm_step
                rw [if_neg hlt2]
                show (if (M (t - 1024)).1 = 0 then _ else if (M (t - 1024)).1 = 2 then _ else if (M (t - 1024)).1 = 1 then _ else _) = _
                rw [if_neg (by omega), if_pos k2]
              have e : nI t - 1024 = nI (t - 1024) := pk_sub (b := 1024) (by omega)
              refine br_t (by rw [k2]; rfl) ?_
              rw [e]
              refine xw_exp hL hR1 hI1 p3 hid.2.1 hid.2.2 k2 (fun mm' ar' ast' ae' au' al' u' hu => go mm' ar' ast' ae' au' al' u' ?_)
              rw [hst2]
              exact hu
            · refine br_f (fun z => k2 ((nI_eq (b := 2) (by omega) (by decide)).mp z)) ?_
              by_cases k1 : (M (t - 1024)).1 = 1
              · have hst1 : pm_step true lim t (T1, C, M, S, d, c, o, x) = pm_act (M (t - 1024)).2.1 (T1, C, M, S, d, c, o, x) := by
                  unfold pm_step
                  rw [if_neg hlt2]
                  show (if (M (t - 1024)).1 = 0 then _ else if (M (t - 1024)).1 = 2 then _ else if (M (t - 1024)).1 = 1 then _ else _) = _
                  rw [if_neg (by omega), if_neg k2, if_pos k1]
                have hp : (M (t - 1024)).2.1 < 14 ∧ (M (t - 1024)).2.1 ≠ 4 := by
                  rcases hMi.2.1 (t - 1024) hid.2.2 with z | z | z | z
                  · rw [z] at k1; cases k1
                  · exact ⟨z.2.1, z.2.2.1⟩
                  · omega
                  · omega
                refine br_t (by rw [k1]; rfl) (xl_act hp.1 hp.2 hL hR1 hI1 p3 (fun mm' u' hu => go mm' ar ast ae au al u' ?_))
                rw [hst1]
                exact hu
              · have hk0 : (M (t - 1024)).1 = 0 := by
                  rcases hMi.2.1 (t - 1024) hid.2.2 with z | z | z | z
                  · rw [z]; rfl
                  · omega
                  · omega
                  · omega
                have hst0 : pm_step true lim t (T1, C, M, S, d, c, o, x) = (pm_err 2 T1, C, M, S, d, c, o, x) := by
                  unfold pm_step
                  rw [if_neg hlt2]
                  show (if (M (t - 1024)).1 = 0 then _ else _) = _
                  rw [if_pos hk0]
                refine br_f (fun z => k1 ((nI_eq (b := 1) (by omega) (by decide)).mp z)) ?_
                exact go a7 ar ast ae au al (f1, f2, 2, f4, f5, f6, f7, f8, f9, f10, f11, f12, f13, f14, a1, a2, a3, a4, a5, a6, a7, a8, a9, a10, a11, a12, a13, a14, a15) (by rw [hst0]; exact xh_err (k := 2) (by decide) hR1)
        refine xc_prim hk p4 hMi hMM (fun _ => br_f (by decide) h40) (fun hp hp4 => br_f (fun z => hp4 ((nI_eq (b := 4) (by omega) (by decide)).mp z)) h40)
      · have e1' : pm_take 1 C T = (none, T1) := e1
        have hrun : pm_run true lim (f + 1) (T, C, M, S, d, c, o, x) = (T1, C, M, S, d, c, o, x) := by
          unfold pm_run
          rw [if_neg (fun z => z h0)]
          show (match pm_take 1 C T with | (none, T1) => (T1, C, M, S, d, c, o, x) | (some t, T1) => pm_run true lim f (pm_step true lim t (T1, C, M, S, d, c, o, x))) = _
          rw [e1']
        have k := K mm ar ast ae au al 0 u1
        rw [hrun] at k
        have k' := k hR1
        obtain ⟨f1, f2, f3, f4, f5, f6, f7, f8, f9, f10, f11, f12, f13, f14, a1, a2, a3, a4, a5, a6, a7, a8, a9, a10, a11, a12, a13, a14, a15⟩ := u1
        obtain ⟨y1, y2⟩ := xh_st hR1
        refine br_f (c := (1024 : Int32) ≤ -1) (by decide) ?_
        refine br_f (c := (3 : Int32) = 1) (by decide) ?_
        refine br_f (c := (-1 : Int32) = 4) (by decide) ?_
        refine br_t rfl ?_
        rw [y1]
        rw [y1] at k'
        exact k'
    · obtain ⟨z1, z2⟩ := xh_st hR
      have hst' : ¬ f3 = 0 := fun z => h0 ((nI_eq (b := 0) (Nat.lt_trans hlt (by decide)) (by decide)).mp (z1.symm.trans z))
      have k := K mm ar ast ae au al hc
      rw [pe_stop h0] at k
      have k' := k _ hR
      rw [← z1] at k'
      exact br_f hst' k'
theorem xz_run {post : Int32 → SX → Prop} {P : pm_P} {hc : Int32} (hL : xr_I L) (hR : xr_R L lim P mm ar ast ae au al hc u) (hI : pi_I lim P) (K : ∀ mm' ar' ast' ae' au' al' hc' u', xr_R L lim (pm_run true lim 70000 P) mm' ar' ast' ae' au' al' hc' u' → post (nI (pm_run true lim 70000 P).1.1) u') : wpX_run post u := by
  have hmu : pi_mu lim P < 70000 := by
    obtain ⟨T, C, M, S, d, c, o, x⟩ := P
    have h1 : pm_len T ≤ 512 := xe_len hI.1
    have h2 : x ≤ lim ∧ lim ≤ 100 := hI.2.2.2.2.2.2.2.2.2.2
    show pm_len T + 600 * (lim - x) < 70000
    omega
  obtain ⟨N, hN⟩ : ∃ N : Nat, 70000 < N := ⟨70001, by decide⟩
  obtain ⟨f1, f2, f3, f4, f5, f6, f7, f8, f9, f10, f11, f12, f13, f14, a1, a2, a3, a4, a5, a6, a7, a8, a9, a10, a11, a12, a13, a14, a15⟩ := u
  have h := xz_runL hL 70000 P mm ar ast ae au al hc N 0 _ _ _ _ _ _ _ _ _ _ _ _ _ _ _ _ _ _ _ _ _ _ _ _ _ _ _ _ _ (fun _ => hmu) hN (by decide) hR hI K
  rw [show nI 0 = (0 : Int32) from rfl] at h
  exact ⟨N, h⟩
end XZ
