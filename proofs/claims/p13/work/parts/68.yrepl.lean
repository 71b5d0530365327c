section YQ
variable {L : List Nat} {lim : Nat} {w : yr_W} {ar ast aln : Nat → Int32} {rn : Int32} {v : SY} {post : SY → Prop} {F1 F2 F3 F4 F5 F6 F7 F8 F9 F10 F11 F12 : Int32} {A1 A2 A3 A4 A5 A6 A7 A8 A9 A10 A11 A12 A13 A14 A15 A16 A17 A18 A19 : Nat → Int32}
def yp_Q (w : yr_W) (pt acc : List Nat) : Prop := yp_P w pt ∧ w.2.2.2.1 64 = nI acc.length ∧ ∀ j, j < acc.length → w.2.2.2.2.2 (1536 + j) = nI (acc.getD j 0)
theorem yq_353 {J215 : Int32 → Int32 → Int32 → Int32 → Int32 → Int32 → Int32 → Int32 → Int32 → Int32 → Int32 → Int32 → Int32 → Int32 → (Nat → Int32) → (Nat → Int32) → (Nat → Int32) → (Nat → Int32) → (Nat → Int32) → (Nat → Int32) → (Nat → Int32) → (Nat → Int32) → (Nat → Int32) → (Nat → Int32) → (Nat → Int32) → (Nat → Int32) → (Nat → Int32) → (Nat → Int32) → (Nat → Int32) → (Nat → Int32) → (Nat → Int32) → (Nat → Int32) → (Nat → Int32) → Prop} {P : pm_P} {x1 x2 x3 x4 : Int32} {t : Nat} {pt acc : List Nat} (hl : acc.length ≤ 24) (hQ : yp_Q w pt acc) (hR : yr_R L lim P w ar ast aln rn (F1, F2, F3, F4, F5, F6, F7, F8, F9, F10, F11, F12, A1, A2, A3, A4, A5, A6, A7, A8, A9, A10, A11, A12, A13, A14, A15, A16, A17, A18, A19)) (hI : pi_I lim P) (K7 : acc.length = 24 → post (F1, F2, 7, F4, F5, F6, F7, F8, F9, F10, F11, F12, A1, A2, A3, A4, A5, A6, A7, A8, A9, A10, A11, A12, A13, A14, A15, A16, A17, A18, A19))
    (Kn : acc.length ≠ 24 → ∀ w' : yr_W, yp_Q w' pt (acc ++ [t]) → yr_R L lim P w' ar ast aln rn (F1, F2, F3, F4, F5, F6, F7, F8, F9, F10, F11, F12, A1, A2, A3, A4, A5, A6, w'.1, w'.2.1, w'.2.2.1, w'.2.2.2.1, w'.2.2.2.2.1, w'.2.2.2.2.2, A13, A14, A15, A16, A17, A18, A19) → J215 x4 (nI (acc.length + 1)) F1 F2 F3 F4 F5 F6 F7 F8 F9 F10 F11 F12 A1 A2 A3 A4 A5 A6 (w'.1) (w'.2.1) (w'.2.2.1) (w'.2.2.2.1) (w'.2.2.2.2.1) (w'.2.2.2.2.2) A13 A14 A15 A16 A17 A18 A19) : wY_def_353 post J215 x1 x2 x3 x4 (nI acc.length) (nI t) F1 F2 F3 F4 F5 F6 F7 F8 F9 F10 F11 F12 A1 A2 A3 A4 A5 A6 A7 A8 A9 A10 A11 A12 A13 A14 A15 A16 A17 A18 A19 := by
  obtain ⟨z1, z2, z3, z4, z5, z6, z7⟩ := yl_tab hR
  obtain ⟨hP, hq1, hq2⟩ := hQ
  have hp64 : A10 64 = nI acc.length := by rw [z4]; exact hq1
  unfold wY_def_353
  rw [hp64]
  by_cases h8 : acc.length = 24
  · exact br_t (by rw [h8]; rfl) (K7 h8)
  · have e : (1536 : Int32) + nI acc.length = nI (1536 + acc.length) := nI_add 1536 _
    refine br_f (fun z => h8 ((nI_eq (b := 24) (by omega) (by decide)).mp z)) ⟨by rw [e]; exact vp_in_nI (by omega) (by decide), fun rx y1 rl y2 => nm_r (nI_1 _) ?_⟩
    rw [e, nI_clamp (by omega)] at y1
    rw [nI_1] at y2
    have k4 : ∀ s, s < 64 → rl s = w.2.2.2.1 s := fun s hs => by rw [y2, pk_un (by omega), z4]
    have k6 : ∀ j, j < 1536 → rx j = w.2.2.2.2.2 j := fun j hj => by rw [y1, pk_un (by omega), z6]
    have hw := yl_w (w' := (A7, A8, A9, rl, A11, rx)) hR hI (fun s m hs _ h24 gg => ⟨(congrFun z1 s).trans gg.1, (congrFun z2 s).trans gg.2.1, fun zz => ⟨(congrFun z3 s).trans (gg.2.2 zz).1, (k4 s hs).trans (gg.2.2 zz).2.1, fun j hj => (congrFun z5 _).trans ((gg.2.2 zz).2.2.1 j hj), fun j hj => (k6 _ (by omega)).trans ((gg.2.2 zz).2.2.2 j hj)⟩⟩) (fun s hs => congrFun z2 s)
    refine Kn h8 (A7, A8, A9, rl, A11, rx) ⟨⟨(congrFun z3 64).trans hP.1, fun j hj => (congrFun z5 _).trans (hP.2 j hj)⟩, ?_, fun j hj => ?_⟩ hw
    · show rl 64 = _
      rw [y2, pk_us, List.length_append]
      rfl
    · show rx (1536 + j) = _
      rw [List.length_append] at hj
      simp only [List.length_cons, List.length_nil] at hj
      rw [y1]
      by_cases ej : j = acc.length
      · subst ej
        rw [pk_us, xr_getD_append_here]
      · rw [pk_un (by omega), xr_getD_append_left (by omega), z6]
        exact hq2 j (by omega)
theorem yq_rtL {C : Nat → Nat} {n : Nat} {pt : List Nat} {x1 x2 : Int32} {q : (Nat → pm_Mn) × List pm_Sv × Nat × List Nat × List Nat × Nat} (hL : xr_I L) (hC : ∀ a, a < 128 → C a < 8) (hn8 : n ≤ 8) : ∀ (f d : Nat) (acc : List Nat) (T : pm_T) (w : yr_W) (N : Nat) (F1 F2 F3 F4 F5 F6 F7 F8 F9 F10 F11 F12 : Int32) (A1 A2 A3 A4 A5 A6 A7 A8 A9 A10 A11 A12 A13 A14 A15 A16 A17 A18 A19 : Nat → Int32), f + acc.length = 25 → f < N → yr_R L lim (T, C, q) w ar ast aln rn (F1, F2, F3, F4, F5, F6, F7, F8, F9, F10, F11, F12, A1, A2, A3, A4, A5, A6, A7, A8, A9, A10, A11, A12, A13, A14, A15, A16, A17, A18, A19) → pi_I lim (T, C, q) → T.1 = 0 → yp_Q w pt acc → 0 < f → d ≤ acc.length →
    (∀ T' w' v', pm_rt C n f d acc T = (none, T') → yr_R L lim (T', C, q) w' ar ast aln rn v' → post v') → (∀ rt T' w' v', pm_rt C n f d acc T = (some rt, T') → yr_R L lim (T', C, q) w' ar ast aln rn v' → yp_Q w' pt rt → (match v' with | (F1, F2, F3, F4, F5, F6, F7, F8, F9, F10, F11, F12, A1, A2, A3, A4, A5, A6, A7, A8, A9, A10, A11, A12, A13, A14, A15, A16, A17, A18, A19) => wY_def_407 post x1 x2 (nI n) F1 F2 F3 F4 F5 F6 F7 F8 F9 F10 F11 F12 A1 A2 A3 A4 A5 A6 A7 A8 A9 A10 A11 A12 A13 A14 A15 A16 A17 A18 A19)) →
    wY_def_215 post x1 x2 (nI n) N (nI d) (nI acc.length) F1 F2 F3 F4 F5 F6 F7 F8 F9 F10 F11 F12 A1 A2 A3 A4 A5 A6 A7 A8 A9 A10 A11 A12 A13 A14 A15 A16 A17 A18 A19 := by
  intro f
  induction f with
  | zero => intro d acc T w N F1 F2 F3 F4 F5 F6 F7 F8 F9 F10 F11 F12 A1 A2 A3 A4 A5 A6 A7 A8 A9 A10 A11 A12 A13 A14 A15 A16 A17 A18 A19 _ _ _ _ _ _ h; omega
  | succ f ih =>
    intro d acc T w N F1 F2 F3 F4 F5 F6 F7 F8 F9 F10 F11 F12 A1 A2 A3 A4 A5 A6 A7 A8 A9 A10 A11 A12 A13 A14 A15 A16 A17 A18 A19 hf hN hR hI h0 hQ _ hda K0 K1
    obtain ⟨N, rfl⟩ : ∃ m, N = m + 1 := ⟨N - 1, by omega⟩
    refine br_f (nI_ge (b := 30) (by omega) (by decide)) ?_
    refine yk_need hL hR hI h0 (fun t T1 v1 e1 hR1 => ?_) (fun T1 v1 e1 hne hR1 => ?_)
    · have e1' : pm_take 3 C T = (some t, T1) := e1
      obtain ⟨p1, p2, p3, p4⟩ := pi_tk hI.1 hC h0 e1'
      have hb := xs_tok p1.1.1.2.1 p3
      have hI1 := pi_toI hI p1
      have hc1 := yp_c (k := 1) hb (by decide) (by decide)
      have hc2 := yp_c (k := 2) hb (by decide) (by decide)
      have hc3 := yp_c (k := 3) hb (by decide) (by decide)
      have kx : pm_cat t = 2 ∧ d = 0 → (match v1 with | (F1, F2, F3, F4, F5, F6, F7, F8, F9, F10, F11, F12, A1, A2, A3, A4, A5, A6, A7, A8, A9, A10, A11, A12, A13, A14, A15, A16, A17, A18, A19) => wY_def_407 post x1 x2 (nI n) F1 F2 F3 F4 F5 F6 F7 F8 F9 F10 F11 F12 A1 A2 A3 A4 A5 A6 A7 A8 A9 A10 A11 A12 A13 A14 A15 A16 A17 A18 A19) := fun hx => K1 acc T1 w v1 (by simp only [pm_rt, e1', if_pos hx]) hR1 hQ
      obtain ⟨F1, F2, F3, F4, F5, F6, F7, F8, F9, F10, F11, F12, A1, A2, A3, A4, A5, A6, A7, A8, A9, A10, A11, A12, A13, A14, A15, A16, A17, A18, A19⟩ := v1
      refine br_t (yk_f0 hR1 p2) (nm_r (yp_shr (by omega)) ?_)
      -- a token that isn't of category 3
      have h353 : ¬ (pm_cat t = 2 ∧ d = 0) → ¬ pm_cat t = 3 → wY_def_353 post (wY_def_215 post x1 x2 (nI n) N) x1 x2 (nI n) (nI (pm_nest t d)) (nI acc.length) (nI t) F1 F2 F3 F4 F5 F6 F7 F8 F9 F10 F11 F12 A1 A2 A3 A4 A5 A6 A7 A8 A9 A10 A11 A12 A13 A14 A15 A16 A17 A18 A19 := fun hx c3 => by
        refine yq_353 (by omega) hQ hR1 hI1 (fun h8 => ?_) (fun h8 w' y1 y2 => ?_)
        · refine K0 (pm_err 7 T1) w _ ?_ (yk_err (k := 7) (by decide) hR1)
          simp only [pm_rt, e1', if_neg hx, if_neg c3, if_pos h8]
        · have hrec : pm_rt C n (f + 1) d acc T = pm_rt C n f (pm_nest t d) (acc ++ [t]) T1 := by simp only [pm_rt, e1', if_neg hx, if_neg c3, if_neg h8]
          have hnl : pm_nest t d ≤ acc.length + 1 := by unfold pm_nest; split <;> (try split) <;> omega
          have := ih (pm_nest t d) (acc ++ [t]) T1 w' N _ _ _ _ _ _ _ _ _ _ _ _ _ _ _ _ _ _ _ _ _ _ _ _ _ _ _ _ _ _ _ (by rw [List.length_append]; simp only [List.length_cons, List.length_nil]; omega) (by omega) y2 hI1 p2 y1 (by omega) (by rw [List.length_append]; exact hnl) (fun T' w2 v' q1 => K0 T' w2 v' (by rw [hrec]; exact q1)) (fun m T' w2 v' q1 => K1 m T' w2 v' (by rw [hrec]; exact q1))
          rw [List.length_append] at this
          exact this
      by_cases c1 : pm_cat t = 1
      · have hn : pm_nest t d = d + 1 := by unfold pm_nest; rw [if_pos c1]
        have k := h353 (fun z => by omega) (by omega)
        rw [hn] at k
        exact br_t (hc1.mpr c1) (nm_r (nI_1 _) (br_f (fun z => by have := hc2.mp z; omega) (br_f (fun z => by have := hc3.mp z; omega) k)))
      · refine br_f (fun z => c1 (hc1.mp z)) ?_
        by_cases c2 : pm_cat t = 2
        · refine br_t (hc2.mpr c2) ?_
          by_cases hd : d = 0
          · exact br_t (by rw [hd]; rfl) (kx ⟨c2, hd⟩)
          · have hn : pm_nest t d = d - 1 := by unfold pm_nest; rw [if_neg c1, if_pos c2]
            have k := h353 (fun z => hd z.2) (by omega)
            rw [hn] at k
            exact br_f (nI_ne0 (by omega) (by omega)) (nm_r (show nI d + (-1) = nI (d - 1) by rw [xg_m1]; exact pk_sub (b := 1) (by omega)) (br_f (fun z => by have := hc3.mp z; omega) k))
        · have hx : ¬ (pm_cat t = 2 ∧ d = 0) := fun z => c2 z.1
          refine br_f (fun z => c2 (hc2.mp z)) ?_
          by_cases c3 : pm_cat t = 3
          · refine br_t (hc3.mpr c3) ?_
            refine yk_need hL hR1 hI1 p2 (fun u T2 v2 e2 hR2 => ?_) (fun T2 v2 e2 hne hR2 => ?_)
            · have e2' : pm_take 3 C T1 = (some u, T2) := e2
              obtain ⟨r1, r2, r3, r4⟩ := pi_tk p1.1 hC p2 e2'
              have hb2 := xs_tok r1.1.1.2.1 r3
              have hI2 := pi_toI hI1 r1
              obtain ⟨F1, F2, F3, F4, F5, F6, F7, F8, F9, F10, F11, F12, A1, A2, A3, A4, A5, A6, A7, A8, A9, A10, A11, A12, A13, A14, A15, A16, A17, A18, A19⟩ := v2
              have kerr : pm_pair n t u = none → post (F1, F2, 6, F4, F5, F6, F7, F8, F9, F10, F11, F12, A1, A2, A3, A4, A5, A6, A7, A8, A9, A10, A11, A12, A13, A14, A15, A16, A17, A18, A19) := fun hp => by
                refine K0 (pm_err 6 T2) w _ ?_ (yk_err (k := 6) (by decide) hR2)
                simp only [pm_rt, e1', if_neg hx, if_pos c3, e2', hp]
              have kok : ∀ ww, pm_pair n t u = some ww → wY_def_353 post (wY_def_215 post x1 x2 (nI n) N) x1 x2 (nI n) (nI d) (nI acc.length) (nI ww) F1 F2 F3 F4 F5 F6 F7 F8 F9 F10 F11 F12 A1 A2 A3 A4 A5 A6 A7 A8 A9 A10 A11 A12 A13 A14 A15 A16 A17 A18 A19 := fun ww hp => by
                refine yq_353 (by omega) hQ hR2 hI2 (fun h8 => ?_) (fun h8 w' y1 y2 => ?_)
                · refine K0 (pm_err 7 T2) w _ ?_ (yk_err (k := 7) (by decide) hR2)
                  simp only [pm_rt, e1', if_neg hx, if_pos c3, e2', hp, if_pos h8]
                · have hrec : pm_rt C n (f + 1) d acc T = pm_rt C n f d (acc ++ [ww]) T2 := by simp only [pm_rt, e1', if_neg hx, if_pos c3, e2', hp, if_neg h8]
                  have := ih d (acc ++ [ww]) T2 w' N _ _ _ _ _ _ _ _ _ _ _ _ _ _ _ _ _ _ _ _ _ _ _ _ _ _ _ _ _ _ _ (by rw [List.length_append]; simp only [List.length_cons, List.length_nil]; omega) (by omega) y2 hI2 r2 y1 (by omega) (by rw [List.length_append]; omega) (fun T' w2 v' q1 => K0 T' w2 v' (by rw [hrec]; exact q1)) (fun m T' w2 v' q1 => K1 m T' w2 v' (by rw [hrec]; exact q1))
                  rw [List.length_append] at this
                  exact this
              refine br_t (yk_f0 hR2 r2) (nm_r (yp_shr (by omega)) (nm_r (yl_and (by omega)) ?_))
              have hu3 := yp_c (k := 3) hb2 (by decide) (by decide)
              have hm := Nat.mod_lt u (show 0 < 128 by decide)
              unfold pm_pair at kerr kok
              by_cases u3 : pm_cat u = 3
              · rw [if_pos u3] at kok
                exact br_t (hu3.mpr u3) (kok t rfl)
              · rw [if_neg u3] at kerr kok
                refine br_f (fun z => u3 (hu3.mp z)) ?_
                by_cases hu : u < 1024
                · have ech : pm_chr u = u % 128 := by unfold pm_chr; rw [if_pos hu]
                  rw [ech] at kerr kok
                  refine br_f (nI_ge (b := 8) (by omega) (by decide)) ?_
                  by_cases h49 : 49 ≤ u % 128
                  · refine br_f (nI_nlt (b := 49) h49 (by omega)) ?_
                    have e48 : (48 : Int32) + nI n = nI (48 + n) := nI_add 48 _
                    rw [e48]
                    by_cases hq : u % 128 ≤ 48 + n
                    · rw [if_pos ⟨h49, hq⟩] at kok
                      have e20 : (2048 : Int32) + nI (u % 128) - 48 = nI (2000 + u % 128) := by
                        have : (2048 : Int32) + nI (u % 128) = nI (2048 + u % 128) := nI_add 2048 _
                        rw [this]
                        have h2 : nI (2048 + u % 128) - 48 = nI (2048 + u % 128 - 48) := pk_sub (b := 48) (by omega)
                        rw [h2, show 2048 + u % 128 - 48 = 2000 + u % 128 from by omega]
                      exact br_f (nI_nlt (by omega) (by omega)) (nm_r e20 (kok _ rfl))
                    · rw [if_neg (fun z => hq z.2)] at kerr
                      exact br_t (nI_lt (by omega) (by omega)) (kerr rfl)
                  · rw [if_neg (fun z => h49 z.1)] at kerr
                    exact br_t (nI_lt (b := 49) (by omega) (by decide)) (kerr rfl)
                · have ech : pm_chr u = 1000 := by unfold pm_chr; rw [if_neg hu]
                  rw [if_neg (fun z => by omega)] at kerr
                  exact br_t (nI_le (a := 8) (by omega) (by omega)) (kerr rfl)
            · have e2' : pm_take 3 C T1 = (none, T2) := e2
              have k := K0 T2 w v2 (by simp only [pm_rt, e1', if_neg hx, if_pos c3, e2']) hR2
              obtain ⟨F1, F2, F3, F4, F5, F6, F7, F8, F9, F10, F11, F12, A1, A2, A3, A4, A5, A6, A7, A8, A9, A10, A11, A12, A13, A14, A15, A16, A17, A18, A19⟩ := v2
              exact br_f (yk_f1 hR2 hne) k
          · have hn : pm_nest t d = d := by unfold pm_nest; rw [if_neg c1, if_neg c2]
            have k := h353 hx c3
            rw [hn] at k
            exact br_f (fun z => c3 (hc3.mp z)) k
    · have e1' : pm_take 3 C T = (none, T1) := e1
      have k := K0 T1 w v1 (by simp only [pm_rt, e1']) hR1
      obtain ⟨F1, F2, F3, F4, F5, F6, F7, F8, F9, F10, F11, F12, A1, A2, A3, A4, A5, A6, A7, A8, A9, A10, A11, A12, A13, A14, A15, A16, A17, A18, A19⟩ := v1
      exact br_f (yk_f1 hR1 hne) k
theorem yq_407 {g : Bool} {T : pm_T} {C : Nat → Nat} {q : (Nat → pm_Mn) × List pm_Sv × Nat × List Nat × List Nat × Nat} {t n : Nat} {pt rt : List Nat} (ht : ¬ t < 1024) (hid : t - 1024 < 32) (hb : t < 2048) (h8 : pt.length ≤ 8) (h24 : rt.length ≤ 24) (hQ : yp_Q w pt rt) (hR : yr_R L lim (T, C, q) w ar ast aln rn (F1, F2, F3, F4, F5, F6, F7, F8, F9, F10, F11, F12, A1, A2, A3, A4, A5, A6, A7, A8, A9, A10, A11, A12, A13, A14, A15, A16, A17, A18, A19)) (hI : pi_I lim (T, C, q)) (K : ∀ w' v', yr_R L lim (pm_assign g (t - 1024) (2, n, pt, rt) 0 (T, C, q)) w' ar ast aln rn v' → post v') : wY_def_407 post (xa_b g) (nI t) (nI n) F1 F2 F3 F4 F5 F6 F7 F8 F9 F10 F11 F12 A1 A2 A3 A4 A5 A6 A7 A8 A9 A10 A11 A12 A13 A14 A15 A16 A17 A18 A19 := by
  obtain ⟨z1, z2, z3, z4, z5, z6, z7⟩ := yl_tab hR
  obtain ⟨hP, hq1, hq2⟩ := hQ
  unfold wY_def_407
  intro kd y1 vl y2
  have e : nI t - 1024 = nI (t - 1024) := pk_sub (b := 1024) (by omega)
  rw [e]
  have k1 : ∀ s, s < 64 → kd s = w.1 s := fun s hs => by rw [y1, pk_un (by omega), z1]
  have k2 : ∀ s, s < 64 → vl s = w.2.1 s := fun s hs => by rw [y2, pk_un (by omega), z2]
  have k5 : kd 64 = 2 := by rw [y1, pk_us]
  have k6 : vl 64 = nI n := by rw [y2, pk_us]
  have hw := yl_w (w' := (kd, vl, A9, A10, A11, A12)) hR hI (fun s m hs _ _ gg => ⟨(k1 s hs).trans gg.1, (k2 s hs).trans gg.2.1, fun zz => ⟨(congrFun z3 s).trans (gg.2.2 zz).1, (congrFun z4 s).trans (gg.2.2 zz).2.1, fun j hj => (congrFun z5 _).trans ((gg.2.2 zz).2.2.1 j hj), fun j hj => (congrFun z6 _).trans ((gg.2.2 zz).2.2.2 j hj)⟩⟩) (fun s hs => k2 s hs)
  refine yi_assign (g := g) (m := (2, n, pt, rt)) (k := 0) hw hI (by omega) ⟨fun _ => ⟨⟨k5, k6, fun _ => ⟨(congrFun z3 64).trans hP.1, (congrFun z4 64).trans hq1, fun j hj => (congrFun z5 _).trans (hP.2 j hj), fun j hj => (congrFun z6 _).trans (hq2 j hj)⟩⟩, h8, h24⟩, fun z => absurd z (by omega)⟩ (fun w2 v3 hR3 => ?_)
  have k := K w2 v3 hR3
  obtain ⟨F1, F2, F3, F4, F5, F6, F7, F8, F9, F10, F11, F12, A1, A2, A3, A4, A5, A6, A7, A8, A9, A10, A11, A12, A13, A14, A15, A16, A17, A18, A19⟩ := v3
  exact k
theorem yq_def {g : Bool} {P : pm_P} (hL : xr_I L) (hR : yr_R L lim P w ar ast aln rn v) (hI : pi_I lim P) (h0 : P.1.1 = 0) (K : ∀ w' v', yr_R L lim (pm_def g P) w' ar ast aln rn v' → post v') : wpY_def post v (xa_b g) := by
  obtain ⟨T, C, q⟩ := P
  have hC : ∀ a, a < 128 → C a < 8 := by obtain ⟨M, S, d, c, o, x⟩ := q; exact hI.2.1
  obtain ⟨F1, F2, F3, F4, F5, F6, F7, F8, F9, F10, F11, F12, A1, A2, A3, A4, A5, A6, A7, A8, A9, A10, A11, A12, A13, A14, A15, A16, A17, A18, A19⟩ := v
  unfold wpY_def
  refine yk_need hL hR hI h0 (fun t T1 v1 e1 hR1 => ?_) (fun T1 v1 e1 hne hR1 => ?_)
  · have e1' : pm_take 3 C T = (some t, T1) := e1
    obtain ⟨p1, p2, p3, p4⟩ := pi_tk hI.1 hC h0 e1'
    have hb := xs_tok p1.1.1.2.1 p3
    have hI1 := pi_toI hI p1
    obtain ⟨F1, F2, F3, F4, F5, F6, F7, F8, F9, F10, F11, F12, A1, A2, A3, A4, A5, A6, A7, A8, A9, A10, A11, A12, A13, A14, A15, A16, A17, A18, A19⟩ := v1
    refine br_t (yk_f0 hR1 p2) ?_
    by_cases ht : t < 1024
    · refine br_f (nI_ge (b := 1024) ht (by decide)) (K w _ ?_)
      simp only [pm_def, e1', if_pos ht]
      exact yk_err (k := 6) (by decide) hR1
    · have hid := pi_id p3 p1.1.1.2.1 ht
      have hdef : pm_def g (T, C, q) = match pm_pt C 9 0 [] T1 with | (none, T2) => (T2, C, q) | (some (n, pt), T2) => (match pm_rt C n 25 0 [] T2 with | (none, T3) => (T3, C, q) | (some rt, T3) => pm_assign g (t - 1024) (2, n, pt, rt) 0 (T3, C, q)) := by
        simp only [pm_def, e1', if_neg ht]
        rfl
      obtain ⟨z1, z2, z3, z4, z5, z6, z7⟩ := yl_tab hR1
      refine br_t (nI_le (a := 1024) (by omega) (by omega)) (fun pl y1 rl y2 => ?_)
      have k3 : ∀ s, s < 64 → pl s = w.2.2.1 s := fun s hs => by rw [y1, pk_un (by omega), z3]
      have k4 : ∀ s, s < 64 → rl s = w.2.2.2.1 s := fun s hs => by rw [y2, pk_un (by omega), z4]
      have k7 : pl 64 = 0 := by rw [y1, pk_us]
      have k8 : rl 64 = 0 := by rw [y2, pk_us]
      have hw := yl_w (w' := (A7, A8, pl, rl, A11, A12)) hR1 hI1 (fun s m hs _ _ gg => ⟨(congrFun z1 s).trans gg.1, (congrFun z2 s).trans gg.2.1, fun zz => ⟨(k3 s hs).trans (gg.2.2 zz).1, (k4 s hs).trans (gg.2.2 zz).2.1, fun j hj => (congrFun z5 _).trans ((gg.2.2 zz).2.2.1 j hj), fun j hj => (congrFun z6 _).trans ((gg.2.2 zz).2.2.2 j hj)⟩⟩) (fun s hs => congrFun z2 s)
      obtain ⟨N, hN⟩ : ∃ N : Nat, 9 < N := ⟨10, by decide⟩
      have h := yp_ptL (post := post) (x1 := xa_b g) (x2 := nI t) hL hC 9 0 [] T1 (A7, A8, pl, rl, A11, A12) N _ _ _ _ _ _ _ _ _ _ _ _ _ _ _ _ _ _ _ _ _ _ _ _ _ _ _ _ _ _ _ rfl hN (by decide) hw hI1 p2 ⟨k7, fun j hj => absurd hj (Nat.not_lt_zero _)⟩ k8 (by decide) (fun T2 w' v' q1 q2 => ?_) (fun n pt T2 w' v' q1 q2 q3 q4 => ?_)
      · rw [show nI ([] : List Nat).length = 0 from rfl, show nI 0 = 0 from rfl] at h
        exact ⟨N, h⟩
      · rw [q1] at hdef
        refine K w' v' ?_
        rw [hdef]
        exact q2
      · obtain ⟨s1, s2, s3⟩ := pi_pt hC _ _ [] _ _ _ p1.1 p2 rfl rfl (fun y hy => (nomatch hy)) q1
        obtain ⟨s4, s5, s6, s7⟩ := s2 _ rfl
        have hI2 := pi_toI hI1 s1
        rw [q1] at hdef
        have hn8 : n ≤ 8 := by
          have : pt.countP (fun r => decide (2048 ≤ r)) = n := s6
          rw [← this]; exact Nat.le_trans List.countP_le_length s5
        obtain ⟨F1, F2, F3, F4, F5, F6, F7, F8, F9, F10, F11, F12, A1, A2, A3, A4, A5, A6, A7, A8, A9, A10, A11, A12, A13, A14, A15, A16, A17, A18, A19⟩ := v'
        obtain ⟨N2, hN2⟩ : ∃ N : Nat, 25 < N := ⟨26, by decide⟩
        have h2 := yq_rtL (post := post) (x1 := xa_b g) (x2 := nI t) (pt := pt) hL hC hn8 25 0 [] T2 w' N2 _ _ _ _ _ _ _ _ _ _ _ _ _ _ _ _ _ _ _ _ _ _ _ _ _ _ _ _ _ _ _ rfl hN2 q2 hI2 s4 ⟨q3, q4, fun j hj => absurd hj (Nat.not_lt_zero _)⟩ (by decide) (by decide) (fun T3 w2 v2 y1 y2 => ?_) (fun rt T3 w2 v2 y1 y2 y3 => ?_)
        · rw [show nI ([] : List Nat).length = 0 from rfl, show nI 0 = 0 from rfl] at h2
          exact ⟨N2, h2⟩
        · have hd2 : pm_def g (T, C, q) = (T3, C, q) := by
            rw [hdef]
            show (match pm_rt C n 25 0 [] T2 with | (none, T3) => (T3, C, q) | (some rt, T3) => pm_assign g (t - 1024) (2, n, pt, rt) 0 (T3, C, q)) = _
            rw [y1]
          refine K w2 v2 ?_
          rw [hd2]
          exact y2
        · obtain ⟨l1, l2, l3⟩ := pi_rt hC _ _ [] _ _ _ s1.1 s4 rfl (fun y hy => (nomatch hy)) y1
          obtain ⟨l4, l5, l6⟩ := l2 _ rfl
          have hd2 : pm_def g (T, C, q) = pm_assign g (t - 1024) (2, n, pt, rt) 0 (T3, C, q) := by
            rw [hdef]
            show (match pm_rt C n 25 0 [] T2 with | (none, T3) => (T3, C, q) | (some rt, T3) => pm_assign g (t - 1024) (2, n, pt, rt) 0 (T3, C, q)) = _
            rw [y1]
          rw [hd2] at K
          obtain ⟨F1, F2, F3, F4, F5, F6, F7, F8, F9, F10, F11, F12, A1, A2, A3, A4, A5, A6, A7, A8, A9, A10, A11, A12, A13, A14, A15, A16, A17, A18, A19⟩ := v2
          exact yq_407 ht hid.2.1 hb s5 l5 y3 y2 (pi_toI hI2 l1) K
  · have e1' : pm_take 3 C T = (none, T1) := e1
    have k := K w v1 (by simp only [pm_def, e1']; exact hR1)
    obtain ⟨F1, F2, F3, F4, F5, F6, F7, F8, F9, F10, F11, F12, A1, A2, A3, A4, A5, A6, A7, A8, A9, A10, A11, A12, A13, A14, A15, A16, A17, A18, A19⟩ := v1
    exact br_f (yk_f1 hR1 hne) k
end YQ
