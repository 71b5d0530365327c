section YU
variable {L : List Nat} {lim : Nat} {w : yr_W} {ar ast aln : Nat → Int32} {rn : Int32} {v : SY} {post : SY → Prop} {F1 F2 F3 F4 F5 F6 F7 F8 F9 F10 F11 F12 : Int32} {A1 A2 A3 A4 A5 A6 A7 A8 A9 A10 A11 A12 A13 A14 A15 A16 A17 A18 A19 : Nat → Int32}
theorem yu_out {t : Nat} {P : pm_P} (hR : yr_R L lim P w ar ast aln rn (F1, F2, F3, F4, F5, F6, F7, F8, F9, F10, F11, F12, A1, A2, A3, A4, A5, A6, A7, A8, A9, A10, A11, A12, A13, A14, A15, A16, A17, A18, A19)) (hI : pi_I lim P) (K : ∀ v', yr_R L lim (pm_out t P) w ar ast aln rn v' → post v') : wY_step_87 post (nI t) F1 F2 F3 F4 F5 F6 F7 F8 F9 F10 F11 F12 A1 A2 A3 A4 A5 A6 A7 A8 A9 A10 A11 A12 A13 A14 A15 A16 A17 A18 A19 := by
  obtain ⟨⟨st, rest, ps, ns⟩, C, M, S, d, c, o, x⟩ := P
  have hR' := hR
  obtain ⟨ip, pc, inp, cat, pend, out, nl, nch, si, sl, cd, stk, e, h1, hs, h2, h3, h4, h5, h6, h7⟩ := hR
  cases e
  have ho : o.length ≤ 256 := hI.2.2.2.2.2.2.2.2.2.1
  by_cases h0 : st = 0
  · subst h0
    refine br_t rfl ?_
    by_cases h256 : 256 ≤ o.length
    · refine br_t (by rw [show o.length = 256 from by omega]; rfl) (K _ ?_)
      simp only [pm_out]
      rw [if_pos trivial, if_pos h256]
      exact yk_err (k := 15) (by decide) hR'
    · refine br_f (fun z => by have := (nI_eq (b := 256) (by omega) (by decide)).mp z; omega) ⟨vp_in_nI (by omega) (by decide), fun out' e => nm_r (nI_1 _) (K _ ?_)⟩
      rw [nI_clamp (by omega)] at e
      subst e
      simp only [pm_out]
      rw [if_pos trivial, if_neg h256]
      exact ⟨_, _, _, _, _, _, _, _, _, _, _, _, by rw [List.length_append]; rfl, h1, hs, xr_L_push h2, h3, h4, h5, h6, h7⟩
  · have hst := hs.1
    refine br_f (fun z => h0 ((nI_eq (b := 0) (by omega) (by decide)).mp z)) (K _ ?_)
    simp only [pm_out]
    rw [if_neg h0]
    exact hR'
theorem yu_char {t : Nat} {P : pm_P} (ht : t < 1024) (hR : yr_R L lim P w ar ast aln rn (F1, F2, F3, F4, F5, F6, F7, F8, F9, F10, F11, F12, A1, A2, A3, A4, A5, A6, A7, A8, A9, A10, A11, A12, A13, A14, A15, A16, A17, A18, A19)) (hI : pi_I lim P) (K : ∀ w' v', yr_R L lim (pm_char t P) w' ar ast aln rn v' → post v') : wY_step_64 post (nI t) F1 F2 F3 F4 F5 F6 F7 F8 F9 F10 F11 F12 A1 A2 A3 A4 A5 A6 A7 A8 A9 A10 A11 A12 A13 A14 A15 A16 A17 A18 A19 := by
  have hb : t < 2048 := by omega
  have hc1 := yp_c (k := 1) hb (by decide) (by decide)
  have hc2 := yp_c (k := 2) hb (by decide) (by decide)
  unfold pm_char at K
  refine nm_r (yp_shr (by omega)) ?_
  by_cases c1 : pm_cat t = 1
  · rw [if_pos c1] at K
    refine br_t (hc1.mpr c1) (yg_open hR hI fun v' h => ?_)
    obtain ⟨F1, F2, F3, F4, F5, F6, F7, F8, F9, F10, F11, F12, A1, A2, A3, A4, A5, A6, A7, A8, A9, A10, A11, A12, A13, A14, A15, A16, A17, A18, A19⟩ := v'
    exact br_f (fun z => by have := hc2.mp z; omega) (yu_out h (pi_open hI).1 (K w))
  · rw [if_neg c1] at K
    refine br_f (fun z => c1 (hc1.mp z)) ?_
    by_cases c2 : pm_cat t = 2
    · rw [if_pos c2] at K
      refine br_t (hc2.mpr c2) (yg_close hR hI fun w' v' h => ?_)
      obtain ⟨F1, F2, F3, F4, F5, F6, F7, F8, F9, F10, F11, F12, A1, A2, A3, A4, A5, A6, A7, A8, A9, A10, A11, A12, A13, A14, A15, A16, A17, A18, A19⟩ := v'
      exact yu_out h (pi_close hI).1 (K w')
    · rw [if_neg c2] at K
      exact br_f (fun z => c2 (hc2.mp z)) (yu_out hR hI (K w))
theorem yu_prim {p : Nat} {P : pm_P} (hp : p < 14) (hp4 : p ≠ 4) (hL : xr_I L) (hR : yr_R L lim P w ar ast aln rn v) (hI : pi_I lim P) (h0 : P.1.1 = 0) (K : ∀ w' v', yr_R L lim (pm_act p P) w' ar ast aln rn v' → post v') : wpY_prim post v (nI p) := by
  obtain ⟨F1, F2, F3, F4, F5, F6, F7, F8, F9, F10, F11, F12, A1, A2, A3, A4, A5, A6, A7, A8, A9, A10, A11, A12, A13, A14, A15, A16, A17, A18, A19⟩ := v
  have E : ∀ {A : SY → Prop} {P' : pm_P}, (∀ w' v', yr_R L lim P' w' ar ast aln rn v' → A v') → ∀ w' v', yr_R L lim P' w' ar ast aln rn v' → (match v' with | (F1, F2, F3, F4, F5, F6, F7, F8, F9, F10, F11, F12, A1, A2, A3, A4, A5, A6, A7, A8, A9, A10, A11, A12, A13, A14, A15, A16, A17, A18, A19) => A (F1, F2, F3, F4, F5, F6, F7, F8, F9, F10, F11, F12, A1, A2, A3, A4, A5, A6, A7, A8, A9, A10, A11, A12, A13, A14, A15, A16, A17, A18, A19)) := fun {A P'} h w' v' hu => by
    obtain ⟨F1, F2, F3, F4, F5, F6, F7, F8, F9, F10, F11, F12, A1, A2, A3, A4, A5, A6, A7, A8, A9, A10, A11, A12, A13, A14, A15, A16, A17, A18, A19⟩ := v'
    exact h w' _ hu
  by_cases h9 : 9 ≤ p
  · refine br_t (nI_lt (a := 1) (by omega) (by omega)) (br_t (nI_lt (a := 3) (by omega) (by omega)) (br_f (fun z => by have := (nI_eq (b := 4) (by omega) (by decide)).mp z; omega) (br_f (fun z => by have := (nI_eq (b := 5) (by omega) (by decide)).mp z; omega) (br_f (fun z => by have := (nI_eq (b := 6) (by omega) (by decide)).mp z; omega) (br_t (nI_lt (a := 8) (by omega) (by omega)) ?_)))))
    exact yo_cond h9 hp hL hR hI h0 (E K w)
  · match p, h9, hp4, K with
    | 0, _, _, K => exact br_f (by decide) (br_f (by decide) (yq_def (g := false) hL hR hI h0 (E K)))
    | 1, _, _, K => exact br_f (by decide) (br_t rfl (yq_def (g := true) hL hR hI h0 (E K)))
    | 2, _, _, K => exact br_t (by decide) (br_f (by decide) (br_f (by decide) (yl_let (g := false) hL hR hI h0 (E K))))
    | 3, _, _, K => exact br_t (by decide) (br_f (by decide) (br_t rfl (yl_let (g := true) hL hR hI h0 (E K))))
    | 4, _, h, _ => exact absurd rfl h
    | 5, _, _, K => exact br_t (by decide) (br_t (by decide) (br_f (by decide) (br_t rfl (yg_open hR hI (E K w)))))
    | 6, _, _, K => exact br_t (by decide) (br_t (by decide) (br_f (by decide) (br_f (by decide) (br_t rfl (yg_close hR hI (E K))))))
    | 7, _, _, K => exact br_t (by decide) (br_t (by decide) (br_f (by decide) (br_f (by decide) (br_f (by decide) (br_f (by decide) (br_f (by decide) (yl_catc (g := false) hL hR hI h0 (E K))))))))
    | 8, _, _, K => exact br_t (by decide) (br_t (by decide) (br_f (by decide) (br_f (by decide) (br_f (by decide) (br_f (by decide) (br_t rfl (yl_catc (g := true) hL hR hI h0 (E K))))))))
    | n + 9, h, _, _ => omega
end YU
