section XE
variable {L : List Nat} {lim : Nat} {mm ar ast ae : Nat → Int32} {au al hc : Int32} {u : SX} {post : SX → Prop} {f1 f2 f3 f4 f5 f6 f7 f8 f9 f10 f11 f12 f13 f14 : Int32} {a1 a2 a3 a4 a5 a6 a7 a8 a9 a10 a11 a12 a13 a14 a15 : Nat → Int32}
/-- slot 64 while a replacement is read -/
def xd_Q (mm : Nat → Int32) (n : Nat) (pt acc : List Nat) : Prop := ∀ i, i < 36 → mm (2304 + i) = if i = 3 then 0 else nI (xr_e (2, n, pt, acc) i)
theorem xd_Q0 {mm : Nat → Int32} {n : Nat} {pt : List Nat} (h : xr_M mm 64 (2, n, pt, [])) : xd_Q mm n pt [] := fun i hi => by
  rw [show 2304 + i = 64 * 36 + i from by omega, h i hi]
  split
  · next e => subst e; rfl
  · rfl
theorem xd_e12 {n : Nat} {pt rt : List Nat} {i : Nat} (h : 12 ≤ i) : xr_e (2, n, pt, rt) i = rt.getD (i - 12) 0 := by
  unfold xr_e
  rw [if_neg (by omega), if_neg (by omega), if_neg (by omega), if_neg (by omega), if_neg (by omega)]
theorem xd_eLo {n : Nat} {pt rt rt' : List Nat} {i : Nat} (h : i < 12) (h3 : i ≠ 3) : xr_e (2, n, pt, rt) i = xr_e (2, n, pt, rt') i := by
  unfold xr_e
  by_cases i0 : i = 0
  · rw [if_pos i0, if_pos i0]
  · rw [if_neg i0, if_neg i0]
    by_cases i1 : i = 1
    · rw [if_pos i1, if_pos i1]
    · rw [if_neg i1, if_neg i1]
      by_cases i2 : i = 2
      · rw [if_pos i2, if_pos i2]
      · rw [if_neg i2, if_neg i2, if_neg h3, if_neg h3, if_pos h, if_pos h]
theorem xd_Q_push {mm : Nat → Int32} {n w : Nat} {pt acc : List Nat} (h : xd_Q mm n pt acc) (hl : acc.length < 24) : xd_Q (upd mm (2316 + acc.length) (nI w)) n pt (acc ++ [w]) := by
  intro i hi
  by_cases e : i = 12 + acc.length
  · subst e
    rw [show 2304 + (12 + acc.length) = 2316 + acc.length from by omega, pk_us, if_neg (by omega), xd_e12 (by omega), show 12 + acc.length - 12 = acc.length from by omega, xr_getD_append_here]
  · rw [pk_un (by omega), h i hi]
    by_cases i3 : i = 3
    · rw [if_pos i3, if_pos i3]
    · rw [if_neg i3, if_neg i3]
      by_cases i12 : i < 12
      · rw [xd_eLo (rt' := acc ++ [w]) i12 i3]
      · rw [xd_e12 (by omega), xd_e12 (by omega)]
        by_cases hl2 : i - 12 < acc.length
        · rw [xr_getD_append_left hl2]
        · rw [List.getD_eq_getElem?_getD, List.getElem?_eq_none (by omega), List.getD_eq_getElem?_getD, List.getElem?_eq_none (by rw [List.length_append]; simp only [List.length_cons, List.length_nil]; omega)]
theorem xd_Q_fin {mm : Nat → Int32} {n : Nat} {pt acc : List Nat} (h : xd_Q mm n pt acc) : xr_M (upd mm 2307 (nI acc.length)) 64 (2, n, pt, acc) := by
  intro i hi
  rw [show 64 * 36 + i = 2304 + i from by omega]
  by_cases i3 : i = 3
  · subst i3; rw [pk_us]; rfl
  · rw [pk_un (by omega), h i hi, if_neg i3]
theorem xd_nest {pb : Int32 → Prop} {t d : Nat} (h : pm_cat t = 2 → 0 < d) (hc : pm_cat t < 8) (K : ∀ r, nI d + r = nI (pm_nest t d) → pb r) : wpX_nestingChange pb (f1, f2, f3, f4, f5, f6, f7, f8, f9, f10, f11, f12, f13, f14, a1, a2, a3, a4, a5, a6, a7, a8, a9, a10, a11, a12, a13, a14, a15) (nI (pm_cat t)) := by
  unfold pm_nest at K
  by_cases c1 : pm_cat t = 1
  · rw [if_pos c1] at K
    exact br_t (by rw [c1]; rfl) (K 1 (nI_1 _))
  · rw [if_neg c1] at K
    refine br_f (fun z => c1 ((nI_eq (b := 1) (by omega) (by decide)).mp z)) ?_
    by_cases c2 : pm_cat t = 2
    · rw [if_pos c2] at K
      refine br_t (by rw [c2]; rfl) (K (-1) ?_)
      rw [xg_m1]
      exact pk_sub (b := 1) (h c2)
    · rw [if_neg c2] at K
      exact br_f (fun z => c2 ((nI_eq (b := 2) (by omega) (by decide)).mp z)) (K 0 (Int32.add_zero _))
theorem xd_99 {J8 : Int32 → Int32 → Int32 → Int32 → Int32 → Int32 → Int32 → Int32 → Int32 → Int32 → Int32 → Int32 → Int32 → Int32 → Int32 → Int32 → (Nat → Int32) → (Nat → Int32) → (Nat → Int32) → (Nat → Int32) → (Nat → Int32) → (Nat → Int32) → (Nat → Int32) → (Nat → Int32) → (Nat → Int32) → (Nat → Int32) → (Nat → Int32) → (Nat → Int32) → (Nat → Int32) → (Nat → Int32) → (Nat → Int32) → Prop}
    {n w t d : Nat} {pt acc : List Nat} (hc : pm_cat t < 8) (hd : pm_cat t = 2 → 0 < d) (hl : acc.length ≤ 24) (hQ : xd_Q a7 n pt acc) (K7 : acc.length = 24 → post (f1, f2, 7, f4, f5, f6, f7, f8, f9, f10, f11, f12, f13, f14, a1, a2, a3, a4, a5, a6, a7, a8, a9, a10, a11, a12, a13, a14, a15)) (Kn : acc.length ≠ 24 → ∀ mm', xd_Q mm' n pt (acc ++ [w]) → (∀ j, j < 2304 → mm' j = a7 j) → J8 (nI (pm_nest t d)) (nI (acc.length + 1)) f1 f2 f3 f4 f5 f6 f7 f8 f9 f10 f11 f12 f13 f14 a1 a2 a3 a4 a5 a6 mm' a8 a9 a10 a11 a12 a13 a14 a15) : wX_readReplacement_99 post J8 2304 (nI d) (nI acc.length) (nI w) (nI (pm_cat t)) f1 f2 f3 f4 f5 f6 f7 f8 f9 f10 f11 f12 f13 f14 a1 a2 a3 a4 a5 a6 a7 a8 a9 a10 a11 a12 a13 a14 a15 := by
  unfold wX_readReplacement_99
  refine xd_nest hd hc fun r er => nm_r er ?_
  by_cases h8 : acc.length = 24
  · exact br_t (by rw [h8]; rfl) (K7 h8)
  · have e : (2304 : Int32) + 12 + nI acc.length = nI (2316 + acc.length) := by
      have : (2304 : Int32) + 12 = nI 2316 := by decide
      rw [this, nI_add]
    refine br_f (fun z => h8 ((nI_eq (b := 24) (by omega) (by decide)).mp z)) ⟨by rw [e]; exact vp_in_nI (by omega) (by decide), fun mm' q => nm_r (nI_1 _) ?_⟩
    rw [e, nI_clamp (by omega)] at q
    subst q
    exact Kn h8 _ (xd_Q_push hQ (by omega)) (fun j hj => pk_un (by omega))
theorem xd_pair {pb : Int32 → Prop} {n t v : Nat} (hn : n ≤ 8) (hv : v < 2 ^ 30) (h5 : a7 2305 = nI n) (K0 : pm_pair n t v = none → pb (-1)) (K1 : ∀ w, pm_pair n t v = some w → pb (nI w)) : wpX_pairInReplacement pb (f1, f2, f3, f4, f5, f6, f7, f8, f9, f10, f11, f12, f13, f14, a1, a2, a3, a4, a5, a6, a7, a8, a9, a10, a11, a12, a13, a14, a15) (nI t) (nI v) := by
  unfold wpX_pairInReplacement
  unfold pm_pair at K0 K1
  have hcat : pm_cat v < 8 := by unfold pm_cat; split <;> omega
  refine xh_cat (by omega) ?_
  by_cases c3 : pm_cat v = 3
  · rw [if_pos c3] at K1
    exact br_t (by rw [c3]; rfl) (K1 t rfl)
  · rw [if_neg c3] at K0 K1
    refine br_f (fun z => c3 ((nI_eq (b := 3) (by omega) (by decide)).mp z)) ?_
    refine xh_chr (by omega) (fun hlt => ?_) (fun hlt => ?_)
    · have ech : v % 128 = pm_chr v := by unfold pm_chr; rw [if_pos hlt]
      have hm := Nat.mod_lt v (show 0 < 128 by decide)
      rw [ech] at hm ⊢
      by_cases h49 : 49 ≤ pm_chr v
      · have e : nI (pm_chr v) - 48 = nI (pm_chr v - 48) := pk_sub (b := 48) (by omega)
        refine nm_r e (br_f (nI_nlt (b := 1) (by omega) (by omega)) ?_)
        rw [h5]
        by_cases hq : pm_chr v ≤ 48 + n
        · rw [if_pos ⟨h49, hq⟩] at K1
          refine br_t (nI_le (by omega) (by omega)) ?_
          have e2 : (2048 : Int32) + nI (pm_chr v - 48) = nI (2000 + pm_chr v) := by
            have : (2048 : Int32) + nI (pm_chr v - 48) = nI (2048 + (pm_chr v - 48)) := nI_add 2048 _
            rw [this, show 2048 + (pm_chr v - 48) = 2000 + pm_chr v from by omega]
          rw [e2]
          exact K1 _ rfl
        · rw [if_neg (fun z => hq z.2)] at K0
          exact br_f (nI_ge (by omega) (by omega)) (K0 rfl)
      · rw [if_neg (fun z => h49 z.1)] at K0
        refine nm_e (br_t ?_ (K0 rfl))
        by_cases h48 : pm_chr v = 48
        · rw [h48]; decide
        · exact Int32.lt_trans (pk_sneg (b := 48) (by decide) (by omega)) (by decide)
    · have ech : pm_chr v = 1000 := by unfold pm_chr; rw [if_neg hlt]
      rw [if_neg (fun z => by omega)] at K0
      exact nm_e (br_t (by decide) (K0 rfl))
theorem xd_rtL {C : Nat → Nat} {n : Nat} {pt : List Nat} {q : (Nat → pm_Mn) × List pm_Sv × Nat × List Nat × List Nat × Nat} (hL : xr_I L) (hC : ∀ a, a < 128 → C a < 8) (hn8 : n ≤ 8) : ∀ (f d : Nat) (acc : List Nat) (T : pm_T) (mm : Nat → Int32) (N : Nat) (f1 f2 f3 f4 f5 f6 f7 f8 f9 f10 f11 f12 f13 f14 : Int32) (a1 a2 a3 a4 a5 a6 a7 a8 a9 a10 a11 a12 a13 a14 a15 : Nat → Int32), f + acc.length = 25 → f < N → xr_R L lim (T, C, q) mm ar ast ae au al hc (f1, f2, f3, f4, f5, f6, f7, f8, f9, f10, f11, f12, f13, f14, a1, a2, a3, a4, a5, a6, a7, a8, a9, a10, a11, a12, a13, a14, a15) → pi_I lim (T, C, q) → T.1 = 0 → xd_Q mm n pt acc → 0 < f → d ≤ acc.length →
    (∀ r T' mm' u', pm_rt C n f d acc T = (r, T') → xr_R L lim (T', C, q) mm' ar ast ae au al hc u' → (∀ m, r = some m → xr_M mm' 64 (2, n, pt, m)) → post u') → wX_readReplacement_8 post 2304 N (nI d) (nI acc.length) f1 f2 f3 f4 f5 f6 f7 f8 f9 f10 f11 f12 f13 f14 a1 a2 a3 a4 a5 a6 a7 a8 a9 a10 a11 a12 a13 a14 a15 := by
  intro f
  induction f with
  | zero => intro d acc T mm N f1 f2 f3 f4 f5 f6 f7 f8 f9 f10 f11 f12 f13 f14 a1 a2 a3 a4 a5 a6 a7 a8 a9 a10 a11 a12 a13 a14 a15 _ _ _ _ _ _ h; omega
  | succ f ih =>
    intro d acc T mm N f1 f2 f3 f4 f5 f6 f7 f8 f9 f10 f11 f12 f13 f14 a1 a2 a3 a4 a5 a6 a7 a8 a9 a10 a11 a12 a13 a14 a15 hf hN hR hI h0 hQ _ hda K
    obtain ⟨N, rfl⟩ : ∃ m, N = m + 1 := ⟨N - 1, by omega⟩
    refine br_f (nI_nlt (a := 24) (b := acc.length) (by omega) (by decide)) ?_
    refine xt_take (e := 3) hL hR hI h0 (by decide) (fun t T1 u1 e1 hR1 => ?_) (fun T1 u1 e1 hR1 => ?_)
    · obtain ⟨p1, p2, p3, p4⟩ := pi_tk hI.1 hC h0 e1
      have hb := xs_tok p1.1.1.2.1 p3
      have hI1 := pi_toI hI p1
      obtain ⟨f1, f2, f3, f4, f5, f6, f7, f8, f9, f10, f11, f12, f13, f14, a1, a2, a3, a4, a5, a6, a7, a8, a9, a10, a11, a12, a13, a14, a15⟩ := u1
      obtain ⟨z1, z2, z3⟩ := xh_st hR1
      subst z2
      refine br_f (xh_n1 (by omega)) (xh_cat (by omega) ?_)
      have hcat : pm_cat t < 8 := by unfold pm_cat; split <;> omega
      by_cases hx : pm_cat t = 2 ∧ d = 0
      · have e3 : (2304 : Int32) + 3 = nI 2307 := by decide
        refine br_t (by rw [hx.1]; rfl) (br_t (by rw [hx.2]; rfl) ⟨by rw [e3]; exact vp_in_nI (by decide) (by decide), fun m1 q1 => ?_⟩)
        rw [e3, nI_clamp (by decide)] at q1
        subst q1
        refine K (some acc) T1 _ _ ?_ (xh_mm hR1 hI1 (fun j hj => pk_un (by omega))) (fun m hm => ?_)
        · simp only [pm_rt, e1, if_pos hx]
        · cases hm
          exact xd_Q_fin hQ
      · have h56 : wX_readReplacement_56 post (wX_readReplacement_8 post 2304 N) 2304 (nI d) (nI acc.length) (nI t) (nI (pm_cat t)) f1 f2 f3 f4 f5 f6 f7 f8 f9 f10 f11 f12 f13 f14 a1 a2 a3 a4 a5 a6 a7 a8 a9 a10 a11 a12 a13 a14 a15 := by
          by_cases c3 : pm_cat t = 3
          · refine br_t (by rw [c3]; rfl) ?_
            refine xt_take (e := 3) hL hR1 hI1 p2 (by decide) (fun v T2 u2 e2 hR2 => ?_) (fun T2 u2 e2 hR2 => ?_)
            · obtain ⟨r1, r2, r3, r4⟩ := pi_tk p1.1 hC p2 e2
              have hb2 := xs_tok r1.1.1.2.1 r3
              have hI2 := pi_toI hI1 r1
              obtain ⟨f1, f2, f3, f4, f5, f6, f7, f8, f9, f10, f11, f12, f13, f14, a1, a2, a3, a4, a5, a6, a7, a8, a9, a10, a11, a12, a13, a14, a15⟩ := u2
              obtain ⟨z1, z2, z3⟩ := xh_st hR2
              subst z2
              refine br_f (xh_n1 (by omega)) ?_
              refine xd_pair hn8 (by omega) (by have := hQ 1 (by decide); exact this) (fun hp => ?_) (fun w hp => ?_)
              · refine br_t rfl (K none (pm_err 6 T2) _ _ ?_ (xh_err (k := 6) (by decide) hR2) (fun m hm => (nomatch hm)))
                simp only [pm_rt, e1, if_neg hx, if_pos c3, e2, hp]
              · have hw : w < 4096 := by
                  unfold pm_pair at hp
                  split at hp
                  · cases hp; omega
                  · split at hp
                    · cases hp; omega
                    · cases hp
                refine br_f (xh_n1 (by omega)) ?_
                have hnest : pm_nest t d = d := by unfold pm_nest; rw [if_neg (by omega), if_neg (by omega)]
                refine xd_99 (t := t) hcat (fun z => by omega) (by omega) hQ (fun h8 => ?_) (fun h8 mm' w1 w2 => ?_)
                · refine K none (pm_err 7 T2) _ _ ?_ (xh_err (k := 7) (by decide) hR2) (fun m hm => (nomatch hm))
                  simp only [pm_rt, e1, if_neg hx, if_pos c3, e2, hp, if_pos h8]
                · have := ih d (acc ++ [w]) T2 mm' N _ _ _ _ _ _ _ _ _ _ _ _ _ _ _ _ _ _ _ _ _ _ _ _ _ _ _ _ _ (by rw [List.length_append]; simp only [List.length_cons, List.length_nil]; omega) (by omega) (xh_mm hR2 hI2 w2) hI2 r2 w1 (by omega) (by rw [List.length_append]; omega) (fun r T' mm2 u3 q1 q2 q3 => K r T' mm2 u3 (by simp only [pm_rt, e1, if_neg hx, if_pos c3, e2, hp, if_neg h8]; exact q1) q2 q3)
                  rw [List.length_append] at this
                  rw [hnest]
                  exact this
            · obtain ⟨f1, f2, f3, f4, f5, f6, f7, f8, f9, f10, f11, f12, f13, f14, a1, a2, a3, a4, a5, a6, a7, a8, a9, a10, a11, a12, a13, a14, a15⟩ := u2
              refine br_t rfl (K none T2 _ _ ?_ hR2 (fun m hm => (nomatch hm)))
              simp only [pm_rt, e1, if_neg hx, if_pos c3, e2]
          · refine br_f (fun z => c3 ((nI_eq (b := 3) (by omega) (by decide)).mp z)) ?_
            refine xd_99 (t := t) hcat (fun z => by omega) (by omega) hQ (fun h8 => ?_) (fun h8 mm' w1 w2 => ?_)
            · refine K none (pm_err 7 T1) _ _ ?_ (xh_err (k := 7) (by decide) hR1) (fun m hm => (nomatch hm))
              simp only [pm_rt, e1, if_neg hx, if_neg c3, if_pos h8]
            · have hnl : pm_nest t d ≤ acc.length + 1 := by unfold pm_nest; split <;> (try split) <;> omega
              have := ih (pm_nest t d) (acc ++ [t]) T1 mm' N _ _ _ _ _ _ _ _ _ _ _ _ _ _ _ _ _ _ _ _ _ _ _ _ _ _ _ _ _ (by rw [List.length_append]; simp only [List.length_cons, List.length_nil]; omega) (by omega) (xh_mm hR1 hI1 w2) hI1 p2 w1 (by omega) (by rw [List.length_append]; exact hnl) (fun r T' mm2 u3 q1 q2 q3 => K r T' mm2 u3 (by simp only [pm_rt, e1, if_neg hx, if_neg c3, if_neg h8]; exact q1) q2 q3)
              rw [List.length_append] at this
              exact this
        by_cases c2 : pm_cat t = 2
        · refine br_t (by rw [c2]; rfl) (br_f (fun z => ?_) h56)
          exact hx ⟨c2, (nI_eq (b := 0) (by omega) (by decide)).mp z⟩
        · exact br_f (fun z => c2 ((nI_eq (b := 2) (by omega) (by decide)).mp z)) h56
    · obtain ⟨f1, f2, f3, f4, f5, f6, f7, f8, f9, f10, f11, f12, f13, f14, a1, a2, a3, a4, a5, a6, a7, a8, a9, a10, a11, a12, a13, a14, a15⟩ := u1
      refine br_t rfl (K none T1 _ _ ?_ hR1 (fun m hm => (nomatch hm)))
      simp only [pm_rt, e1]
theorem xd_pt0 {C : Nat → Nat} {T : pm_T} {q : (Nat → pm_Mn) × List pm_Sv × Nat × List Nat × List Nat × Nat} (hL : xr_I L) (hC : ∀ a, a < 128 → C a < 8) (hR : xr_R L lim (T, C, q) mm ar ast ae au al hc (f1, f2, f3, f4, f5, f6, f7, f8, f9, f10, f11, f12, f13, f14, a1, a2, a3, a4, a5, a6, a7, a8, a9, a10, a11, a12, a13, a14, a15)) (hI : pi_I lim (T, C, q)) (h0 : T.1 = 0) (hP : xd_P mm [])
    (K : ∀ r T' mm' u', pm_pt C 9 0 [] T = (r, T') → xr_R L lim (T', C, q) mm' ar ast ae au al hc u' → (∀ m, r = some m → xr_M mm' 64 (2, m.1, m.2, [])) → post u') : wpX_readParameterText post (f1, f2, f3, f4, f5, f6, f7, f8, f9, f10, f11, f12, f13, f14, a1, a2, a3, a4, a5, a6, a7, a8, a9, a10, a11, a12, a13, a14, a15) := by
  obtain ⟨N, hN⟩ : ∃ N : Nat, 9 < N := ⟨10, by decide⟩
  have h := xd_ptL hL hC 9 0 [] T mm N _ _ _ _ _ _ _ _ _ _ _ _ _ _ _ _ _ _ _ _ _ _ _ _ _ _ _ _ _ rfl hN (by decide) hR hI h0 hP (by decide) K
  rw [show nI ([] : List Nat).length = 0 from rfl, show nI 0 = 0 from rfl] at h
  exact ⟨N, h⟩
theorem xd_rt0 {C : Nat → Nat} {n : Nat} {pt : List Nat} {T : pm_T} {q : (Nat → pm_Mn) × List pm_Sv × Nat × List Nat × List Nat × Nat} (hL : xr_I L) (hC : ∀ a, a < 128 → C a < 8) (hn8 : n ≤ 8) (hR : xr_R L lim (T, C, q) mm ar ast ae au al hc (f1, f2, f3, f4, f5, f6, f7, f8, f9, f10, f11, f12, f13, f14, a1, a2, a3, a4, a5, a6, a7, a8, a9, a10, a11, a12, a13, a14, a15)) (hI : pi_I lim (T, C, q)) (h0 : T.1 = 0) (hQ : xd_Q mm n pt [])
    (K : ∀ r T' mm' u', pm_rt C n 25 0 [] T = (r, T') → xr_R L lim (T', C, q) mm' ar ast ae au al hc u' → (∀ m, r = some m → xr_M mm' 64 (2, n, pt, m)) → post u') : wpX_readReplacement post (f1, f2, f3, f4, f5, f6, f7, f8, f9, f10, f11, f12, f13, f14, a1, a2, a3, a4, a5, a6, a7, a8, a9, a10, a11, a12, a13, a14, a15) := by
  obtain ⟨N, hN⟩ : ∃ N : Nat, 25 < N := ⟨26, by decide⟩
  have h := xd_rtL hL hC hn8 25 0 [] T mm N _ _ _ _ _ _ _ _ _ _ _ _ _ _ _ _ _ _ _ _ _ _ _ _ _ _ _ _ _ rfl hN hR hI h0 hQ (by decide) (by decide) K
  rw [show nI ([] : List Nat).length = 0 from rfl, show nI 0 = 0 from rfl] at h
  exact ⟨N, h⟩
theorem xd_defC {g : Bool} {t n : Nat} {pt : List Nat} {C : Nat → Nat} {T2 : pm_T} {P' : pm_P} {q : (Nat → pm_Mn) × List pm_Sv × Nat × List Nat × List Nat × Nat} (hL : xr_I L) (hC : ∀ a, a < 128 → C a < 8) (hn8 : n ≤ 8) (ht : ¬ t < 1024) (hid : t - 1024 < 32) (hR2 : xr_R L lim (T2, C, q) mm ar ast ae au al hc (f1, f2, f3, f4, f5, f6, f7, f8, f9, f10, f11, f12, f13, f14, a1, a2, a3, a4, a5, a6, a7, a8, a9, a10, a11, a12, a13, a14, a15)) (hI2 : pi_I lim (T2, C, q)) (k4 : T2.1 = 0) (hm : xr_M mm 64 (2, n, pt, []))
    (hP' : P' = match pm_rt C n 25 0 [] T2 with | (none, T3) => (T3, C, q) | (some rt, T3) => pm_assign g (t - 1024) (2, n, pt, rt) 0 (T3, C, q))
    (K : ∀ mm' u', xr_R L lim P' mm' ar ast ae au al hc u' → post u') : wpX_readReplacement (fun u => match u with | (f_expansionLimit, f_expansionCount, f_state, f_inputLength, f_inputPosition, f_outputCount, f_pendingCount, f_namesUsed, f_saveCount, f_depth, f_conditionalCount, f_argumentsUsed, f_argumentsLimit, f_heldCount, a_input, a_output, a_pending, a_catcodes, a_nameChars, a_nameLengths, a_meanings, a_savedItems, a_savedLevels, a_savedCatcodes, a_conditionals, a_arguments, a_argumentStarts, a_argumentEnds, a_held) => wX_define_47 post (xa_b g) (nI t) f_expansionLimit f_expansionCount f_state f_inputLength f_inputPosition f_outputCount f_pendingCount f_namesUsed f_saveCount f_depth f_conditionalCount f_argumentsUsed f_argumentsLimit f_heldCount a_input a_output a_pending a_catcodes a_nameChars a_nameLengths a_meanings a_savedItems a_savedLevels a_savedCatcodes a_conditionals a_arguments a_argumentStarts a_argumentEnds a_held) (f1, f2, f3, f4, f5, f6, f7, f8, f9, f10, f11, f12, f13, f14, a1, a2, a3, a4, a5, a6, a7, a8, a9, a10, a11, a12, a13, a14, a15) := by
  refine xd_rt0 (n := n) (pt := pt) hL hC hn8 hR2 hI2 k4 (xd_Q0 hm) (fun r T3 mm3 u3 e3 hR3 hm3 => ?_)
  obtain ⟨l1, l2, l3⟩ := pi_rt hC _ _ [] _ _ _ hI2.1 k4 rfl (fun y hy => (nomatch hy)) e3
  have hI3 := pi_toI hI2 l1
  have hlt := xh_lt hR3
  rw [e3] at hP'
  obtain ⟨f1, f2, f3, f4, f5, f6, f7, f8, f9, f10, f11, f12, f13, f14, a1, a2, a3, a4, a5, a6, a7, a8, a9, a10, a11, a12, a13, a14, a15⟩ := u3
  obtain ⟨z1, z2, z3⟩ := xh_st hR3
  rcases r with _ | rt
  · have hst : ¬ f3 = 0 := fun z => l3 rfl (by decide) ((nI_eq (b := 0) (Nat.lt_trans hlt (by decide)) (by decide)).mp (z1.symm.trans z))
    refine br_f hst (K mm3 _ ?_)
    rw [hP']
    exact hR3
  · obtain ⟨l4, l5⟩ := l2 _ rfl
    have hst : f3 = 0 := z1.trans (congrArg nI l4)
    have e : nI t - 1024 = nI (t - 1024) := pk_sub (b := 1024) (by omega)
    refine br_t hst ?_
    rw [e]
    refine xa_asgM (g := g) (m := (2, n, pt, rt)) hR3 hI3 hid (hm3 _ rfl) fun mm4 u4 hR4 => ?_
    obtain ⟨f1, f2, f3, f4, f5, f6, f7, f8, f9, f10, f11, f12, f13, f14, a1, a2, a3, a4, a5, a6, a7, a8, a9, a10, a11, a12, a13, a14, a15⟩ := u4
    refine K mm4 _ ?_
    rw [hP']
    exact hR4
theorem xd_def {g : Bool} {P : pm_P} (hL : xr_I L) (hR : xr_R L lim P mm ar ast ae au al hc u) (hI : pi_I lim P) (h0 : P.1.1 = 0) (K : ∀ mm' u', xr_R L lim (pm_def g P) mm' ar ast ae au al hc u' → post u') : wpX_define post u (xa_b g) := by
  obtain ⟨T, C, q⟩ := P
  have hC : ∀ a, a < 128 → C a < 8 := by obtain ⟨M, S, d, c, o, x⟩ := q; exact hI.2.1
  obtain ⟨f1, f2, f3, f4, f5, f6, f7, f8, f9, f10, f11, f12, f13, f14, a1, a2, a3, a4, a5, a6, a7, a8, a9, a10, a11, a12, a13, a14, a15⟩ := u
  unfold wpX_define
  refine xt_take (e := 3) hL hR hI h0 (by decide) (fun t T1 u1 e1 hR1 => ?_) (fun T1 u1 e1 hR1 => ?_)
  · obtain ⟨p1, p2, p3, p4⟩ := pi_tk hI.1 hC h0 e1
    have hb := xs_tok p1.1.1.2.1 p3
    have hI1 := pi_toI hI p1
    have e1' : pm_take 3 C T = (some t, T1) := e1
    obtain ⟨f1, f2, f3, f4, f5, f6, f7, f8, f9, f10, f11, f12, f13, f14, a1, a2, a3, a4, a5, a6, a7, a8, a9, a10, a11, a12, a13, a14, a15⟩ := u1
    obtain ⟨z1, z2, z3⟩ := xh_st hR1
    subst z2
    refine br_f (xh_n1 (by omega)) ?_
    by_cases ht : t < 1024
    · refine br_f (nI_ge (b := 1024) ht (by decide)) (K a7 _ ?_)
      simp only [pm_def, e1', if_pos ht]
      exact xh_err (k := 6) (by decide) hR1
    · have hdef : pm_def g (T, C, q) = match pm_pt C 9 0 [] T1 with | (none, T2) => (T2, C, q) | (some (n, pt), T2) => (match pm_rt C n 25 0 [] T2 with | (none, T3) => (T3, C, q) | (some rt, T3) => pm_assign g (t - 1024) (2, n, pt, rt) 0 (T3, C, q)) := by
        simp only [pm_def, e1', if_neg ht]
        rfl
      refine br_t (nI_le (a := 1024) (by omega) (by omega)) ?_
      refine xs_clear (t := 64) (by decide) fun mm1 w1 w2 => ?_
      have hR1' := xh_mm hR1 hI1 (mm' := mm1) (fun j hj => w2 j (by omega))
      have hP : xd_P mm1 [] := fun i hi => by
        rw [show 2304 + i = 64 * 36 + i from by omega, w1 i hi]
        split <;> rfl
      refine xd_pt0 hL hC hR1' hI1 p2 hP (fun r T2 mm2 u2 e2 hR2 hm => ?_)
      obtain ⟨k1, k2, k3⟩ := pi_pt hC _ _ [] _ _ _ p1.1 p2 rfl rfl (fun y hy => (nomatch hy)) e2
      have hI2 := pi_toI hI1 k1
      have hlt := xh_lt hR2
      rw [e2] at hdef
      obtain ⟨f1, f2, f3, f4, f5, f6, f7, f8, f9, f10, f11, f12, f13, f14, a1, a2, a3, a4, a5, a6, a7, a8, a9, a10, a11, a12, a13, a14, a15⟩ := u2
      obtain ⟨z1, z2, z3⟩ := xh_st hR2
      rcases r with _ | ⟨n, pt⟩
      · have hst : ¬ f3 = 0 := fun z => k3 rfl (by decide) ((nI_eq (b := 0) (Nat.lt_trans hlt (by decide)) (by decide)).mp (z1.symm.trans z))
        refine br_f hst (br_f hst (K mm2 _ ?_))
        rw [hdef]
        exact hR2
      · obtain ⟨k4, k5, k6, k7⟩ := k2 _ rfl
        have hst : f3 = 0 := z1.trans (congrArg nI k4)
        have hn8 : n ≤ 8 := by
          have : pt.countP (fun r => decide (2048 ≤ r)) = n := k6
          rw [← this]; exact Nat.le_trans List.countP_le_length k5
        refine br_t hst ?_
        exact xd_defC hL hC hn8 ht (pi_id p3 p1.1.1.2.1 ht).2.1 hR2 hI2 k4 (hm _ rfl) hdef K
  · obtain ⟨f1, f2, f3, f4, f5, f6, f7, f8, f9, f10, f11, f12, f13, f14, a1, a2, a3, a4, a5, a6, a7, a8, a9, a10, a11, a12, a13, a14, a15⟩ := u1
    refine br_t rfl (K mm _ ?_)
    have e1' : pm_take 3 C T = (none, T1) := e1
    simp only [pm_def, e1']
    exact hR1
end XE
