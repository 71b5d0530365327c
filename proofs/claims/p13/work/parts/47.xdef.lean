section XF
variable {L : List Nat} {lim : Nat} {mm ar ast ae : Nat → Int32} {au al hc : Int32} {u : SX} {post : SX → Prop} {f1 f2 f3 f4 f5 f6 f7 f8 f9 f10 f11 f12 f13 f14 : Int32} {a1 a2 a3 a4 a5 a6 a7 a8 a9 a10 a11 a12 a13 a14 a15 : Nat → Int32}
/-- slot 64 while a parameter text is read -/
def xd_P (mm : Nat → Int32) (acc : List Nat) : Prop := ∀ i, i < 36 → mm (2304 + i) = if 4 ≤ i ∧ i < 12 then nI (acc.getD (i - 4) 0) else 0
theorem xd_P_push {mm : Nat → Int32} {acc : List Nat} {w : Nat} (h : xd_P mm acc) (h8 : acc.length < 8) : xd_P (upd mm (2308 + acc.length) (nI w)) (acc ++ [w]) := by
  intro i hi
  by_cases e : i = 4 + acc.length
  · subst e
    rw [show 2304 + (4 + acc.length) = 2308 + acc.length from by omega, pk_us, if_pos (by omega), show 4 + acc.length - 4 = acc.length from by omega, xr_getD_append_here]
  · rw [pk_un (by omega), h i hi]
    by_cases h4 : 4 ≤ i ∧ i < 12
    · rw [if_pos h4, if_pos h4]
      by_cases hl : i - 4 < acc.length
      · rw [xr_getD_append_left hl]
      · rw [List.getD_eq_getElem?_getD, List.getElem?_eq_none (by omega), List.getD_eq_getElem?_getD, List.getElem?_eq_none (by rw [List.length_append]; simp only [List.length_cons, List.length_nil]; omega)]
    · rw [if_neg h4, if_neg h4]
theorem xd_137 {J8 : Int32 → Int32 → Int32 → Int32 → Int32 → Int32 → Int32 → Int32 → Int32 → Int32 → Int32 → Int32 → Int32 → Int32 → Int32 → Int32 → (Nat → Int32) → (Nat → Int32) → (Nat → Int32) → (Nat → Int32) → (Nat → Int32) → (Nat → Int32) → (Nat → Int32) → (Nat → Int32) → (Nat → Int32) → (Nat → Int32) → (Nat → Int32) → (Nat → Int32) → (Nat → Int32) → (Nat → Int32) → (Nat → Int32) → Prop}
    {x2 : Int32} {acc : List Nat} {w : Nat} (hl : acc.length ≤ 8) (hP : xd_P a7 acc) (K7 : acc.length = 8 → post (f1, f2, 7, f4, f5, f6, f7, f8, f9, f10, f11, f12, f13, f14, a1, a2, a3, a4, a5, a6, a7, a8, a9, a10, a11, a12, a13, a14, a15)) (Kn : acc.length ≠ 8 → ∀ mm', xd_P mm' (acc ++ [w]) → (∀ j, j < 2304 → mm' j = a7 j) → J8 x2 (nI (acc.length + 1)) f1 f2 f3 f4 f5 f6 f7 f8 f9 f10 f11 f12 f13 f14 a1 a2 a3 a4 a5 a6 mm' a8 a9 a10 a11 a12 a13 a14 a15) : wX_readParameterText_137 post J8 2304 x2 (nI acc.length) (nI w) f1 f2 f3 f4 f5 f6 f7 f8 f9 f10 f11 f12 f13 f14 a1 a2 a3 a4 a5 a6 a7 a8 a9 a10 a11 a12 a13 a14 a15 := by
  by_cases h8 : acc.length = 8
  · exact br_t (by rw [h8]; rfl) (K7 h8)
  · have e : (2304 : Int32) + 4 + nI acc.length = nI (2308 + acc.length) := by
      have : (2304 : Int32) + 4 = nI 2308 := by decide
      rw [this, nI_add]
    refine br_f (fun z => h8 ((nI_eq (b := 8) (by omega) (by decide)).mp z)) ⟨by rw [e]; exact vp_in_nI (by omega) (by decide), fun mm' q => nm_r (nI_1 _) ?_⟩
    rw [e, nI_clamp (by omega)] at q
    subst q
    exact Kn h8 _ (xd_P_push hP (by omega)) (fun j hj => pk_un (by omega))
theorem xd_Pfin {mm : Nat → Int32} {n : Nat} {acc : List Nat} (h : xd_P mm acc) : xr_M (upd (upd (upd mm 2304 2) 2305 (nI n)) 2306 (nI acc.length)) 64 (2, n, acc, []) := by
  intro i hi
  show _ = nI (xr_e (2, n, acc, []) i)
  unfold xr_e
  rw [show 64 * 36 + i = 2304 + i from by omega]
  by_cases i2 : i = 2
  · subst i2; rw [pk_us]; rfl
  · rw [pk_un (by omega)]
    by_cases i1 : i = 1
    · subst i1; rw [pk_us]; rfl
    · rw [pk_un (by omega)]
      by_cases i0 : i = 0
      · subst i0; rw [pk_us]; rfl
      · rw [pk_un (by omega), h i hi, if_neg i0, if_neg i1, if_neg i2]
        by_cases i3 : i = 3
        · rw [if_pos i3, if_neg (by omega)]; rfl
        · rw [if_neg i3]
          by_cases i12 : i < 12
          · rw [if_pos i12, if_pos ⟨by omega, i12⟩]
          · rw [if_neg i12, if_neg (by omega)]; rfl
theorem xd_ptL {C : Nat → Nat} {q : (Nat → pm_Mn) × List pm_Sv × Nat × List Nat × List Nat × Nat} (hL : xr_I L) (hC : ∀ a, a < 128 → C a < 8) : ∀ (f n : Nat) (acc : List Nat) (T : pm_T) (mm : Nat → Int32) (N : Nat) (f1 f2 f3 f4 f5 f6 f7 f8 f9 f10 f11 f12 f13 f14 : Int32) (a1 a2 a3 a4 a5 a6 a7 a8 a9 a10 a11 a12 a13 a14 a15 : Nat → Int32), f + acc.length = 9 → f < N → n ≤ acc.length → xr_R L lim (T, C, q) mm ar ast ae au al hc (f1, f2, f3, f4, f5, f6, f7, f8, f9, f10, f11, f12, f13, f14, a1, a2, a3, a4, a5, a6, a7, a8, a9, a10, a11, a12, a13, a14, a15) → pi_I lim (T, C, q) → T.1 = 0 → xd_P mm acc → 0 < f →
    (∀ r T' mm' u', pm_pt C f n acc T = (r, T') → xr_R L lim (T', C, q) mm' ar ast ae au al hc u' → (∀ m, r = some m → xr_M mm' 64 (2, m.1, m.2, [])) → post u') → wX_readParameterText_8 post 2304 N (nI n) (nI acc.length) f1 f2 f3 f4 f5 f6 f7 f8 f9 f10 f11 f12 f13 f14 a1 a2 a3 a4 a5 a6 a7 a8 a9 a10 a11 a12 a13 a14 a15 := by
  intro f
  induction f with
  | zero => intro n acc T mm N f1 f2 f3 f4 f5 f6 f7 f8 f9 f10 f11 f12 f13 f14 a1 a2 a3 a4 a5 a6 a7 a8 a9 a10 a11 a12 a13 a14 a15 _ _ _ _ _ _ _ h; omega
  | succ f ih =>
    intro n acc T mm N f1 f2 f3 f4 f5 f6 f7 f8 f9 f10 f11 f12 f13 f14 a1 a2 a3 a4 a5 a6 a7 a8 a9 a10 a11 a12 a13 a14 a15 hf hN hn hR hI h0 hP _ K
    obtain ⟨N, rfl⟩ : ∃ m, N = m + 1 := ⟨N - 1, by omega⟩
    refine br_f (nI_nlt (a := 8) (b := acc.length) (by omega) (by decide)) ?_
    refine xt_take (e := 3) hL hR hI h0 (by decide) (fun t T1 u1 e1 hR1 => ?_) (fun T1 u1 e1 hR1 => ?_)
    · obtain ⟨p1, p2, p3, p4⟩ := pi_tk hI.1 hC h0 e1
      have hb := xs_tok p1.1.1.2.1 p3
      have hI1 := pi_toI hI p1
      obtain ⟨f1, f2, f3, f4, f5, f6, f7, f8, f9, f10, f11, f12, f13, f14, a1, a2, a3, a4, a5, a6, a7, a8, a9, a10, a11, a12, a13, a14, a15⟩ := u1
      obtain ⟨z1, z2, z3⟩ := xh_st hR1
      subst z2
      refine br_f (xh_n1 (by omega)) (xh_cat (by omega) ?_)
      have hcat : pm_cat t < 8 := by unfold pm_cat; split <;> omega
      by_cases c1 : pm_cat t = 1
      · have e0 : (2304 : Int32) + 0 = nI 2304 := by decide
        have e1' : (2304 : Int32) + 1 = nI 2305 := by decide
        have e2 : (2304 : Int32) + 2 = nI 2306 := by decide
        refine br_t (by rw [c1]; rfl) ⟨by rw [e0]; exact vp_in_nI (by decide) (by decide), fun m1 q1 => ⟨by rw [e1']; exact vp_in_nI (by decide) (by decide), fun m2 q2 => ⟨by rw [e2]; exact vp_in_nI (by decide) (by decide), fun m3 q3 => ?_⟩⟩⟩
        rw [e0, nI_clamp (by decide)] at q1
        rw [e1', nI_clamp (by decide)] at q2
        rw [e2, nI_clamp (by decide)] at q3
        subst q1 q2 q3
        refine K (some (n, acc)) T1 _ _ ?_ (xh_mm hR1 hI1 (fun j hj => by rw [pk_un (by omega), pk_un (by omega), pk_un (by omega)])) (fun m hm => ?_)
        · simp only [pm_pt, e1, if_pos c1]
        · cases hm
          exact xd_Pfin hP
      · refine br_f (fun z => c1 ((nI_eq (b := 1) (by omega) (by decide)).mp z)) ?_
        by_cases c2 : pm_cat t = 2
        · refine br_t (by rw [c2]; rfl) (K none (pm_err 6 T1) _ _ ?_ (xh_err (k := 6) (by decide) hR1) (fun m hm => (nomatch hm)))
          simp only [pm_pt, e1, if_neg c1, if_pos c2]
        · refine br_f (fun z => c2 ((nI_eq (b := 2) (by omega) (by decide)).mp z)) ?_
          by_cases c3 : pm_cat t = 3
          · refine br_t (by rw [c3]; rfl) (nm_r (nI_1 _) ?_)
            refine xt_take (e := 3) hL hR1 hI1 p2 (by decide) (fun v T2 u2 e2 hR2 => ?_) (fun T2 u2 e2 hR2 => ?_)
            · obtain ⟨r1, r2, r3, r4⟩ := pi_tk p1.1 hC p2 e2
              have hb2 := xs_tok r1.1.1.2.1 r3
              have hI2 := pi_toI hI1 r1
              obtain ⟨f1, f2, f3, f4, f5, f6, f7, f8, f9, f10, f11, f12, f13, f14, a1, a2, a3, a4, a5, a6, a7, a8, a9, a10, a11, a12, a13, a14, a15⟩ := u2
              obtain ⟨z1, z2, z3⟩ := xh_st hR2
              subst z2
              refine br_f (xh_n1 (by omega)) ?_
              have e48 : (48 : Int32) + nI (n + 1) = nI (49 + n) := by
                have : (48 : Int32) + nI (n + 1) = nI (48 + (n + 1)) := nI_add 48 _
                rw [this, show 48 + (n + 1) = 49 + n from by omega]
              have e20 : (2048 : Int32) + nI (n + 1) = nI (2049 + n) := by
                have : (2048 : Int32) + nI (n + 1) = nI (2048 + (n + 1)) := nI_add 2048 _
                rw [this, show 2048 + (n + 1) = 2049 + n from by omega]
              have kerr : ¬ pm_chr v = 49 + n → post (f1, f2, 6, f4, f5, f6, f7, f8, f9, f10, f11, f12, f13, f14, a1, a2, a3, a4, a5, a6, a7, a8, a9, a10, a11, a12, a13, a14, a15) := fun hv => by
                refine K none (pm_err 6 T2) _ _ ?_ (xh_err (k := 6) (by decide) hR2) (fun m hm => (nomatch hm))
                simp only [pm_pt, e1, if_neg c1, if_neg c2, if_pos c3, e2, if_neg hv]
              refine xh_chr (by omega) (fun hv => ?_) (fun hv => ?_)
              · have ech : v % 128 = pm_chr v := by unfold pm_chr; rw [if_pos hv]
                have hm := Nat.mod_lt v (show 0 < 128 by decide)
                rw [ech] at hm ⊢
                by_cases hq : pm_chr v = 49 + n
                · refine br_t (by rw [e48, hq]) (nm_r e20 ?_)
                  refine xd_137 (by omega) hP (fun h8 => ?_) (fun h8 mm' w1 w2 => ?_)
                  · refine K none (pm_err 7 T2) _ _ ?_ (xh_err (k := 7) (by decide) hR2) (fun m hm => (nomatch hm))
                    simp only [pm_pt, e1, if_neg c1, if_neg c2, if_pos c3, e2, if_pos hq, if_pos h8]
                  · have := ih (n + 1) (acc ++ [2049 + n]) T2 mm' N _ _ _ _ _ _ _ _ _ _ _ _ _ _ _ _ _ _ _ _ _ _ _ _ _ _ _ _ _ (by rw [List.length_append]; simp only [List.length_cons, List.length_nil]; omega) (by omega) (by rw [List.length_append]; simp only [List.length_cons, List.length_nil]; omega) (xh_mm hR2 hI2 w2) hI2 r2 w1 (by omega) (fun r T' mm2 u3 q1 q2 q3 => K r T' mm2 u3 (by simp only [pm_pt, e1, if_neg c1, if_neg c2, if_pos c3, e2, if_pos hq, if_neg h8]; exact q1) q2 q3)
                    rw [List.length_append] at this
                    exact this
                · refine br_f (fun z => hq ?_) (kerr hq)
                  rw [e48] at z
                  exact (nI_eq (by omega) (by omega)).mp z
              · have ech : pm_chr v = 1000 := by unfold pm_chr; rw [if_neg hv]
                refine br_f (fun z => ?_) (kerr (by omega))
                rw [e48] at z
                exact xh_n1 (by omega) z.symm
            · obtain ⟨f1, f2, f3, f4, f5, f6, f7, f8, f9, f10, f11, f12, f13, f14, a1, a2, a3, a4, a5, a6, a7, a8, a9, a10, a11, a12, a13, a14, a15⟩ := u2
              refine br_t rfl (K none T2 _ _ ?_ hR2 (fun m hm => (nomatch hm)))
              simp only [pm_pt, e1, if_neg c1, if_neg c2, if_pos c3, e2]
          · refine br_f (fun z => c3 ((nI_eq (b := 3) (by omega) (by decide)).mp z)) ?_
            refine xd_137 (by omega) hP (fun h8 => ?_) (fun h8 mm' w1 w2 => ?_)
            · refine K none (pm_err 7 T1) _ _ ?_ (xh_err (k := 7) (by decide) hR1) (fun m hm => (nomatch hm))
              simp only [pm_pt, e1, if_neg c1, if_neg c2, if_neg c3, if_pos h8]
            · have := ih n (acc ++ [t]) T1 mm' N _ _ _ _ _ _ _ _ _ _ _ _ _ _ _ _ _ _ _ _ _ _ _ _ _ _ _ _ _ (by rw [List.length_append]; simp only [List.length_cons, List.length_nil]; omega) (by omega) (by rw [List.length_append]; omega) (xh_mm hR1 hI1 w2) hI1 p2 w1 (by omega) (fun r T' mm2 u3 q1 q2 q3 => K r T' mm2 u3 (by simp only [pm_pt, e1, if_neg c1, if_neg c2, if_neg c3, if_neg h8]; exact q1) q2 q3)
              rw [List.length_append] at this
              exact this
    · obtain ⟨f1, f2, f3, f4, f5, f6, f7, f8, f9, f10, f11, f12, f13, f14, a1, a2, a3, a4, a5, a6, a7, a8, a9, a10, a11, a12, a13, a14, a15⟩ := u1
      refine br_t rfl (K none T1 _ _ ?_ hR1 (fun m hm => (nomatch hm)))
      simp only [pm_pt, e1]
end XF
