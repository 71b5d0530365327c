section XC
variable {L : List Nat} {lim : Nat} {mm ar ast ae : Nat → Int32} {au al hc : Int32} {u : SX} {post : SX → Prop} {f1 f2 f3 f4 f5 f6 f7 f8 f9 f10 f11 f12 f13 f14 : Int32} {a1 a2 a3 a4 a5 a6 a7 a8 a9 a10 a11 a12 a13 a14 a15 : Nat → Int32}
theorem xc_pm {k t : Nat} {M : Nat → pm_Mn} (hk : k ≤ 32) (ht : pi_tok k t) (hM : pi_M k M) : pm_prim M t = 99 ∨ (pm_prim M t < 14 ∧ pm_prim M t ≠ 4 ∧ (pm_mng M t).1 = 1 ∧ pm_prim M t = (pm_mng M t).2.1) := by
  unfold pm_prim pm_mng
  by_cases h : t < 1024
  · rw [if_pos h]; exact Or.inl rfl
  · rw [if_neg h, if_neg h]
    by_cases h1 : (M (t - 1024)).1 = 1
    · rw [if_pos h1]
      refine Or.inr ?_
      rcases hM.2.1 (t - 1024) (pi_id ht hk h).2.2 with z | z | z | z
      · rw [z] at h1; cases h1
      · exact ⟨z.2.1, z.2.2.1, h1, rfl⟩
      · omega
      · omega
    · rw [if_neg h1]; exact Or.inl rfl
theorem xc_pn {t : Nat} {M : Nat → pm_Mn} (h : pm_prim M t = 99) (hv : (pm_mng M t).1 = 1 → (pm_mng M t).2.1 < 14) : ¬ (pm_mng M t).1 = 1 := by
  intro z
  have hv' := hv z
  unfold pm_prim at h
  unfold pm_mng at z hv'
  by_cases hlt : t < 1024
  · rw [if_pos hlt] at z; cases z
  · rw [if_neg hlt] at z hv' h
    rw [if_pos z] at h
    omega
theorem xc_prim {pb : Int32 → Prop} {k t : Nat} {M : Nat → pm_Mn} (hk : k ≤ 32) (ht : pi_tok k t) (hMi : pi_M k M) (hM : xg_MM a7 M) (K0 : pm_prim M t = 99 → pb (-1)) (K1 : pm_prim M t < 14 → pm_prim M t ≠ 4 → pb (nI (pm_prim M t))) : wpX_primitiveOf pb (f1, f2, f3, f4, f5, f6, f7, f8, f9, f10, f11, f12, f13, f14, a1, a2, a3, a4, a5, a6, a7, a8, a9, a10, a11, a12, a13, a14, a15) (nI t) := by
  unfold wpX_primitiveOf
  have hmn := pi_mng hMi hk ht
  have hsm := (xs_small hk (Or.inl hmn)).1 0
  have hs0 : xr_e (pm_mng M t) 0 = (pm_mng M t).1 := rfl
  rw [hs0] at hsm
  refine xh_kind hk ht hM ?_
  rcases xc_pm hk ht hMi with h | ⟨h1, h2, h3, h4⟩
  · have hv : (pm_mng M t).1 = 1 → (pm_mng M t).2.1 < 14 := fun z => by
      rcases hmn with y | y | y | y
      · rw [y] at z; cases z
      · exact y.2.1
      · omega
      · omega
    refine br_f (fun z => xc_pn h hv ((nI_eq (b := 1) (by omega) (by decide)).mp z)) (K0 h)
  · refine br_t (by rw [h3]; rfl) (xh_val hk ht hM ?_)
    rw [← h4]
    exact K1 h1 h2
theorem xc_skipL {post : Int32 → SX → Prop} {C : Nat → Nat} {M : Nat → pm_Mn} {els : Bool} {q : List pm_Sv × Nat × List Nat × List Nat × Nat} (hL : xr_I L) (hC : ∀ a, a < 128 → C a < 8) : ∀ (f nest : Nat) (T : pm_T) (N step : Nat) (f1 f2 f3 f4 f5 f6 f7 f8 f9 f10 f11 f12 f13 f14 : Int32) (a1 a2 a3 a4 a5 a6 a7 a8 a9 a10 a11 a12 a13 a14 a15 : Nat → Int32), pm_len T < f → f < N → step + f ≤ 1000000 → nest + f ≤ 1000000 → xr_R L lim (T, C, M, q) mm ar ast ae au al hc (f1, f2, f3, f4, f5, f6, f7, f8, f9, f10, f11, f12, f13, f14, a1, a2, a3, a4, a5, a6, a7, a8, a9, a10, a11, a12, a13, a14, a15) → pi_I lim (T, C, M, q) → T.1 = 0 →
    (∀ T' u', pm_skip C M els f nest T = (99, T') → xr_R L lim (T', C, M, q) mm ar ast ae au al hc u' → post (-1) u') → (∀ p T' u', p < 14 → pm_skip C M els f nest T = (p, T') → xr_R L lim (T', C, M, q) mm ar ast ae au al hc u' → post (nI p) u') → wX_skipBranch_4 post (xa_b els) N (nI nest) (nI step) f1 f2 f3 f4 f5 f6 f7 f8 f9 f10 f11 f12 f13 f14 a1 a2 a3 a4 a5 a6 a7 a8 a9 a10 a11 a12 a13 a14 a15 := by
  intro f
  induction f with
  | zero => intro nest T N step f1 f2 f3 f4 f5 f6 f7 f8 f9 f10 f11 f12 f13 f14 a1 a2 a3 a4 a5 a6 a7 a8 a9 a10 a11 a12 a13 a14 a15 h; omega
  | succ f ih =>
    intro nest T N step f1 f2 f3 f4 f5 f6 f7 f8 f9 f10 f11 f12 f13 f14 a1 a2 a3 a4 a5 a6 a7 a8 a9 a10 a11 a12 a13 a14 a15 hf hN hst hne hR hI h0 K0 K1
    obtain ⟨N, rfl⟩ : ∃ m, N = m + 1 := ⟨N - 1, by omega⟩
    refine br_f (nI_ge (b := 1000000) (by omega) (by decide)) ?_
    refine xt_take (e := 3) hL hR hI h0 (by decide) (fun t T1 u1 e1 hR1 => ?_) (fun T1 u1 e1 hR1 => ?_)
    · obtain ⟨p1, p2, p3, p4⟩ := pi_tk hI.1 hC h0 e1
      have p4' : pm_len T1 + 1 ≤ pm_len T := p4
      have hb := xs_tok p1.1.1.2.1 p3
      have hI1 := pi_toI hI p1
      have hMi : pi_M T1.2.2.2.length M := by obtain ⟨S, d, c, o, x⟩ := q; exact hI1.2.2.1
      obtain ⟨f1, f2, f3, f4, f5, f6, f7, f8, f9, f10, f11, f12, f13, f14, a1, a2, a3, a4, a5, a6, a7, a8, a9, a10, a11, a12, a13, a14, a15⟩ := u1
      obtain ⟨z1, z2, z3⟩ := xh_st hR1
      subst z2
      refine br_f (xh_n1 (by omega)) ?_
      have hM := xh_MM hR1
      -- the rest of the turn, for the primitive as the class has it
      have h78 : ∀ pv : Int32, (∀ p', p' < 14 → (pv = nI p' ↔ pm_prim M t = p')) → ¬ (nest = 0 ∧ (pm_prim M t = 13 ∨ (pm_prim M t = 12 ∧ els = true))) → ((pv < 9) ↔ ¬ (9 ≤ pm_prim M t ∧ pm_prim M t < 14)) → ((11 < pv) ↔ (11 < pm_prim M t ∧ pm_prim M t < 14)) → wX_skipBranch_58 post (wX_skipBranch_4 post (xa_b els) N) (xa_b els) (nI nest) (nI step) pv f1 f2 f3 f4 f5 f6 f7 f8 f9 f10 f11 f12 f13 f14 a1 a2 a3 a4 a5 a6 a7 a8 a9 a10 a11 a12 a13 a14 a15 := fun pv hp hn h9 h11 => by
        have go : ∀ nest', nest' + f ≤ 1000000 → pm_skip C M els (f + 1) nest T = pm_skip C M els f nest' T1 → wX_skipBranch_4 post (xa_b els) N (nI nest') (nI (step + 1)) f1 f2 f3 f4 f5 f6 f7 f8 f9 f10 f11 f12 f13 f14 a1 a2 a3 a4 a5 a6 a7 a8 a9 a10 a11 a12 a13 a14 a15 := fun nest' hn' he => by
          refine ih nest' T1 N (step + 1) _ _ _ _ _ _ _ _ _ _ _ _ _ _ _ _ _ _ _ _ _ _ _ _ _ _ _ _ _ (by omega) (by omega) (by omega) hn' hR1 hI1 p2 (fun T' u' q1 q2 => K0 T' u' (by rw [he]; exact q1) q2) (fun p T' u' q0 q1 q2 => K1 p T' u' q0 (by rw [he]; exact q1) q2)
        have k78 : ¬ (9 ≤ pm_prim M t ∧ pm_prim M t ≤ 11) → wX_skipBranch_78 post (wX_skipBranch_4 post (xa_b els) N) (xa_b els) (nI nest) (nI step) pv f1 f2 f3 f4 f5 f6 f7 f8 f9 f10 f11 f12 f13 f14 a1 a2 a3 a4 a5 a6 a7 a8 a9 a10 a11 a12 a13 a14 a15 := fun h => by
          by_cases h13 : pm_prim M t = 13
          · have hpos : 0 < nest := by
              rcases Nat.eq_zero_or_pos nest with z | z
              · exact absurd ⟨z, Or.inl h13⟩ hn
              · exact z
            have e : nI nest + (-1) = nI (nest - 1) := by rw [xg_m1]; exact pk_sub (b := 1) hpos
            refine br_t ((hp 13 (by decide)).mpr h13) (nm_r e (nm_r (nI_1 _) (go _ (by omega) ?_)))
            simp only [pm_skip, e1, if_neg hn, if_neg h, if_pos h13]
          · refine br_f (fun z => h13 ((hp 13 (by decide)).mp z)) (nm_r (nI_1 _) (go _ (by omega) ?_))
            simp only [pm_skip, e1, if_neg hn, if_neg h, if_neg h13]
        by_cases c9 : pv < 9
        · exact br_t c9 (k78 (fun z => (h9.mp c9) ⟨z.1, by omega⟩))
        · have g9 : 9 ≤ pm_prim M t ∧ pm_prim M t < 14 := Classical.byContradiction fun z => c9 (h9.mpr z)
          refine br_f c9 ?_
          by_cases c11 : 11 < pv
          · exact br_t c11 (k78 (fun z => by have := (h11.mp c11).1; omega))
          · have g11 : pm_prim M t ≤ 11 := Nat.not_lt.mp fun z => c11 (h11.mpr ⟨z, g9.2⟩)
            refine br_f c11 (nm_r (nI_1 _) (nm_r (nI_1 _) (go _ (by omega) ?_)))
            simp only [pm_skip, e1, if_neg hn, if_pos (show 9 ≤ pm_prim M t ∧ pm_prim M t ≤ 11 from ⟨g9.1, g11⟩)]
      have hb0 : xa_b els = 0 ↔ ¬ els = true := by cases els <;> simp [xa_b] <;> decide
      refine xc_prim p1.1.1.2.1 p3 hMi hM (fun hp => ?_) (fun hp hp4 => ?_)
      · have k := h78 (-1) (fun p' hp' => ⟨fun z => absurd z.symm (xh_n1 (by omega)), fun z => by omega⟩) (fun z => by omega) ⟨fun _ z => by omega, fun _ => by decide⟩ ⟨fun z => absurd z (by decide), fun z => by omega⟩
        by_cases hz : nest = 0
        · exact br_t (by rw [hz]; rfl) (br_f (by decide) (br_f (by decide) k))
        · exact br_f (nI_ne0 (by omega) (by omega)) k
      · have hpi : ∀ p', p' < 14 → (nI (pm_prim M t) = nI p' ↔ pm_prim M t = p') := fun p' hp' => nI_eq (by omega) (by omega)
        have k : ¬ (nest = 0 ∧ (pm_prim M t = 13 ∨ (pm_prim M t = 12 ∧ els = true))) → _ := fun hn => h78 (nI (pm_prim M t)) hpi hn (by rw [show (9 : Int32) = nI 9 from rfl, nI_ltI (by omega) (by decide)]; omega) (by rw [show (11 : Int32) = nI 11 from rfl, nI_ltI (by decide) (by omega)]; omega)
        have fin : nest = 0 ∧ (pm_prim M t = 13 ∨ (pm_prim M t = 12 ∧ els = true)) → post (nI (pm_prim M t)) (f1, f2, f3, f4, f5, f6, f7, f8, f9, f10, f11, f12, f13, f14, a1, a2, a3, a4, a5, a6, a7, a8, a9, a10, a11, a12, a13, a14, a15) := fun hn => by
          refine K1 (pm_prim M t) T1 _ hp ?_ hR1
          simp only [pm_skip, e1, if_pos hn]
        by_cases hz : nest = 0
        · refine br_t (by rw [hz]; rfl) ?_
          by_cases h13 : pm_prim M t = 13
          · exact br_t ((hpi 13 (by decide)).mpr h13) (fin ⟨hz, Or.inl h13⟩)
          · refine br_f (fun z => h13 ((hpi 13 (by decide)).mp z)) ?_
            by_cases h12 : pm_prim M t = 12
            · refine br_t ((hpi 12 (by decide)).mpr h12) ?_
              by_cases hel : els = true
              · exact br_f (fun z => (hb0.mp z) hel) (fin ⟨hz, Or.inr ⟨h12, hel⟩⟩)
              · exact br_t (hb0.mpr hel) (k (fun z => z.2.elim h13 (fun y => hel y.2)))
            · exact br_f (fun z => h12 ((hpi 12 (by decide)).mp z)) (k (fun z => z.2.elim h13 (fun y => h12 y.1)))
        · exact br_f (nI_ne0 (by omega) (by omega)) (k (fun z => hz z.1))
    · obtain ⟨f1, f2, f3, f4, f5, f6, f7, f8, f9, f10, f11, f12, f13, f14, a1, a2, a3, a4, a5, a6, a7, a8, a9, a10, a11, a12, a13, a14, a15⟩ := u1
      refine br_t rfl (K0 T1 _ ?_ hR1)
      simp only [pm_skip, e1]
theorem xc_skip {post : Int32 → SX → Prop} {T : pm_T} {C : Nat → Nat} {M : Nat → pm_Mn} {els : Bool} {q : List pm_Sv × Nat × List Nat × List Nat × Nat} (hL : xr_I L) (hR : xr_R L lim (T, C, M, q) mm ar ast ae au al hc u) (hI : pi_I lim (T, C, M, q)) (h0 : T.1 = 0)
    (K0 : ∀ T' u', pm_skip C M els (pm_len T + 1) 0 T = (99, T') → xr_R L lim (T', C, M, q) mm ar ast ae au al hc u' → post (-1) u') (K1 : ∀ p T' u', p < 14 → pm_skip C M els (pm_len T + 1) 0 T = (p, T') → xr_R L lim (T', C, M, q) mm ar ast ae au al hc u' → post (nI p) u') : wpX_skipBranch post u (xa_b els) := by
  have hC : ∀ a, a < 128 → C a < 8 := by obtain ⟨S, d, c, o, x⟩ := q; exact hI.2.1
  have hl : pm_len T ≤ 512 := by
    have h1 : T.2.1.length ≤ 256 := hI.1.2.2.1
    have h2 : T.2.2.1.length ≤ 256 := hI.1.2.2.2.1
    show T.2.1.length + T.2.2.1.length ≤ 512
    omega
  obtain ⟨f1, f2, f3, f4, f5, f6, f7, f8, f9, f10, f11, f12, f13, f14, a1, a2, a3, a4, a5, a6, a7, a8, a9, a10, a11, a12, a13, a14, a15⟩ := u
  exact ⟨pm_len T + 2, xc_skipL hL hC (pm_len T + 1) 0 T (pm_len T + 2) 0 _ _ _ _ _ _ _ _ _ _ _ _ _ _ _ _ _ _ _ _ _ _ _ _ _ _ _ _ _ (by omega) (by omega) (by omega) (by omega) hR hI h0 K0 K1⟩
end XC
