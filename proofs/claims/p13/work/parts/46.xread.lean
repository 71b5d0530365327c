section XD
variable {L : List Nat} {lim : Nat} {mm ar ast ae : Nat → Int32} {au al hc : Int32} {u : SX} {post : SX → Prop} {f1 f2 f3 f4 f5 f6 f7 f8 f9 f10 f11 f12 f13 f14 : Int32} {a1 a2 a3 a4 a5 a6 a7 a8 a9 a10 a11 a12 a13 a14 a15 : Nat → Int32}
theorem xh_n1 {t : Nat} (h : t < 2 ^ 31) : ¬ nI t = -1 := by
  intro z
  have e := congrArg Int32.toInt z
  rw [nI_toInt h] at e
  have e2 : (-1 : Int32).toInt = -1 := by decide
  omega
theorem xh_st {P : pm_P} (h : xr_R L lim P mm ar ast ae au al hc (f1, f2, f3, f4, f5, f6, f7, f8, f9, f10, f11, f12, f13, f14, a1, a2, a3, a4, a5, a6, a7, a8, a9, a10, a11, a12, a13, a14, a15)) : f3 = nI P.1.1 ∧ a7 = mm ∧ f12 = au ∧ f13 = al ∧ f14 = hc ∧ a12 = ar ∧ a13 = ast ∧ a14 = ae := by
  obtain ⟨⟨st, rest, ps, ns⟩, C, M, S, d, c, o, x⟩ := P
  obtain ⟨ip, pc, inp, out, pend, cat, nch, nl, si, sl, sv, cd, held, e, h1⟩ := h
  cases e
  exact ⟨rfl, rfl, rfl, rfl, rfl, rfl, rfl, rfl⟩
theorem xh_lt {P : pm_P} (h : xr_R L lim P mm ar ast ae au al hc u) : P.1.1 < 100 := by
  obtain ⟨⟨st, rest, ps, ns⟩, C, M, S, d, c, o, x⟩ := P
  obtain ⟨ip, pc, inp, out, pend, cat, nch, nl, si, sl, sv, cd, held, e, h1, hs, h2⟩ := h
  exact hs.1
/-- the cells to work in may change -/
theorem xh_mm {P : pm_P} {mm' : Nat → Int32} (h : xr_R L lim P mm ar ast ae au al hc (f1, f2, f3, f4, f5, f6, f7, f8, f9, f10, f11, f12, f13, f14, a1, a2, a3, a4, a5, a6, a7, a8, a9, a10, a11, a12, a13, a14, a15)) (hI : pi_I lim P) (hm : ∀ j, j < 2304 → mm' j = mm j) : xr_R L lim P mm' ar ast ae au al hc (f1, f2, f3, f4, f5, f6, f7, f8, f9, f10, f11, f12, f13, f14, a1, a2, a3, a4, a5, a6, mm', a8, a9, a10, a11, a12, a13, a14, a15) := by
  obtain ⟨⟨st, rest, ps, ns⟩, C, M, S, d, c, o, x⟩ := P
  obtain ⟨ip, pc, inp, out, pend, cat, nch, nl, si, sl, sv, cd, held, e, h1, hs, h2, h3, h4, h5, h6, h7⟩ := h
  obtain ⟨hT, i1, i2, i3, i4⟩ := hI
  cases e
  exact ⟨_, _, _, _, _, _, _, _, _, _, _, _, _, rfl, h1, hs, h2, h3, h4, fun i hi j hj => (hm _ (by omega)).trans (h5 i hi j hj), xr_V_mm S (fun j g1 g2 => hm j (by omega)) h6, h7⟩
theorem xh_MM {P : pm_P} (h : xr_R L lim P mm ar ast ae au al hc u) : xg_MM mm P.2.2.1 := by
  obtain ⟨⟨st, rest, ps, ns⟩, C, M, S, d, c, o, x⟩ := P
  obtain ⟨ip, pc, inp, out, pend, cat, nch, nl, si, sl, sv, cd, held, e, h1, hs, h2, h3, h4, h5, h6, h7⟩ := h
  exact h5
theorem xh_cat {pb : Int32 → Prop} {t : Nat} (ht : t < 2 ^ 31) (K : pb (nI (pm_cat t))) : wpX_categoryOf pb (f1, f2, f3, f4, f5, f6, f7, f8, f9, f10, f11, f12, f13, f14, a1, a2, a3, a4, a5, a6, a7, a8, a9, a10, a11, a12, a13, a14, a15) (nI t) := by
  unfold pm_cat at K
  by_cases h : t < 1024
  · rw [if_pos h] at K
    refine br_f (nI_ge (b := 1024) h (by decide)) ⟨by decide, ?_⟩
    have e : nI t / 128 = nI (t / 128) := pk_div (d := 128) ht (by decide) (by decide)
    rw [e]
    exact K
  · rw [if_neg h] at K
    exact br_t (nI_le (a := 1024) (by omega) ht) K
theorem xh_chr {pb : Int32 → Prop} {t : Nat} (ht : t < 2 ^ 31) (K1 : t < 1024 → pb (nI (t % 128))) (K2 : ¬ t < 1024 → pb (-1)) : wpX_charOf pb (f1, f2, f3, f4, f5, f6, f7, f8, f9, f10, f11, f12, f13, f14, a1, a2, a3, a4, a5, a6, a7, a8, a9, a10, a11, a12, a13, a14, a15) (nI t) := by
  by_cases h : t < 1024
  · refine br_f (nI_ge (b := 1024) h (by decide)) ⟨by decide, ?_⟩
    have e : nI t - nI t / 128 * 128 = nI (t % 128) := pk_rem (d := 128) ht (by decide) (by decide)
    rw [e]
    exact K1 h
  · exact br_t (nI_le (a := 1024) (by omega) ht) (K2 h)
theorem xh_kind {pb : Int32 → Prop} {M : Nat → pm_Mn} {k t : Nat} (hk : k ≤ 32) (ht : pi_tok k t) (hM : xg_MM a7 M) (K : pb (nI (pm_mng M t).1)) : wpX_kindOf pb (f1, f2, f3, f4, f5, f6, f7, f8, f9, f10, f11, f12, f13, f14, a1, a2, a3, a4, a5, a6, a7, a8, a9, a10, a11, a12, a13, a14, a15) (nI t) := by
  have hb := xs_tok hk ht
  unfold pm_mng at K
  by_cases h : t < 1024
  · rw [if_pos h] at K
    exact br_f (nI_ge (b := 1024) h (by decide)) K
  · rw [if_neg h] at K
    obtain ⟨q1, q2, q3⟩ := pi_id ht hk h
    have e : (nI t - 1024) * 36 + 0 = nI ((t - 1024) * 36 + 0) := by
      have : nI t - 1024 = nI (t - 1024) := pk_sub (b := 1024) (by omega)
      rw [this]; exact gt_36 _ 0
    refine br_t (nI_le (a := 1024) (by omega) (by omega)) ⟨by rw [e]; exact vp_in_nI (by omega) (by decide), ?_⟩
    rw [e, nI_clamp (by omega), hM _ q2 0 (by decide)]
    exact K
theorem xh_val {pb : Int32 → Prop} {M : Nat → pm_Mn} {k t : Nat} (hk : k ≤ 32) (ht : pi_tok k t) (hM : xg_MM a7 M) (K : pb (nI (pm_mng M t).2.1)) : wpX_valueOf pb (f1, f2, f3, f4, f5, f6, f7, f8, f9, f10, f11, f12, f13, f14, a1, a2, a3, a4, a5, a6, a7, a8, a9, a10, a11, a12, a13, a14, a15) (nI t) := by
  have hb := xs_tok hk ht
  unfold pm_mng at K
  by_cases h : t < 1024
  · rw [if_pos h] at K
    exact br_f (nI_ge (b := 1024) h (by decide)) K
  · rw [if_neg h] at K
    obtain ⟨q1, q2, q3⟩ := pi_id ht hk h
    have e : (nI t - 1024) * 36 + 1 = nI ((t - 1024) * 36 + 1) := by
      have : nI t - 1024 = nI (t - 1024) := pk_sub (b := 1024) (by omega)
      rw [this]; exact gt_36 _ 1
    refine br_t (nI_le (a := 1024) (by omega) (by omega)) ⟨by rw [e]; exact vp_in_nI (by omega) (by decide), ?_⟩
    rw [e, nI_clamp (by omega), hM _ q2 1 (by decide)]
    exact K
theorem xd_let {g : Bool} {P : pm_P} (hL : xr_I L) (hR : xr_R L lim P mm ar ast ae au al hc u) (hI : pi_I lim P) (h0 : P.1.1 = 0) (K : ∀ mm' u', xr_R L lim (pm_let g P) mm' ar ast ae au al hc u' → post u') : wpX_letMeaning post u (xa_b g) := by
  obtain ⟨T, C, M, q⟩ := P
  have hC : ∀ a, a < 128 → C a < 8 := by obtain ⟨S, d, c, o, x⟩ := q; exact hI.2.1
  obtain ⟨f1, f2, f3, f4, f5, f6, f7, f8, f9, f10, f11, f12, f13, f14, a1, a2, a3, a4, a5, a6, a7, a8, a9, a10, a11, a12, a13, a14, a15⟩ := u
  unfold wpX_letMeaning
  refine xt_take (e := 3) hL hR hI h0 (by decide) (fun t T1 u1 e1 hR1 => ?_) (fun T1 u1 e1 hR1 => ?_)
  · obtain ⟨p1, p2, p3, p4⟩ := pi_tk hI.1 hC h0 e1
    have hb := xs_tok p1.1.1.2.1 p3
    have hI1 := pi_toI hI p1
    obtain ⟨f1, f2, f3, f4, f5, f6, f7, f8, f9, f10, f11, f12, f13, f14, a1, a2, a3, a4, a5, a6, a7, a8, a9, a10, a11, a12, a13, a14, a15⟩ := u1
    refine br_f (xh_n1 (by omega)) ?_
    by_cases ht : t < 1024
    · refine br_f (nI_ge (b := 1024) ht (by decide)) (K mm _ ?_)
      simp only [pm_let, e1, if_pos ht]
      exact xh_err (k := 6) (by decide) hR1
    · refine br_t (nI_le (a := 1024) (by omega) (by omega)) ?_
      refine xt_take (e := 3) hL hR1 hI1 p2 (by decide) (fun v T2 u2 e2 hR2 => ?_) (fun T2 u2 e2 hR2 => ?_)
      · obtain ⟨r1, r2, r3, r4⟩ := pi_tk p1.1 hC p2 e2
        have hb2 := xs_tok r1.1.1.2.1 r3
        have hI2 := pi_toI hI1 r1
        obtain ⟨k1, k2, k3⟩ := pi_id p3 p1.1.1.2.1 ht
        obtain ⟨f1, f2, f3, f4, f5, f6, f7, f8, f9, f10, f11, f12, f13, f14, a1, a2, a3, a4, a5, a6, a7, a8, a9, a10, a11, a12, a13, a14, a15⟩ := u2
        refine br_f (xh_n1 (by omega)) ?_
        obtain ⟨z1, z2, z3⟩ := xh_st hR2
        subst z2
        refine xs_load (s := 64) (M := M) (by decide) (by decide) r1.1.1.2.1 r3 (xh_MM hR2) fun mm' w1 w2 => ?_
        have e : nI t - 1024 = nI (t - 1024) := pk_sub (b := 1024) (by omega)
        rw [e]
        refine xa_asgM (g := g) (m := pm_mng M v) (xh_mm hR2 hI2 (fun j hj => w2 j (by omega))) hI2 k2 w1 fun mm2 u3 hR3 => ?_
        obtain ⟨f1, f2, f3, f4, f5, f6, f7, f8, f9, f10, f11, f12, f13, f14, a1, a2, a3, a4, a5, a6, a7, a8, a9, a10, a11, a12, a13, a14, a15⟩ := u3
        refine K mm2 _ ?_
        simp only [pm_let, e1, if_neg ht, e2]
        exact hR3
      · obtain ⟨f1, f2, f3, f4, f5, f6, f7, f8, f9, f10, f11, f12, f13, f14, a1, a2, a3, a4, a5, a6, a7, a8, a9, a10, a11, a12, a13, a14, a15⟩ := u2
        refine br_t rfl (K mm _ ?_)
        simp only [pm_let, e1, if_neg ht, e2]
        exact hR2
  · obtain ⟨f1, f2, f3, f4, f5, f6, f7, f8, f9, f10, f11, f12, f13, f14, a1, a2, a3, a4, a5, a6, a7, a8, a9, a10, a11, a12, a13, a14, a15⟩ := u1
    refine br_t rfl (K mm _ ?_)
    simp only [pm_let, e1]
    exact hR1
theorem xd_cm {pb : Int32 → Prop} {ns : List (List Nat)} {t : Nat} (hn : pi_ns ns) (ht : pi_tok ns.length t) (hN : xr_N a6 a5 ns) (K1 : pm_cm ns t = 1000 → pb (-1)) (K2 : ¬ pm_cm ns t = 1000 → pb (nI (pm_cm ns t))) : wpX_charMeantBy pb (f1, f2, f3, f4, f5, f6, f7, f8, f9, f10, f11, f12, f13, f14, a1, a2, a3, a4, a5, a6, a7, a8, a9, a10, a11, a12, a13, a14, a15) (nI t) := by
  have hb := xs_tok hn.2.1 ht
  unfold pm_cm at K1 K2
  by_cases h : t < 1024
  · rw [if_pos h] at K1 K2
    refine br_f (nI_ge (b := 1024) h (by decide)) ?_
    refine xh_chr (by omega) (fun _ => K2 ?_) (fun z => absurd h z)
    have := Nat.mod_lt t (show 0 < 128 by decide)
    omega
  · rw [if_neg h] at K1 K2
    obtain ⟨q1, q2, q3⟩ := pi_id ht hn.2.1 h
    have e : nI t - 1024 = nI (t - 1024) := pk_sub (b := 1024) (by omega)
    have e2 : nI (t - 1024) * 11 = nI ((t - 1024) * 11) := pk_mul _ 11
    obtain ⟨x1, x2⟩ := hN (t - 1024) q1
    obtain ⟨b1, b2⟩ := xn_bd hn.2.2.2 q1
    refine br_t (nI_le (a := 1024) (by omega) (by omega)) (nm_r e ⟨vp_in_nI q2 (by decide), ?_⟩)
    rw [nI_clamp (by omega), x1]
    rcases hw : ns.getD (t - 1024) [] with _ | ⟨c, _ | ⟨c2, w⟩⟩
    · rw [hw] at K1
      exact br_f (by decide) (K1 rfl)
    · rw [hw] at K2 x2 b2
      have hc := b2 c List.mem_cons_self
      refine br_t rfl ⟨by rw [e2]; exact vp_in_nI (by omega) (by decide), ?_⟩
      rw [e2, nI_clamp (by omega)]
      have := x2 0 Nat.zero_lt_one
      rw [Nat.add_zero] at this
      rw [this]
      exact K2 (by show ¬ c = 1000; omega)
    · rw [hw] at K1 b1
      refine br_f (fun z => ?_) (K1 rfl)
      have b1' : w.length + 1 + 1 ≤ 11 := b1
      have := (nI_eq (a := w.length + 1 + 1) (b := 1) (by omega) (by decide)).mp z
      omega
theorem xh_N {T : pm_T} {Q : pm_Q} (h : xr_R L lim (T, Q) mm ar ast ae au al hc (f1, f2, f3, f4, f5, f6, f7, f8, f9, f10, f11, f12, f13, f14, a1, a2, a3, a4, a5, a6, a7, a8, a9, a10, a11, a12, a13, a14, a15)) : xr_N a6 a5 T.2.2.2 := by
  obtain ⟨st, rest, ps, ns⟩ := T
  obtain ⟨C, M, S, d, c, o, x⟩ := Q
  obtain ⟨ip, pc, inp, out, pend, cat, nch, nl, si, sl, sv, cd, held, e, h1, hs, h2, h3, h4, h5, h6, h7⟩ := h
  cases e
  exact h4
theorem xd_catc {g : Bool} {P : pm_P} (hL : xr_I L) (hR : xr_R L lim P mm ar ast ae au al hc u) (hI : pi_I lim P) (h0 : P.1.1 = 0) (K : ∀ mm' u', xr_R L lim (pm_catc g P) mm' ar ast ae au al hc u' → post u') : wpX_changeCatcode post u (xa_b g) := by
  obtain ⟨T, C, q⟩ := P
  have hC : ∀ a, a < 128 → C a < 8 := by obtain ⟨M, S, d, c, o, x⟩ := q; exact hI.2.1
  obtain ⟨f1, f2, f3, f4, f5, f6, f7, f8, f9, f10, f11, f12, f13, f14, a1, a2, a3, a4, a5, a6, a7, a8, a9, a10, a11, a12, a13, a14, a15⟩ := u
  unfold wpX_changeCatcode
  refine xt_take (e := 3) hL hR hI h0 (by decide) (fun t T1 u1 e1 hR1 => ?_) (fun T1 u1 e1 hR1 => ?_)
  · obtain ⟨p1, p2, p3, p4⟩ := pi_tk hI.1 hC h0 e1
    have hb := xs_tok p1.1.1.2.1 p3
    have hI1 := pi_toI hI p1
    obtain ⟨f1, f2, f3, f4, f5, f6, f7, f8, f9, f10, f11, f12, f13, f14, a1, a2, a3, a4, a5, a6, a7, a8, a9, a10, a11, a12, a13, a14, a15⟩ := u1
    refine br_f (xh_n1 (by omega)) ?_
    refine xd_cm (ns := T1.2.2.2) p1.1.1 p3 (xh_N hR1) (fun hz => ?_) (fun hz => ?_)
    · refine br_t rfl (K mm _ ?_)
      simp only [pm_catc, e1, if_pos hz]
      exact xh_err (k := 14) (by decide) hR1
    · have hc := pi_cm p1.1.1 hz
      refine br_f (xh_n1 (by omega)) ?_
      refine xt_take (e := 3) hL hR1 hI1 p2 (by decide) (fun v T2 u2 e2 hR2 => ?_) (fun T2 u2 e2 hR2 => ?_)
      · obtain ⟨r1, r2, r3, r4⟩ := pi_tk p1.1 hC p2 e2
        have hb2 := xs_tok r1.1.1.2.1 r3
        have hI2 := pi_toI hI1 r1
        obtain ⟨f1, f2, f3, f4, f5, f6, f7, f8, f9, f10, f11, f12, f13, f14, a1, a2, a3, a4, a5, a6, a7, a8, a9, a10, a11, a12, a13, a14, a15⟩ := u2
        refine br_f (xh_n1 (by omega)) ?_
        have kerr : ¬ (48 ≤ pm_chr v ∧ pm_chr v ≤ 55) → post (f1, f2, 14, f4, f5, f6, f7, f8, f9, f10, f11, f12, f13, f14, a1, a2, a3, a4, a5, a6, a7, a8, a9, a10, a11, a12, a13, a14, a15) := fun hn => by
          refine K mm _ ?_
          simp only [pm_catc, e1, if_neg hz, e2, if_neg hn]
          exact xh_err (k := 14) (by decide) hR2
        refine xh_chr (by omega) (fun hv => ?_) (fun hv => ?_)
        · have ech : pm_chr v = v % 128 := by unfold pm_chr; rw [if_pos hv]
          rw [← ech]
          have hm : pm_chr v < 128 := by rw [ech]; exact Nat.mod_lt v (show 0 < 128 by decide)
          by_cases h48 : 48 ≤ pm_chr v
          · have e48 : nI (pm_chr v) - 48 = nI (pm_chr v - 48) := pk_sub (b := 48) h48
            refine nm_r e48 (br_f (nI_pos (by omega)) ?_)
            by_cases h55 : pm_chr v ≤ 55
            · refine br_t (nI_le (b := 7) (by omega) (by decide)) ?_
              refine xa_asgC (g := g) (m := pm_m0) hR2 hI2 hc (by omega) fun mm2 u3 hR3 => ?_
              obtain ⟨f1, f2, f3, f4, f5, f6, f7, f8, f9, f10, f11, f12, f13, f14, a1, a2, a3, a4, a5, a6, a7, a8, a9, a10, a11, a12, a13, a14, a15⟩ := u3
              refine K mm2 _ ?_
              simp only [pm_catc, e1, if_neg hz, e2, if_pos (show 48 ≤ pm_chr v ∧ pm_chr v ≤ 55 from ⟨h48, h55⟩)]
              exact hR3
            · exact br_f (nI_ge (a := 7) (by omega) (by omega)) (kerr (fun z => h55 z.2))
          · exact nm_e (br_t (pk_sneg (b := 48) (by decide) (by omega)) (kerr (fun z => h48 z.1)))
        · have ech : pm_chr v = 1000 := by unfold pm_chr; rw [if_neg hv]
          exact nm_e (br_t (by decide) (kerr (fun z => by omega)))
      · obtain ⟨f1, f2, f3, f4, f5, f6, f7, f8, f9, f10, f11, f12, f13, f14, a1, a2, a3, a4, a5, a6, a7, a8, a9, a10, a11, a12, a13, a14, a15⟩ := u2
        refine br_t rfl (K mm _ ?_)
        simp only [pm_catc, e1, if_neg hz, e2]
        exact hR2
  · obtain ⟨f1, f2, f3, f4, f5, f6, f7, f8, f9, f10, f11, f12, f13, f14, a1, a2, a3, a4, a5, a6, a7, a8, a9, a10, a11, a12, a13, a14, a15⟩ := u1
    refine br_t rfl (K mm _ ?_)
    simp only [pm_catc, e1]
    exact hR1
end XD
