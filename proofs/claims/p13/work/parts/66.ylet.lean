section YL
variable {L : List Nat} {lim : Nat} {w : yr_W} {ar ast aln : Nat → Int32} {rn : Int32} {v : SY} {post : SY → Prop} {F1 F2 F3 F4 F5 F6 F7 F8 F9 F10 F11 F12 : Int32} {A1 A2 A3 A4 A5 A6 A7 A8 A9 A10 A11 A12 A13 A14 A15 A16 A17 A18 A19 : Nat → Int32}
theorem yl_w {w' : yr_W} {P : pm_P} (hR : yr_R L lim P w ar ast aln rn (F1, F2, F3, F4, F5, F6, F7, F8, F9, F10, F11, F12, A1, A2, A3, A4, A5, A6, A7, A8, A9, A10, A11, A12, A13, A14, A15, A16, A17, A18, A19)) (hI : pi_I lim P) (hM : ∀ s m, s < 64 → m.2.2.1.length ≤ 8 → m.2.2.2.length ≤ 24 → yr_M w s m → yr_M w' s m) (hv : ∀ s, s < 64 → w'.2.1 s = w.2.1 s) : yr_R L lim P w' ar ast aln rn (F1, F2, F3, F4, F5, F6, F7, F8, F9, F10, F11, F12, A1, A2, A3, A4, A5, A6, w'.1, w'.2.1, w'.2.2.1, w'.2.2.2.1, w'.2.2.2.2.1, w'.2.2.2.2.2, A13, A14, A15, A16, A17, A18, A19) := by
  obtain ⟨⟨st, rest, ps, ns⟩, C, M, S, d, c, o, x⟩ := P
  obtain ⟨ip, pc, inp, cat, pend, out, nl, nch, si, sl, cd, stk, e, h1, hs, h2, h3, h4, h5, h6, h7⟩ := hR
  obtain ⟨hT, i1, i2, i3, i4, i5, i6, i7⟩ := hI
  have hk32 : ns.length ≤ 32 := hT.1.2.1
  have hsM := yd_sMi hk32 i2
  cases e
  exact ⟨_, _, _, _, _, _, _, _, _, _, _, _, rfl, h1, hs, h2, h3, h4, fun j hj => hM j _ (by omega) (hsM j).1 (hsM j).2 (h5 j hj), yd_V_fr S (fun j _ => ⟨rfl, rfl⟩) (fun j m hj h8 h24 g => hM _ m (by omega) h8 h24 g) (fun j hj => hv _ (by omega)) (yd_sz hk32 i4) h6, h7⟩
theorem yl_tab {P : pm_P} (h : yr_R L lim P w ar ast aln rn (F1, F2, F3, F4, F5, F6, F7, F8, F9, F10, F11, F12, A1, A2, A3, A4, A5, A6, A7, A8, A9, A10, A11, A12, A13, A14, A15, A16, A17, A18, A19)) : A7 = w.1 ∧ A8 = w.2.1 ∧ A9 = w.2.2.1 ∧ A10 = w.2.2.2.1 ∧ A11 = w.2.2.2.2.1 ∧ A12 = w.2.2.2.2.2 ∧ A16 = ar ∧ A17 = ast ∧ A18 = aln := by
  obtain ⟨⟨st, rest, ps, ns⟩, C, M, S, d, c, o, x⟩ := P
  obtain ⟨ip, pc, inp, cat, pend, out, nl, nch, si, sl, cd, stk, e, h1⟩ := h
  cases e
  exact ⟨rfl, rfl, rfl, rfl, rfl, rfl, rfl, rfl, rfl⟩
theorem yl_MM {P : pm_P} (h : yr_R L lim P w ar ast aln rn v) : yd_MM w P.2.2.1 := by
  obtain ⟨⟨st, rest, ps, ns⟩, C, M, S, d, c, o, x⟩ := P
  obtain ⟨ip, pc, inp, cat, pend, out, nl, nch, si, sl, cd, stk, e, h1, hs, h2, h3, h4, h5, h6, h7⟩ := h
  exact h5
theorem yl_N {T : pm_T} {Q : pm_Q} (h : yr_R L lim (T, Q) w ar ast aln rn (F1, F2, F3, F4, F5, F6, F7, F8, F9, F10, F11, F12, A1, A2, A3, A4, A5, A6, A7, A8, A9, A10, A11, A12, A13, A14, A15, A16, A17, A18, A19)) : yr_N A5 A6 T.2.2.2 := by
  obtain ⟨st, rest, ps, ns⟩ := T
  obtain ⟨C, M, S, d, c, o, x⟩ := Q
  obtain ⟨ip, pc, inp, cat, pend, out, nl, nch, si, sl, cd, stk, e, h1, hs, h2, h3, h4, h5, h6, h7⟩ := h
  cases e
  exact h4
theorem yl_let {g : Bool} {P : pm_P} (hL : xr_I L) (hR : yr_R L lim P w ar ast aln rn v) (hI : pi_I lim P) (h0 : P.1.1 = 0) (K : ∀ w' v', yr_R L lim (pm_let g P) w' ar ast aln rn v' → post v') : wpY_let post v (xa_b g) := by
  obtain ⟨T, C, M, q⟩ := P
  have hC : ∀ a, a < 128 → C a < 8 := by obtain ⟨S, d, c, o, x⟩ := q; exact hI.2.1
  obtain ⟨F1, F2, F3, F4, F5, F6, F7, F8, F9, F10, F11, F12, A1, A2, A3, A4, A5, A6, A7, A8, A9, A10, A11, A12, A13, A14, A15, A16, A17, A18, A19⟩ := v
  unfold wpY_let
  refine yk_need hL hR hI h0 (fun t T1 v1 e1 hR1 => ?_) (fun T1 v1 e1 hne hR1 => ?_)
  · have e1' : pm_take 3 C T = (some t, T1) := e1
    obtain ⟨p1, p2, p3, p4⟩ := pi_tk hI.1 hC h0 e1'
    have hb := xs_tok p1.1.1.2.1 p3
    have hI1 := pi_toI hI p1
    obtain ⟨F1, F2, F3, F4, F5, F6, F7, F8, F9, F10, F11, F12, A1, A2, A3, A4, A5, A6, A7, A8, A9, A10, A11, A12, A13, A14, A15, A16, A17, A18, A19⟩ := v1
    refine br_t (yk_f0 hR1 p2) ?_
    by_cases ht : t < 1024
    · refine br_f (nI_ge (b := 1024) ht (by decide)) (K w _ ?_)
      simp only [pm_let, e1', if_pos ht]
      exact yk_err (k := 6) (by decide) hR1
    · refine br_t (nI_le (a := 1024) (by omega) (by omega)) ?_
      refine yk_need hL hR1 hI1 p2 (fun u T2 v2 e2 hR2 => ?_) (fun T2 v2 e2 hne hR2 => ?_)
      · have e2' : pm_take 3 C T1 = (some u, T2) := e2
        obtain ⟨r1, r2, r3, r4⟩ := pi_tk p1.1 hC p2 e2'
        have hb2 := xs_tok r1.1.1.2.1 r3
        have hI2 := pi_toI hI1 r1
        have hid := pi_id p3 p1.1.1.2.1 ht
        have hMi : pi_M T2.2.2.2.length M := by obtain ⟨S, d, c, o, x⟩ := q; exact hI2.2.2.1
        obtain ⟨_, n8, n24⟩ := xs_small r1.1.1.2.1 (Or.inl (pi_mng hMi r1.1.1.2.1 r3))
        obtain ⟨F1, F2, F3, F4, F5, F6, F7, F8, F9, F10, F11, F12, A1, A2, A3, A4, A5, A6, A7, A8, A9, A10, A11, A12, A13, A14, A15, A16, A17, A18, A19⟩ := v2
        obtain ⟨z1, z2, z3, z4, z5, z6, z7⟩ := yl_tab hR2
        have e : nI t - 1024 = nI (t - 1024) := pk_sub (b := 1024) (by omega)
        -- behind the loading of slot 64
        have fin : ∀ w' : yr_W, yr_M w' 64 (pm_mng M u) → yr_R L lim (T2, C, M, q) w' ar ast aln rn (F1, F2, F3, F4, F5, F6, F7, F8, F9, F10, F11, F12, A1, A2, A3, A4, A5, A6, w'.1, w'.2.1, w'.2.2.1, w'.2.2.2.1, w'.2.2.2.2.1, w'.2.2.2.2.2, A13, A14, A15, A16, A17, A18, A19) → wY_let_93 post (xa_b g) (nI t) F1 F2 F3 F4 F5 F6 F7 F8 F9 F10 F11 F12 A1 A2 A3 A4 A5 A6 (w'.1) (w'.2.1) (w'.2.2.1) (w'.2.2.2.1) (w'.2.2.2.2.1) (w'.2.2.2.2.2) A13 A14 A15 A16 A17 A18 A19 := fun w' hm hw => by
          unfold wY_let_93
          rw [e]
          refine yi_assign (g := g) (m := pm_mng M u) (k := 0) hw hI2 (by omega) ⟨fun _ => ⟨hm, n8, n24⟩, fun z => absurd z (by omega)⟩ (fun w2 v3 hR3 => ?_)
          have k := K w2 v3 (by simp only [pm_let, e1', if_neg ht, e2']; exact hR3)
          obtain ⟨F1, F2, F3, F4, F5, F6, F7, F8, F9, F10, F11, F12, A1, A2, A3, A4, A5, A6, A7, A8, A9, A10, A11, A12, A13, A14, A15, A16, A17, A18, A19⟩ := v3
          exact k
        refine br_t (yk_f0 hR2 r2) ?_
        by_cases hu : u < 1024
        · refine br_t (nI_lt (b := 1024) hu (by decide)) (fun kd y1 vl y2 pl y3 rl y4 => ?_)
          have k1 : ∀ s, s < 64 → kd s = w.1 s := fun s hs => by rw [y1, pk_un (by omega), z1]
          have k2 : ∀ s, s < 64 → vl s = w.2.1 s := fun s hs => by rw [y2, pk_un (by omega), z2]
          have k3 : ∀ s, s < 64 → pl s = w.2.2.1 s := fun s hs => by rw [y3, pk_un (by omega), z3]
          have k4 : ∀ s, s < 64 → rl s = w.2.2.2.1 s := fun s hs => by rw [y4, pk_un (by omega), z4]
          have k5 : kd 64 = 3 := by rw [y1, pk_us]
          have k6 : vl 64 = nI u := by rw [y2, pk_us]
          have hw := yl_w (w' := (kd, vl, pl, rl, A11, A12)) hR2 hI2 (fun s m hs _ _ gg => ⟨(k1 s hs).trans gg.1, (k2 s hs).trans gg.2.1, fun zz => ⟨(k3 s hs).trans (gg.2.2 zz).1, (k4 s hs).trans (gg.2.2 zz).2.1, fun j hj => (congrFun z5 _).trans ((gg.2.2 zz).2.2.1 j hj), fun j hj => (congrFun z6 _).trans ((gg.2.2 zz).2.2.2 j hj)⟩⟩) (fun s hs => k2 s hs)
          refine fin (kd, vl, pl, rl, A11, A12) ?_ hw
          unfold pm_mng
          rw [if_pos hu]
          exact ⟨k5, k6, fun zz => absurd (show 3 = 2 from zz) (by decide)⟩
        · refine br_f (nI_nlt (b := 1024) (by omega) (by omega)) ?_
          have e3 : nI u - 1024 = nI (u - 1024) := pk_sub (b := 1024) (by omega)
          have hid2 := pi_id r3 r1.1.1.2.1 hu
          rw [e3]
          refine yc_copy (t := 64) (by omega) (by decide) (fun w' hc => ?_)
          have hcw : yr_cp w w' (u - 1024) 64 := by rw [z1, z2, z3, z4, z5, z6] at hc; exact hc
          refine fin w' ?_ (yl_w hR2 hI2 (fun s m hs h8 h24 gg => yr_cp_ne hcw (by omega) h8 h24 gg) (fun s hs => (hcw.2.1 s (by omega)).2.1))
          have em : pm_mng M u = M (u - 1024) := by unfold pm_mng; rw [if_neg hu]
          rw [em] at n8 n24 ⊢
          exact yr_cp_to hcw n8 n24 (yl_MM hR2 _ hid2.2.1)
      · have e2' : pm_take 3 C T1 = (none, T2) := e2
        have k := K w v2 (by simp only [pm_let, e1', if_neg ht, e2']; exact hR2)
        obtain ⟨F1, F2, F3, F4, F5, F6, F7, F8, F9, F10, F11, F12, A1, A2, A3, A4, A5, A6, A7, A8, A9, A10, A11, A12, A13, A14, A15, A16, A17, A18, A19⟩ := v2
        exact br_f (yk_f1 hR2 hne) k
  · have e1' : pm_take 3 C T = (none, T1) := e1
    have k := K w v1 (by simp only [pm_let, e1']; exact hR1)
    obtain ⟨F1, F2, F3, F4, F5, F6, F7, F8, F9, F10, F11, F12, A1, A2, A3, A4, A5, A6, A7, A8, A9, A10, A11, A12, A13, A14, A15, A16, A17, A18, A19⟩ := v1
    exact br_f (yk_f1 hR1 hne) k
theorem yl_and {t : Nat} (ht : t < 4096) : nI t &&& 127 = nI (t % 128) := pk_andN (by omega) (m := 127) 7 (by decide)
theorem yl_catc {g : Bool} {P : pm_P} (hL : xr_I L) (hR : yr_R L lim P w ar ast aln rn v) (hI : pi_I lim P) (h0 : P.1.1 = 0) (K : ∀ w' v', yr_R L lim (pm_catc g P) w' ar ast aln rn v' → post v') : wpY_catc post v (xa_b g) := by
  obtain ⟨T, C, q⟩ := P
  have hC : ∀ a, a < 128 → C a < 8 := by obtain ⟨M, S, d, c, o, x⟩ := q; exact hI.2.1
  obtain ⟨F1, F2, F3, F4, F5, F6, F7, F8, F9, F10, F11, F12, A1, A2, A3, A4, A5, A6, A7, A8, A9, A10, A11, A12, A13, A14, A15, A16, A17, A18, A19⟩ := v
  unfold wpY_catc
  refine yk_need hL hR hI h0 (fun t T1 v1 e1 hR1 => ?_) (fun T1 v1 e1 hne hR1 => ?_)
  · have e1' : pm_take 3 C T = (some t, T1) := e1
    obtain ⟨p1, p2, p3, p4⟩ := pi_tk hI.1 hC h0 e1'
    have hb := xs_tok p1.1.1.2.1 p3
    have hI1 := pi_toI hI p1
    obtain ⟨F1, F2, F3, F4, F5, F6, F7, F8, F9, F10, F11, F12, A1, A2, A3, A4, A5, A6, A7, A8, A9, A10, A11, A12, A13, A14, A15, A16, A17, A18, A19⟩ := v1
    have h60 : ¬ pm_cm T1.2.2.2 t = 1000 → wY_catc_60 post (xa_b g) (nI (pm_cm T1.2.2.2 t)) F1 F2 F3 F4 F5 F6 F7 F8 F9 F10 F11 F12 A1 A2 A3 A4 A5 A6 A7 A8 A9 A10 A11 A12 A13 A14 A15 A16 A17 A18 A19 := fun hz => by
      have hcm := pi_cm p1.1.1 hz
      unfold wY_catc_60
      refine yk_need hL hR1 hI1 p2 (fun u T2 v2 e2 hR2 => ?_) (fun T2 v2 e2 hne hR2 => ?_)
      · have e2' : pm_take 3 C T1 = (some u, T2) := e2
        obtain ⟨r1, r2, r3, r4⟩ := pi_tk p1.1 hC p2 e2'
        have hb2 := xs_tok r1.1.1.2.1 r3
        have hI2 := pi_toI hI1 r1
        obtain ⟨F1, F2, F3, F4, F5, F6, F7, F8, F9, F10, F11, F12, A1, A2, A3, A4, A5, A6, A7, A8, A9, A10, A11, A12, A13, A14, A15, A16, A17, A18, A19⟩ := v2
        obtain ⟨z1, z2, z3, z4, z5, z6, z7⟩ := yl_tab hR2
        have kerr : ¬ (48 ≤ pm_chr u ∧ pm_chr u ≤ 55) → post (F1, F2, 14, F4, F5, F6, F7, F8, F9, F10, F11, F12, A1, A2, A3, A4, A5, A6, A7, A8, A9, A10, A11, A12, A13, A14, A15, A16, A17, A18, A19) := fun hn => by
          refine K w _ ?_
          simp only [pm_catc, e1', if_neg hz, e2', if_neg hn]
          exact yk_err (k := 14) (by decide) hR2
        refine br_t (yk_f0 hR2 r2) ?_
        by_cases hu : u < 1024
        · have ech : pm_chr u = u % 128 := by unfold pm_chr; rw [if_pos hu]
          have hm := Nat.mod_lt u (show 0 < 128 by decide)
          refine br_f (nI_ge (b := 1024) hu (by decide)) ?_
          rw [yl_and (by omega), ← ech]
          rw [← ech] at hm
          by_cases h48 : 48 ≤ pm_chr u
          · refine br_f (nI_nlt (b := 48) h48 (by omega)) ?_
            by_cases h55 : pm_chr u ≤ 55
            · have e48 : nI (pm_chr u) - 48 = nI (pm_chr u - 48) := pk_sub (b := 48) h48
              refine br_t (nI_le (b := 55) h55 (by decide)) (fun vl y1 => ?_)
              rw [e48] at y1
              have e32 : (32 : Int32) + nI (pm_cm T1.2.2.2 t) = nI (32 + pm_cm T1.2.2.2 t) := nI_add 32 _
              rw [e32]
              have k2 : ∀ s, s < 64 → vl s = w.2.1 s := fun s hs => by rw [y1, pk_un (by omega), z2]
              have k6 : vl 64 = nI (pm_chr u - 48) := by rw [y1, pk_us]
              have hw := yl_w (w' := (A7, vl, A9, A10, A11, A12)) hR2 hI2 (fun s m hs _ _ gg => ⟨(congrFun z1 s).trans gg.1, (k2 s hs).trans gg.2.1, fun zz => ⟨(congrFun z3 s).trans (gg.2.2 zz).1, (congrFun z4 s).trans (gg.2.2 zz).2.1, fun j hj => (congrFun z5 _).trans ((gg.2.2 zz).2.2.1 j hj), fun j hj => (congrFun z6 _).trans ((gg.2.2 zz).2.2.2 j hj)⟩⟩) (fun s hs => k2 s hs)
              refine yi_assign (g := g) (m := pm_m0) (k := pm_chr u - 48) hw hI2 (by omega) ⟨fun z => absurd z (by omega), fun _ => k6⟩ (fun w2 v3 hR3 => ?_)
              have k := K w2 v3 (by simp only [pm_catc, e1', if_neg hz, e2', if_pos (show 48 ≤ pm_chr u ∧ pm_chr u ≤ 55 from ⟨h48, h55⟩)]; exact hR3)
              obtain ⟨F1, F2, F3, F4, F5, F6, F7, F8, F9, F10, F11, F12, A1, A2, A3, A4, A5, A6, A7, A8, A9, A10, A11, A12, A13, A14, A15, A16, A17, A18, A19⟩ := v3
              exact k
            · exact br_f (nI_ge (a := 55) (by omega) (by omega)) (kerr (fun z => h55 z.2))
          · exact br_t (nI_lt (b := 48) (by omega) (by decide)) (kerr (fun z => h48 z.1))
        · have ech : pm_chr u = 1000 := by unfold pm_chr; rw [if_neg hu]
          exact br_t (nI_le (a := 1024) (by omega) (by omega)) (kerr (fun z => by omega))
      · have e2' : pm_take 3 C T1 = (none, T2) := e2
        have k := K w v2 (by simp only [pm_catc, e1', if_neg hz, e2']; exact hR2)
        obtain ⟨F1, F2, F3, F4, F5, F6, F7, F8, F9, F10, F11, F12, A1, A2, A3, A4, A5, A6, A7, A8, A9, A10, A11, A12, A13, A14, A15, A16, A17, A18, A19⟩ := v2
        exact br_f (yk_f1 hR2 hne) k
    have h14 : pm_cm T1.2.2.2 t = 1000 → post (F1, F2, 14, F4, F5, F6, F7, F8, F9, F10, F11, F12, A1, A2, A3, A4, A5, A6, A7, A8, A9, A10, A11, A12, A13, A14, A15, A16, A17, A18, A19) := fun hz => by
      refine K w _ ?_
      simp only [pm_catc, e1', if_pos hz]
      exact yk_err (k := 14) (by decide) hR1
    refine br_t (yk_f0 hR1 p2) (nm_r (yl_and (by omega)) ?_)
    by_cases ht : t < 1024
    · have hm := Nat.mod_lt t (show 0 < 128 by decide)
      have ec : pm_cm T1.2.2.2 t = t % 128 := by unfold pm_cm; rw [if_pos ht]
      rw [ec] at h60
      exact br_t (nI_lt (b := 1024) ht (by decide)) (h60 (by omega))
    · obtain ⟨q1, q2, q3⟩ := pi_id p3 p1.1.1.2.1 ht
      have e : nI t - 1024 = nI (t - 1024) := pk_sub (b := 1024) (by omega)
      have e2 : nI (t - 1024) * 12 = nI ((t - 1024) * 12) := pk_mul _ 12
      obtain ⟨x1, x2⟩ := yl_N hR1 (t - 1024) q1
      obtain ⟨b1, b2⟩ := xn_bd p1.1.1.2.2.2 q1
      refine br_f (nI_nlt (b := 1024) (by omega) (by omega)) ?_
      rw [e, e2, nI_clamp (by omega), x1]
      refine ⟨vp_in_nI q2 (by decide), ?_⟩
      unfold pm_cm at h60 h14
      rw [if_neg ht] at h60 h14
      rcases hw : T1.2.2.2.getD (t - 1024) [] with _ | ⟨c, _ | ⟨c2, ww⟩⟩
      · rw [hw] at h14
        exact br_f (by decide) (h14 rfl)
      · rw [hw] at h60 x2 b2
        have hc := b2 c List.mem_cons_self
        have x0 := x2 0 Nat.zero_lt_one
        rw [Nat.add_zero] at x0
        exact br_t rfl ⟨vp_in_nI (by omega) (by decide), nm_r (by rw [nI_clamp (by omega)]; exact x0) (h60 (by show ¬ c = 1000; omega))⟩
      · rw [hw] at h14 b1
        refine br_f (fun z => ?_) (h14 rfl)
        have b1' : ww.length + 1 + 1 ≤ 11 := b1
        have := (nI_eq (a := ww.length + 1 + 1) (b := 1) (by omega) (by decide)).mp z
        omega
  · have e1' : pm_take 3 C T = (none, T1) := e1
    have k := K w v1 (by simp only [pm_catc, e1']; exact hR1)
    obtain ⟨F1, F2, F3, F4, F5, F6, F7, F8, F9, F10, F11, F12, A1, A2, A3, A4, A5, A6, A7, A8, A9, A10, A11, A12, A13, A14, A15, A16, A17, A18, A19⟩ := v1
    exact br_f (yk_f1 hR1 hne) k
end YL
