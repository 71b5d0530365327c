section YJ0
variable {L : List Nat} {lim : Nat} {w : yr_W} {ar ast aln : Nat → Int32} {rn : Int32} {post : SY → Prop} {F1 F2 F3 F4 F5 F6 F7 F8 F9 F10 F11 F12 : Int32} {A1 A2 A3 A4 A5 A6 A7 A8 A9 A10 A11 A12 A13 A14 A15 A16 A17 A18 A19 : Nat → Int32}
theorem yj_217 {T : pm_T} {C : Nat → Nat} {M : Nat → pm_Mn} {S : List pm_Sv} {d i k : Nat} {m : pm_Mn} {q : List Nat × List Nat × Nat} (hi : i < 160) (hz : ∀ s, s ∈ S → s.1 < 32 → s.2.2.1.2.2.1.length ≤ 8 ∧ s.2.2.1.2.2.2.length ≤ 24) (hsM : yd_sM M) (hm : yi_new w i m k) (hR : yr_R L lim (T, C, M, S, d, q) w ar ast aln rn (F1, F2, F3, F4, F5, F6, F7, F8, F9, F10, F11, F12, A1, A2, A3, A4, A5, A6, A7, A8, A9, A10, A11, A12, A13, A14, A15, A16, A17, A18, A19))
    (K : ∀ w' v', yr_R L lim (T, (if i < 32 then C else pm_upF C (i - 32) k), (if i < 32 then pm_upF M i m else M), S, d, q) w' ar ast aln rn v' → post v') : wY_assign_217 post (nI i) F1 F2 F3 F4 F5 F6 F7 F8 F9 F10 F11 F12 A1 A2 A3 A4 A5 A6 A7 A8 A9 A10 A11 A12 A13 A14 A15 A16 A17 A18 A19 := by
  obtain ⟨st, rest, ps, ns⟩ := T
  obtain ⟨c, o, x⟩ := q
  obtain ⟨ip, pc, inp, cat, pend, out, nl, nch, si, sl, cd, stk, e, h1, hs, h2, h3, h4, h5, h6, h7⟩ := hR
  cases e
  by_cases hlt : i < 32
  · rw [if_pos hlt, if_pos hlt] at K
    obtain ⟨m1, m2, m3⟩ := hm.1 hlt
    refine br_f (nI_ge (b := 32) hlt (by decide)) (yc_copy (f := 64) (by decide) (by omega) (fun w' hc => ?_))
    have hc' : yr_cp w w' 64 i := hc
    exact K w' _ ⟨_, _, _, _, _, _, _, _, _, _, _, _, rfl, h1, hs, h2, h3, h4, yd_MM_up h5 hsM hc' m2 m3 m1, yd_V_cp hc' (Or.inl hlt) hz h6, h7⟩
  · rw [if_neg hlt, if_neg hlt] at K
    have e3 : nI i - 32 = nI (i - 32) := pk_sub (b := 32) (by omega)
    refine br_t (nI_le (a := 32) (by omega) (by omega)) ⟨by rw [e3]; exact vp_in_nI (by omega) (by decide), fun cat' y => K w _ ⟨_, _, _, cat', _, _, _, _, _, _, _, _, rfl, h1, hs, h2, ?_, h4, h5, h6, h7⟩⟩
    rw [e3, nI_clamp (by omega), hm.2 (by omega)] at y
    subst y
    exact xg_C_up h3
end YJ0
section YJ
variable {L : List Nat} {lim : Nat} {w : yr_W} {ar ast aln : Nat → Int32} {rn : Int32} {v : SY} {post : SY → Prop}
theorem yi_assign {g : Bool} {i k : Nat} {m : pm_Mn} {P : pm_P} (hR : yr_R L lim P w ar ast aln rn v) (hI : pi_I lim P) (hi : i < 160) (hm : yi_new w i m k) (K : ∀ w' v', yr_R L lim (pm_assign g i m k P) w' ar ast aln rn v' → post v') : wpY_assign post v (nI i) (xa_b g) := by
  obtain ⟨T, C, M, S, d, q⟩ := P
  obtain ⟨hT, i1, i2, i3, i4, i5, i6, i7⟩ := hI
  have hk32 : T.2.2.2.length ≤ 32 := hT.1.2.1
  have hsM := yd_sMi hk32 i2
  have hsv : ∀ s, s ∈ S → pi_sv T.2.2.2.length d s := i4
  cases g with
  | false =>
    have K' := K
    simp only [pm_assign] at K'
    rw [if_neg (by decide)] at K'
    obtain ⟨F1, F2, F3, F4, F5, F6, F7, F8, F9, F10, F11, F12, A1, A2, A3, A4, A5, A6, A7, A8, A9, A10, A11, A12, A13, A14, A15, A16, A17, A18, A19⟩ := v
    have hR' := hR
    obtain ⟨st, rest, ps, ns⟩ := T
    obtain ⟨c, o, x⟩ := q
    obtain ⟨ip, pc, inp, cat, pend, out, nl, nch, si, sl, cd, stk, e, h1, hs, h2, h3, h4, h5, h6, h7⟩ := hR
    cases e
    refine br_t rfl ?_
    by_cases h0 : d = 0
    · subst h0
      rw [if_pos (Or.inl rfl)] at K'
      exact br_t (nI_le (a := 0) (b := 0) (by decide) (by decide)) (yi_217 hi hk32 hsv hsM hm hR' K')
    · refine br_f (nI_nle (by omega) (by omega)) ⟨S.length + 1, ?_⟩
      have hsav := ye_sav (i := i) (d := d) S i5 (fun s hs => (hsv s hs).2.2.2.2.2)
      have hn : ∀ {h : ¬ ∃ s, s ∈ S ∧ s.1 = i ∧ s.2.1 = d}, ¬ (d = 0 ∨ pm_sav i d S = true) := fun {h} z => z.elim h0 (fun y => h (hsav.mp y))
      refine yi_80 (w := w) (kk := ns.length) i6 hi i3 hsv h6 (fun hy => ?_) (fun hy h32 => ?_) (fun hy h32 => ?_) S.reverse [] (S.length + 1) 0 (by rw [List.reverse_reverse, List.append_nil]) (by rw [List.length_reverse]; omega) ⟨fun _ ⟨s, hs, _⟩ => (nomatch hs), fun _ => rfl⟩
      · rw [if_pos (Or.inr (hsav.mpr hy))] at K'
        exact yi_217 hi hk32 hsv hsM hm hR' K'
      · rw [if_neg (hn (h := hy)), if_pos h32] at K'
        exact K' w _ (yk_err (k := 11) (by decide) hR')
      · rw [if_neg (hn (h := hy)), if_neg (by omega)] at K'
        have vs : vp_in (nI S.length) 32 := vp_in_nI (by omega) (by decide)
        have cl : (nI S.length).toNatClampNeg = S.length := nI_clamp (by omega)
        have e32 : (32 : Int32) + nI S.length = nI (32 + S.length) := nI_add 32 _
        have hsv2 : ∀ s, s ∈ (i, d, M i, C (i - 32)) :: S → s.1 < 32 → s.2.2.1.2.2.1.length ≤ 8 ∧ s.2.2.1.2.2.2.length ≤ 24 := fun s hs hlt => by
          rcases List.mem_cons.mp hs with e | hs
          · rw [e]; exact hsM i
          · exact yd_sz hk32 hsv s hs hlt
        refine ⟨vs, fun si' y1 => ⟨vs, fun sl' y2 => ?_⟩⟩
        rw [cl] at y1 y2
        subst y1 y2
        by_cases hlt : i < 32
        · obtain ⟨m1, m2, m3⟩ := hm.1 hlt
          refine br_f (nI_ge (b := 32) hlt (by decide)) ?_
          rw [e32]
          refine yc_copy (by omega) (by omega) (fun w' hc => nm_r (nI_1 _) ?_)
          have hc' : yr_cp w w' i (32 + S.length) := hc
          have hVold : yr_V (upd A13 S.length (nI i)) (upd A14 S.length (nI d)) w' S := yd_V_fr S (fun j hj => ⟨pk_un (by omega), pk_un (by omega)⟩) (fun j mm hj h8 h24 g => yr_cp_ne hc' (by omega) h8 h24 g) (fun j hj => (hc'.2.1 _ (by omega)).2.1) (yd_sz hk32 hsv) h6
          have hRn : yr_R L lim ((st, rest, ps, ns), C, M, (i, d, M i, C (i - 32)) :: S, d, c, o, x) w' ar ast aln rn (nI lim, nI x, nI st, rn, nI L.length, F6, F7, nI o.length, nI ns.length, nI (S.length + 1), nI d, nI c.length, A1, A2, A3, A4, A5, A6, w'.1, w'.2.1, w'.2.2.1, w'.2.2.2.1, w'.2.2.2.2.1, w'.2.2.2.2.2, upd A13 S.length (nI i), upd A14 S.length (nI d), A15, ar, ast, aln, A19) := ⟨_, _, _, _, _, _, _, _, _, _, _, _, rfl, h1, hs, h2, h3, h4, fun j hj => yr_cp_ne hc' (by omega) (hsM j).1 (hsM j).2 (h5 j hj), ⟨⟨pk_us, pk_us, fun _ => yr_cp_to hc' (hsM i).1 (hsM i).2 (h5 i hlt), fun z => absurd z (by show ¬ 32 ≤ i; omega)⟩, hVold⟩, h7⟩
          exact yj_217 hi hsv2 hsM ⟨fun _ => ⟨yr_cp_ne hc' (by omega) m2 m3 m1, m2, m3⟩, fun z => by omega⟩ hRn K'
        · have e3 : nI i - 32 = nI (i - 32) := pk_sub (b := 32) (by omega)
          refine br_t (nI_le (a := 32) (by omega) (by omega)) ⟨by rw [e3]; exact vp_in_nI (by omega) (by decide), by rw [e32]; exact vp_in_nI (by omega) (by decide), fun vl' y3 => nm_r (nI_1 _) ?_⟩
          rw [e3, e32, nI_clamp (by omega), nI_clamp (by omega), h3 _ (by omega)] at y3
          subst y3
          have hMj : ∀ j mm, j ≠ 32 + S.length → yr_M w j mm → yr_M (w.1, upd w.2.1 (32 + S.length) (nI (C (i - 32))), w.2.2) j mm := fun j mm hj g => ⟨g.1, (pk_un hj).trans g.2.1, g.2.2⟩
          have hVold : yr_V (upd A13 S.length (nI i)) (upd A14 S.length (nI d)) (w.1, upd w.2.1 (32 + S.length) (nI (C (i - 32))), w.2.2) S := yd_V_fr S (fun j hj => ⟨pk_un (by omega), pk_un (by omega)⟩) (fun j mm hj _ _ g => hMj _ mm (by omega) g) (fun j hj => pk_un (by omega)) (yd_sz hk32 hsv) h6
          have hRn : yr_R L lim ((st, rest, ps, ns), C, M, (i, d, M i, C (i - 32)) :: S, d, c, o, x) (w.1, upd w.2.1 (32 + S.length) (nI (C (i - 32))), w.2.2) ar ast aln rn (nI lim, nI x, nI st, rn, nI L.length, F6, F7, nI o.length, nI ns.length, nI (S.length + 1), nI d, nI c.length, A1, A2, A3, A4, A5, A6, w.1, upd w.2.1 (32 + S.length) (nI (C (i - 32))), w.2.2.1, w.2.2.2.1, w.2.2.2.2.1, w.2.2.2.2.2, upd A13 S.length (nI i), upd A14 S.length (nI d), A15, ar, ast, aln, A19) := ⟨_, _, _, _, _, _, _, _, _, _, _, _, rfl, h1, hs, h2, h3, h4, fun j hj => hMj j _ (by omega) (h5 j hj), ⟨⟨pk_us, pk_us, fun z => absurd z (by show ¬ i < 32; omega), fun _ => pk_us⟩, hVold⟩, h7⟩
          exact yj_217 hi hsv2 hsM ⟨fun z => absurd z hlt, fun z => (pk_un (by omega)).trans (hm.2 z)⟩ hRn K'
  | true =>
    have K' := K
    simp only [pm_assign] at K'
    rw [if_pos trivial] at K'
    obtain ⟨st, rest, ps, ns⟩ := T
    obtain ⟨c, o, x⟩ := q
    obtain ⟨ip, pc, inp, cat, pend, out, nl, nch, si, sl, cd, stk, rfl, h1, hs, h2, h3, h4, h5, h6, h7⟩ := hR
    refine br_f ci_10 ⟨S.length + 1, ?_⟩
    have rr : S.reverse.reverse ++ [] = S := by rw [List.reverse_reverse, List.append_nil]
    rw [show nI S.length = nI (S.reverse.reverse ++ []).length from by rw [rr]]
    refine yi_6 (S0 := S) (M := M) (m := m) (k := k) hi hk32 hsv hsM S.reverse [] (S.length + 1) w (by rw [rr]; exact fun s hs => hs) (by rw [List.length_reverse]; omega) (by rw [rr]; exact i3) (by
      show yr_V si sl w (S.reverse.reverse ++ [])
      rw [rr]; exact h6) hm h5 (fun w' k1 k2 k3 => ?_)
    rw [rr] at k1 ⊢
    have hz2 : ∀ s, s ∈ pm_setAll i m k S → s.1 < 32 → s.2.2.1.2.2.1.length ≤ 8 ∧ s.2.2.1.2.2.2.length ≤ 24 := fun r hr hlt' => by
      obtain ⟨y, hy, e⟩ := List.mem_map.mp hr
      split at e
      · next hyi =>
        rw [← e] at hlt' ⊢
        exact (hm.1 (by rw [← hyi]; exact hlt')).2
      · rw [← e] at hlt' ⊢; exact yd_sz hk32 hsv y hy hlt'
    have hRn : yr_R L lim ((st, rest, ps, ns), C, M, pm_setAll i m k S, d, c, o, x) w' ar ast aln rn (nI lim, nI x, nI st, rn, nI L.length, ip, pc, nI o.length, nI ns.length, nI S.length, nI d, nI c.length, inp, cat, pend, out, nl, nch, w'.1, w'.2.1, w'.2.2.1, w'.2.2.2.1, w'.2.2.2.2.1, w'.2.2.2.2.2, si, sl, cd, ar, ast, aln, stk) := ⟨ip, pc, inp, cat, pend, out, nl, nch, si, sl, cd, stk, by rw [xa_sl], h1, hs, h2, h3, h4, k3, k1, h7⟩
    exact yj_217 hi hz2 hsM k2 hRn K'
end YJ
