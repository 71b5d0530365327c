section ZD
variable {L : List Nat} {lim : Nat} {w : yr_W} {ar ast aln : Nat → Int32} {rn : Int32} {v : SY} {post : SY → Prop} {F1 F2 F3 F4 F5 F6 F7 F8 F9 F10 F11 F12 : Int32} {A1 A2 A3 A4 A5 A6 A7 A8 A9 A10 A11 A12 A13 A14 A15 A16 A17 A18 A19 : Nat → Int32}
theorem zd_tk {rt : List Nat} {i : Nat} (h : i < rt.length) : rt.take (i + 1) = rt.take i ++ [rt.getD i 0] := by
  rw [List.take_add_one, List.getD_eq_getElem?_getD, List.getElem?_eq_getElem h]
  rfl
theorem zd_mem {rt : List Nat} {i : Nat} (h : i < rt.length) : rt.getD i 0 ∈ rt := by
  rw [List.getD_eq_getElem?_getD, List.getElem?_eq_getElem h]
  exact List.getElem_mem _
theorem zd_len {as : List (List Nat)} {b : Nat} (h : ∀ i, (as.getD i []).length ≤ b) (hb : 1 ≤ b) : ∀ rt : List Nat, (pm_sub as rt).length ≤ b * rt.length := by
  intro rt
  induction rt with
  | nil => exact Nat.le_refl _
  | cons r rt ih =>
    have e : pm_sub as (r :: rt) = pm_sub as [r] ++ pm_sub as rt := xu_sub (l := [r])
    have l1 : (pm_sub as [r]).length ≤ b := by
      rw [xu_sub1]
      split
      · exact hb
      · exact h _
    rw [e, List.length_append, List.length_cons, Nat.mul_succ]
    omega
theorem zd_as {tot : Nat} {as : List (List Nat)} (hA : zc_As ar ast aln tot as) (ht : tot ≤ 256) : ∀ i, (as.getD i []).length ≤ 256 := fun i => by
  by_cases h : i < as.length
  · obtain ⟨s, _, _, h3, _⟩ := hA i h
    omega
  · rw [List.getD_eq_getElem?_getD, List.getElem?_eq_none (by omega)]
    exact Nat.zero_le _
theorem zd_m {rt : List Nat} {as : List (List Nat)} {n tot : Nat} (hn : n < 32) (h24 : rt.length ≤ 24) (h8 : as.length ≤ 8) (ht : tot ≤ 256) (hA : zc_As A16 A17 A18 tot as) (hlen : A10 n = nI rt.length) (hD : ∀ j, j < rt.length → A12 (n * 24 + j) = nI (rt.getD j 0)) (hT : ∀ t, t ∈ rt → t < 2048 ∨ (2049 ≤ t ∧ t ≤ 2048 + as.length))
    (K : ((F7 + nI (pm_sub as rt).length ≤ 256 → ∀ y : Int32, y = F7 - 1 → ∃ n312 : Nat, wY_expand_312 post (nI n) (nI (pm_sub as rt).length) F1 F2 F3 F4 F5 F6 F7 F8 F9 F10 F11 F12 n312 y A1 A2 A3 A4 A5 A6 A7 A8 A9 A10 A11 A12 A13 A14 A15 A16 A17 A18 A19) ∧ (¬ F7 + nI (pm_sub as rt).length ≤ 256 → post (F1, F2, 16, F4, F5, F6, F7, F8, F9, F10, F11, F12, A1, A2, A3, A4, A5, A6, A7, A8, A9, A10, A11, A12, A13, A14, A15, A16, A17, A18, A19)))) : ∀ (N i : Nat), rt.length < N + i → i ≤ rt.length → wY_expand_225 post (nI n) F1 F2 F3 F4 F5 F6 F7 F8 F9 F10 F11 F12 A1 A2 A3 A4 A5 A6 A7 A8 A9 A10 A11 A12 A13 A14 A15 A16 A17 A18 A19 N (nI (pm_sub as (rt.take i)).length) (nI i) := by
  intro N
  induction N with
  | zero => intro i h1 h2; omega
  | succ N ih =>
    intro i h1 h2
    refine ⟨vp_in_nI (by omega) (by decide), ?_⟩
    rw [nI_clamp (by omega), hlen]
    by_cases hi : i = rt.length
    · subst hi
      rw [List.take_length]
      exact br_t (nI_le (Nat.le_refl _) (by omega)) K
    · have hi' : i < rt.length := by omega
      have e : nI n * 24 + nI i = nI (n * 24 + i) := by rw [← nI_add, ← pk_mul]; rfl
      have hr := hT _ (zd_mem hi')
      have htk := zd_tk hi'
      have hv : A12 (nI n * 24 + nI i).toNatClampNeg = nI (rt.getD i 0) := by rw [e, nI_clamp (by omega), hD i hi']
      have go : nI (pm_sub as (rt.take i)).length + nI (pm_sub as [rt.getD i 0]).length = nI (pm_sub as (rt.take (i + 1))).length := by
        rw [htk, xu_sub, List.length_append, nI_add]
      have next := ih (i + 1) (by omega) (by omega)
      refine br_f (nI_ge hi' (by omega)) ⟨by rw [e]; exact vp_in_nI (by omega) (by decide), nm_r hv ?_⟩
      rw [xu_sub1] at go
      generalize rt.getD i 0 = r at hr go
      by_cases hlt : r < 2048
      · rw [if_pos hlt] at go
        refine br_t (nI_lt (b := 2048) hlt (by decide)) (nm_r go (nm_r (nI_1 _) next))
      · rw [if_neg hlt] at go
        have hr2 := hr.resolve_left hlt
        obtain ⟨s, s1, s2, s3, s4⟩ := hA (r - 2049) (by omega)
        have e3 : nI r - 2049 = nI (r - 2049) := pk_sub (b := 2049) (by omega)
        refine br_f (nI_nlt (b := 2048) (by omega) (by omega)) ⟨by rw [e3]; exact vp_in_nI (by omega) (by decide), ?_⟩
        have hv2 : A18 (nI r - 2049).toNatClampNeg = nI (as.getD (r - 2049) []).length := by rw [e3, nI_clamp (by omega), s2]
        rw [hv2]
        exact nm_r go (nm_r (nI_1 _) next)
theorem zd_sh {n m pl : Nat} (hpm : pl + m ≤ 256) (K : ∀ pend' : Nat → Int32, (∀ j, j < pl → pend' (m + j) = A3 j) → ∃ n346 : Nat, wY_expand_346 post (nI n) (nI m) F1 F2 F3 F4 F5 F6 F7 F8 F9 F10 F11 F12 n346 0 0 A1 A2 pend' A4 A5 A6 A7 A8 A9 A10 A11 A12 A13 A14 A15 A16 A17 A18 A19) :
    ∀ (c N : Nat) (pend' : Nat → Int32), c ≤ pl → c < N → (∀ j, j < c → pend' j = A3 j) → (∀ j, c ≤ j → j < pl → pend' (m + j) = A3 j) → wY_expand_312 post (nI n) (nI m) F1 F2 F3 F4 F5 F6 F7 F8 F9 F10 F11 F12 N (nI c - 1) A1 A2 pend' A4 A5 A6 A7 A8 A9 A10 A11 A12 A13 A14 A15 A16 A17 A18 A19 := by
  intro c
  induction c with
  | zero =>
    intro N pend' h1 h2 h3 h4
    obtain ⟨N, rfl⟩ : ∃ m, N = m + 1 := ⟨N - 1, by omega⟩
    exact br_t xg_neg (K pend' (fun j hj => h4 j (Nat.zero_le _) hj))
  | succ c ih =>
    intro N pend' h1 h2 h3 h4
    obtain ⟨N, rfl⟩ : ∃ m, N = m + 1 := ⟨N - 1, by omega⟩
    rw [nI_pred]
    have e : nI c + nI m = nI (c + m) := nI_add _ _
    refine br_f (nI_pos (by omega)) ⟨vp_in_nI (by omega) (by decide), by rw [e]; exact vp_in_nI (by omega) (by decide), fun p2 y => nm_r (xg_m1 _) ?_⟩
    rw [e, nI_clamp (by omega), nI_clamp (by omega), h3 c (Nat.lt_succ_self _)] at y
    subst y
    refine ih N _ (by omega) (by omega) (fun j hj => ?_) (fun j hj hj2 => ?_)
    · rw [pk_un (by omega)]
      exact h3 j (by omega)
    · by_cases ej : j = c
      · rw [ej, Nat.add_comm m c, pk_us]
      · rw [pk_un (by omega)]
        exact h4 j (by omega) hj2
theorem zd_in {B : Nat → Int32} {J : Int32 → Int32 → (Nat → Int32) → (Nat → Int32) → (Nat → Int32) → (Nat → Int32) → (Nat → Int32) → (Nat → Int32) → (Nat → Int32) → (Nat → Int32) → (Nat → Int32) → (Nat → Int32) → (Nat → Int32) → (Nat → Int32) → (Nat → Int32) → (Nat → Int32) → (Nat → Int32) → (Nat → Int32) → (Nat → Int32) → (Nat → Int32) → (Nat → Int32) → Prop} {n m r s i : Nat} {pre a : List Nat} (hr : r - 2049 < 8) (hr2 : 2049 ≤ r) (hrb : r < 4096) (hs : A17 (r - 2049) = nI s) (hl : A18 (r - 2049) = nI a.length) (hb : s + a.length ≤ 256) (hA : xe_C A16 s a) (hm : (pre ++ a).length ≤ m) (hm2 : m ≤ 256)
    (K : ∀ pend' : Nat → Int32, xr_L pend' (pre ++ a) → (∀ j, m ≤ j → pend' j = B j) → J (nI (pre ++ a).length) (nI (i + 1)) A1 A2 pend' A4 A5 A6 A7 A8 A9 A10 A11 A12 A13 A14 A15 A16 A17 A18 A19) :
    ∀ (N q : Nat) (pend' : Nat → Int32), a.length < N + q → q ≤ a.length → xr_L pend' (pre ++ a.take q) → (∀ j, m ≤ j → pend' j = B j) → wY_expand_397 post J (nI n) (nI m) (nI i) (nI r) F1 F2 F3 F4 F5 F6 F7 F8 F9 F10 F11 F12 N (nI (pre ++ a.take q).length) (nI q) A1 A2 pend' A4 A5 A6 A7 A8 A9 A10 A11 A12 A13 A14 A15 A16 A17 A18 A19 := by
  have e3 : nI r - 2049 = nI (r - 2049) := pk_sub (b := 2049) (by omega)
  have v10 : vp_in (nI r - 2049) 10 := by rw [e3]; exact vp_in_nI (by omega) (by decide)
  have hl' : A18 (nI r - 2049).toNatClampNeg = nI a.length := by rw [e3, nI_clamp (by omega), hl]
  have hs' : A17 (nI r - 2049).toNatClampNeg = nI s := by rw [e3, nI_clamp (by omega), hs]
  intro N
  induction N with
  | zero => intro q pend' h1 h2; omega
  | succ N ih =>
    intro q pend' h1 h2 h3 h4
    refine ⟨v10, ?_⟩
    rw [hl']
    by_cases hq : q = a.length
    · subst hq
      rw [List.take_length] at h3 ⊢
      exact br_t (nI_le (Nat.le_refl _) (by omega)) (nm_r (nI_1 _) (K pend' h3 h4))
    · have hq' : q < a.length := by omega
      have e4 : nI s + nI q = nI (s + q) := nI_add _ _
      have hlq : (pre ++ a.take q).length = pre.length + q := by rw [List.length_append, List.length_take]; omega
      have hlm : pre.length + a.length ≤ m := by rw [← List.length_append]; exact hm
      refine br_f (nI_ge hq' (by omega)) ⟨v10, ?_⟩
      rw [hs', e4]
      refine ⟨vp_in_nI (by omega) (by decide), vp_in_nI (by omega) (by decide), fun p2 y => nm_r (nI_1 _) (nm_r (nI_1 _) ?_)⟩
      rw [nI_clamp (by omega), nI_clamp (by omega), hA q hq'] at y
      subst y
      have el : pre ++ a.take (q + 1) = (pre ++ a.take q) ++ [a.getD q 0] := by rw [zd_tk hq', List.append_assoc]
      have := ih (q + 1) _ (by omega) (by omega) (by rw [el]; exact xr_L_push h3) (fun j hj => by rw [pk_un (by omega)]; exact h4 j hj)
      rw [el, List.length_append] at this
      exact this
theorem zd_wr {B : Nat → Int32} {rt : List Nat} {as : List (List Nat)} {n tot m : Nat} (hn : n < 32) (h24 : rt.length ≤ 24) (h8 : as.length ≤ 8) (ht : tot ≤ 256) (hA : zc_As A16 A17 A18 tot as) (hlen : A10 n = nI rt.length) (hD : ∀ j, j < rt.length → A12 (n * 24 + j) = nI (rt.getD j 0)) (hT : ∀ t, t ∈ rt → t < 2048 ∨ (2049 ≤ t ∧ t ≤ 2048 + as.length)) (hm : m = (pm_sub as rt).length) (hm2 : m ≤ 256)
    (K : ∀ pend' : Nat → Int32, xr_L pend' (pm_sub as rt) → (∀ j, m ≤ j → pend' j = B j) → post (F1, F2, F3, F4, F5, F6, F7 + nI m, F8, F9, F10, F11, F12, A1, A2, pend', A4, A5, A6, A7, A8, A9, A10, A11, A12, A13, A14, A15, A16, A17, A18, A19)) :
    ∀ (N i : Nat) (pend' : Nat → Int32), rt.length < N + i → i ≤ rt.length → xr_L pend' (pm_sub as (rt.take i)) → (∀ j, m ≤ j → pend' j = B j) → wY_expand_346 post (nI n) (nI m) F1 F2 F3 F4 F5 F6 F7 F8 F9 F10 F11 F12 N (nI (pm_sub as (rt.take i)).length) (nI i) A1 A2 pend' A4 A5 A6 A7 A8 A9 A10 A11 A12 A13 A14 A15 A16 A17 A18 A19 := by
  intro N
  induction N with
  | zero => intro i pend' h1 h2; omega
  | succ N ih =>
    intro i pend' h1 h2 h3 h4
    refine ⟨vp_in_nI (by omega) (by decide), ?_⟩
    rw [nI_clamp (by omega), hlen]
    by_cases hi : i = rt.length
    · subst hi
      rw [List.take_length] at h3 ⊢
      exact br_t (nI_le (Nat.le_refl _) (by omega)) (nm_e (K pend' h3 h4))
    · have hi' : i < rt.length := by omega
      have e : nI n * 24 + nI i = nI (n * 24 + i) := by rw [← nI_add, ← pk_mul]; rfl
      have hr := hT _ (zd_mem hi')
      have htk := zd_tk hi'
      have hv : A12 (nI n * 24 + nI i).toNatClampNeg = nI (rt.getD i 0) := by rw [e, nI_clamp (by omega), hD i hi']
      have hsub : pm_sub as (rt.take (i + 1)) = pm_sub as (rt.take i) ++ (if rt.getD i 0 < 2048 then [rt.getD i 0] else as.getD (rt.getD i 0 - 2049) []) := by rw [htk, xu_sub, xu_sub1]
      have hle : (pm_sub as (rt.take (i + 1))).length ≤ m := by
        have e5 : pm_sub as rt = pm_sub as (rt.take (i + 1)) ++ pm_sub as (rt.drop (i + 1)) := by rw [← xu_sub, List.take_append_drop]
        rw [hm, e5, List.length_append]
        omega
      have next : ∀ pend2 : Nat → Int32, xr_L pend2 (pm_sub as (rt.take (i + 1))) → (∀ j, m ≤ j → pend2 j = B j) → wY_expand_346 post (nI n) (nI m) F1 F2 F3 F4 F5 F6 F7 F8 F9 F10 F11 F12 N (nI (pm_sub as (rt.take (i + 1))).length) (nI (i + 1)) A1 A2 pend2 A4 A5 A6 A7 A8 A9 A10 A11 A12 A13 A14 A15 A16 A17 A18 A19 := fun pend2 k1 k2 => ih (i + 1) pend2 (by omega) (by omega) k1 k2
      refine br_f (nI_ge hi' (by omega)) ⟨by rw [e]; exact vp_in_nI (by omega) (by decide), nm_r hv ?_⟩
      rw [hsub] at next hle
      generalize rt.getD i 0 = r at hr next hle
      by_cases hlt : r < 2048
      · rw [if_pos hlt] at next hle
        have hll : (pm_sub as (rt.take i)).length + 1 ≤ m := by rw [List.length_append] at hle; exact hle
        refine br_f (nI_ge (b := 2048) hlt (by decide)) ⟨vp_in_nI (by omega) (by decide), fun p2 y => nm_r (nI_1 _) (nm_r (nI_1 _) ?_)⟩
        rw [nI_clamp (by omega)] at y
        subst y
        have := next _ (xr_L_push h3) (fun j hj => by rw [pk_un (by omega)]; exact h4 j hj)
        rw [List.length_append] at this
        exact this
      · rw [if_neg hlt] at next hle
        have hr2 := hr.resolve_left hlt
        obtain ⟨s, s1, s2, s3, s4⟩ := hA (r - 2049) (by omega)
        refine br_t (nI_le (a := 2048) (by omega) (by omega)) ⟨(as.getD (r - 2049) []).length + 1, ?_⟩
        have := zd_in (post := post) (F1 := F1) (F2 := F2) (F3 := F3) (F4 := F4) (F5 := F5) (F6 := F6) (F7 := F7) (F8 := F8) (F9 := F9) (F10 := F10) (F11 := F11) (F12 := F12) (A1 := A1) (A2 := A2) (A4 := A4) (A5 := A5) (A6 := A6) (A7 := A7) (A8 := A8) (A9 := A9) (A10 := A10) (A11 := A11) (A12 := A12) (A13 := A13) (A14 := A14) (A15 := A15) (A16 := A16) (A17 := A17) (A18 := A18) (A19 := A19) (B := B) (n := n) (m := m) (r := r) (s := s) (i := i) (pre := pm_sub as (rt.take i)) (a := as.getD (r - 2049) []) (by omega) hr2.1 (by omega) s1 s2 (by omega) s4 hle hm2 next ((as.getD (r - 2049) []).length + 1) 0 pend' (by omega) (Nat.zero_le _) (by rw [List.take_zero, List.append_nil]; exact h3) h4
        rw [List.take_zero, List.append_nil] at this
        exact this
end ZD
section ZE
variable {L : List Nat} {lim : Nat} {w : yr_W} {ar ast aln : Nat → Int32} {rn : Int32} {v : SY} {post : SY → Prop} {F1 F2 F3 F4 F5 F6 F7 F8 F9 F10 F11 F12 : Int32} {A1 A2 A3 A4 A5 A6 A7 A8 A9 A10 A11 A12 A13 A14 A15 A16 A17 A18 A19 : Nat → Int32}
theorem ze_cnt {T : pm_T} {C : Nat → Nat} {M : Nat → pm_Mn} {S : List pm_Sv} {d x : Nat} {c o : List Nat} (h : yr_R L lim (T, C, M, S, d, c, o, x) w ar ast aln rn (F1, F2, F3, F4, F5, F6, F7, F8, F9, F10, F11, F12, A1, A2, A3, A4, A5, A6, A7, A8, A9, A10, A11, A12, A13, A14, A15, A16, A17, A18, A19)) : F1 = nI lim ∧ F2 = nI x ∧ yr_R L lim (T, C, M, S, d, c, o, x + 1) w ar ast aln rn (F1, nI (x + 1), F3, F4, F5, F6, F7, F8, F9, F10, F11, F12, A1, A2, A3, A4, A5, A6, A7, A8, A9, A10, A11, A12, A13, A14, A15, A16, A17, A18, A19) := by
  obtain ⟨st, rest, ps, ns⟩ := T
  obtain ⟨ip, pc, inp, cat, pend, out, nl, nch, si, sl, cd, stk, e, h1⟩ := h
  cases e
  exact ⟨rfl, rfl, _, _, _, _, _, _, _, _, _, _, _, _, rfl, h1⟩
theorem ze_put {T : pm_T} {Q : pm_Q} {as : List (List Nat)} {m : pm_Mn} {n tot : Nat} (hn : n < 32) (hm : yr_M w n m) (hm2 : m.1 = 2) (h24 : m.2.2.2.length ≤ 24) (h8 : as.length ≤ 8) (ht : tot ≤ 256) (hA : zc_As ar ast aln tot as) (hT : ∀ t, t ∈ m.2.2.2 → t < 2048 ∨ (2049 ≤ t ∧ t ≤ 2048 + as.length)) (hR : yr_R L lim (T, Q) w ar ast aln rn (F1, F2, F3, F4, F5, F6, F7, F8, F9, F10, F11, F12, A1, A2, A3, A4, A5, A6, A7, A8, A9, A10, A11, A12, A13, A14, A15, A16, A17, A18, A19)) (h0 : T.1 = 0) (hps : T.2.2.1.length ≤ 256)
    (K1 : (pm_sub as m.2.2.2).length + T.2.2.1.length ≤ 256 → ∀ v', yr_R L lim (pm_fronts (pm_sub as m.2.2.2) T, Q) w ar ast aln rn v' → post v') (K2 : 256 < (pm_sub as m.2.2.2).length + T.2.2.1.length → ∀ v', yr_R L lim (pm_err 16 T, Q) w ar ast aln rn v' → post v') : ∃ n225 : Nat, wY_expand_225 post (nI n) F1 F2 F3 F4 F5 F6 F7 F8 F9 F10 F11 F12 A1 A2 A3 A4 A5 A6 A7 A8 A9 A10 A11 A12 A13 A14 A15 A16 A17 A18 A19 n225 0 0 := by
  obtain ⟨z1, z2, z3, z4, z5, z6, z7, z8, z9⟩ := yl_tab hR
  obtain ⟨y1, y2⟩ := yv_pl hR h0
  obtain ⟨m1, m2, m3⟩ := hm
  obtain ⟨g1, g2, g3, g4⟩ := m3 hm2
  have hA' : zc_As A16 A17 A18 tot as := by rw [z7, z8, z9]; exact hA
  have hlen : A10 n = nI m.2.2.2.length := by rw [z4]; exact g2
  have hD : ∀ j, j < m.2.2.2.length → A12 (n * 24 + j) = nI (m.2.2.2.getD j 0) := fun j hj => by rw [z6]; exact g4 j hj
  have hsl := zd_len (zd_as hA ht) (by decide) m.2.2.2
  have hsl2 : (pm_sub as m.2.2.2).length ≤ 6144 := by omega
  refine ⟨m.2.2.2.length + 1, ?_⟩
  have h := zd_m (post := post) (F1 := F1) (F2 := F2) (F3 := F3) (F4 := F4) (F5 := F5) (F6 := F6) (F7 := F7) (F8 := F8) (F9 := F9) (F10 := F10) (F11 := F11) (F12 := F12) (A1 := A1) (A2 := A2) (A3 := A3) (A4 := A4) (A5 := A5) (A6 := A6) (A7 := A7) (A8 := A8) (A9 := A9) (A10 := A10) (A11 := A11) (A12 := A12) (A13 := A13) (A14 := A14) (A15 := A15) (A16 := A16) (A17 := A17) (A18 := A18) (A19 := A19) hn h24 h8 ht hA' hlen hD hT ?_ (m.2.2.2.length + 1) 0 (by omega) (Nat.zero_le _)
  · exact h
  · have es : F7 + nI (pm_sub as m.2.2.2).length = nI (T.2.2.1.length + (pm_sub as m.2.2.2).length) := by rw [y1, nI_add]
    rw [es]
    by_cases hle : (pm_sub as m.2.2.2).length + T.2.2.1.length ≤ 256
    · refine br_t (nI_le (b := 256) (by omega) (by decide)) ?_
      refine nm_r (show F7 - 1 = nI T.2.2.1.length - 1 by rw [y1]) ⟨T.2.2.1.length + 1, ?_⟩
      have hsh := zd_sh (post := post) (F1 := F1) (F2 := F2) (F3 := F3) (F4 := F4) (F5 := F5) (F6 := F6) (F7 := F7) (F8 := F8) (F9 := F9) (F10 := F10) (F11 := F11) (F12 := F12) (A1 := A1) (A2 := A2) (A3 := A3) (A4 := A4) (A5 := A5) (A6 := A6) (A7 := A7) (A8 := A8) (A9 := A9) (A10 := A10) (A11 := A11) (A12 := A12) (A13 := A13) (A14 := A14) (A15 := A15) (A16 := A16) (A17 := A17) (A18 := A18) (A19 := A19) (n := n) (m := (pm_sub as m.2.2.2).length) (pl := T.2.2.1.length) (by omega) (fun pend' hp => ?_) T.2.2.1.length (T.2.2.1.length + 1) A3 (Nat.le_refl _) (Nat.lt_succ_self _) (fun j _ => rfl) (fun j h1 h2 => absurd h2 (by omega))
      · exact hsh
      · refine ⟨m.2.2.2.length + 1, ?_⟩
        have hw := zd_wr (post := post) (F1 := F1) (F2 := F2) (F3 := F3) (F4 := F4) (F5 := F5) (F6 := F6) (F7 := F7) (F8 := F8) (F9 := F9) (F10 := F10) (F11 := F11) (F12 := F12) (A1 := A1) (A2 := A2) (A4 := A4) (A5 := A5) (A6 := A6) (A7 := A7) (A8 := A8) (A9 := A9) (A10 := A10) (A11 := A11) (A12 := A12) (A13 := A13) (A14 := A14) (A15 := A15) (A16 := A16) (A17 := A17) (A18 := A18) (A19 := A19) (B := pend') (m := (pm_sub as m.2.2.2).length) hn h24 h8 ht hA' hlen hD hT rfl (by omega) (fun pend2 k1 k2 => K1 hle _ ?_) (m.2.2.2.length + 1) 0 pend' (by omega) (Nat.zero_le _) (fun j hj => absurd hj (Nat.not_lt_zero _)) (fun j _ => rfl)
        · exact hw
        · obtain ⟨st, rest, ps, ns⟩ := T
          have hx := yv_pend (ps' := pm_sub as m.2.2.2 ++ ps) (pend' := pend2) hR (fun j hj => ?_)
          · rw [List.length_append, Nat.add_comm, ← nI_add] at hx
            have y1' : F7 = nI ps.length := y1
            rw [y1']
            exact hx
          · rw [List.length_append] at hj
            by_cases hj2 : j < (pm_sub as m.2.2.2).length
            · rw [xr_getD_append_left hj2]
              exact k1 j hj2
            · rw [k2 j (by omega)]
              have e6 : j = (pm_sub as m.2.2.2).length + (j - (pm_sub as m.2.2.2).length) := by omega
              have hj3 : j - (pm_sub as m.2.2.2).length < ps.length := by omega
              rw [List.getD_eq_getElem?_getD, List.getElem?_append_right (by omega), ← List.getD_eq_getElem?_getD]
              have e7 := hp (j - (pm_sub as m.2.2.2).length) hj3
              rw [← e6] at e7
              rw [e7]
              exact y2 _ hj3
    · exact br_f (nI_ge (a := 256) (by omega) (by omega)) (K2 (by omega) _ (yk_err (k := 16) (by decide) hR))
theorem ze_exp {n : Nat} {P : pm_P} (hL : xr_I L) (hR : yr_R L lim P w ar ast aln rn v) (hI : pi_I lim P) (h0 : P.1.1 = 0) (hn : n < 32) (hn4 : n ≠ 4) (hk : (P.2.2.1 n).1 = 2) (K : ∀ ar' ast' aln' v', yr_R L lim (pm_exp false lim n P) w ar' ast' aln' rn v' → post v') : wpY_expand post v (nI n) := by
  obtain ⟨T, C, M, S, d, c, o, x⟩ := P
  have hC : ∀ a, a < 128 → C a < 8 := hI.2.1
  have hk' : (M n).1 = 2 := hk
  have hmn : pi_mn T.2.2.2.length (M n) := hI.2.2.1.2.1 n hn4
  have hmm : yr_M w n (M n) := yl_MM hR n hn
  have hxl : x ≤ lim ∧ lim ≤ 100 := hI.2.2.2.2.2.2.2.2.2.2
  have hk32 : T.2.2.2.length ≤ 32 := hI.1.1.2.1
  obtain ⟨F1, F2, F3, F4, F5, F6, F7, F8, F9, F10, F11, F12, A1, A2, A3, A4, A5, A6, A7, A8, A9, A10, A11, A12, A13, A14, A15, A16, A17, A18, A19⟩ := v
  obtain ⟨w1, w2, hRx⟩ := ze_cnt hR
  obtain ⟨z1, z2, z3, z4, z5, z6, z7, z8, z9⟩ := yl_tab hR
  by_cases hx : lim ≤ x
  · refine br_t (by rw [w1, w2, show x = lim from by omega]) (K ar ast aln _ ?_)
    simp only [pm_exp, if_pos hx]
    exact yk_err (k := 17) (by decide) hR
  · have hI' : pi_I lim (T, C, M, S, d, c, o, x + 1) := by
      obtain ⟨hT, c1, c2, c3, c4, c5, c6, c7, c8, c9, c10, c11⟩ := hI
      exact ⟨hT, c1, c2, c3, c4, c5, c6, c7, c8, c9, by omega, c11⟩
    obtain ⟨p8, p24, pcnt, ppt, prt⟩ : (M n).2.2.1.length ≤ 8 ∧ (M n).2.2.2.length ≤ 24 ∧ (M n).2.2.1.countP (fun r => decide (2048 ≤ r)) = (M n).2.1 ∧ (∀ t, t ∈ (M n).2.2.1 → pi_tok T.2.2.2.length t ∨ (2049 ≤ t ∧ t ≤ 2057)) ∧ ∀ t, t ∈ (M n).2.2.2 → pi_tok T.2.2.2.length t ∨ (2049 ≤ t ∧ t ≤ 2048 + (M n).2.1) := by
      rcases hmn with z | z | z | z
      · rw [z] at hk'; cases hk'
      · omega
      · exact z.2
      · omega
    have hpt : ∀ t, t ∈ (M n).2.2.1 → t < 4096 := fun t ht => by
      rcases ppt t ht with z | z
      · have := xs_tok hk32 z; omega
      · omega
    have hc8 : (M n).2.1 ≤ 8 := by rw [← pcnt]; exact Nat.le_trans List.countP_le_length p8
    obtain ⟨g1, g2, g3, g4⟩ := hmm.2.2 hk'
    have hv1 : A9 (nI n).toNatClampNeg = nI (M n).2.2.1.length := by rw [nI_clamp (by omega), z3]; exact g1
    have hpre := zc_pre (post := post) (pt := (M n).2.2.1) (n := n) (q := (M, S, d, c, o, x + 1)) (w := w) (lim := lim) (ar := ar) (ast := ast) (aln := aln) (rn := rn) hL hC hn p8 hpt g3 (M n).2.2.1 [] T ((M n).2.2.1.length + 1) _ _ _ _ _ _ _ _ _ _ _ _ _ _ _ _ _ _ _ _ _ _ _ _ _ _ _ _ _ _ _ rfl (Nat.lt_succ_self _) hRx hI' h0 (fun T1 v1 e1' hR1 => ?_) (fun T1 v1 e1' hR1 => ?_)
    · refine br_f (fun z => ?_) (nm_r (show F2 + 1 = nI (x + 1) by rw [w2, nI_1]) ⟨vp_in_nI (by omega) (by decide), nm_r hv1 ⟨_, hpre⟩⟩)
      rw [w1, w2] at z
      have := (nI_eq (by omega) (by omega)).mp z
      omega
    · obtain ⟨t1, t2, t3⟩ := pi_pre hC _ _ _ _ hI.1 h0 e1'
      have hI1 := pi_toI hI' t1
      have h10 := t2 rfl
      have hexp : ∀ y, pm_args false C (M n).2.1 ((M n).2.2.1.dropWhile (fun r => decide (r < 2048))) 0 [] T1 = y → pm_exp false lim n (T, C, M, S, d, c, o, x) = match y with
          | (none, T2) => (T2, C, M, S, d, c, o, x + 1)
          | (some as, T2) => if 256 < (pm_sub as (M n).2.2.2).length + T2.2.2.1.length then (pm_err 16 T2, C, M, S, d, c, o, x + 1) else (pm_fronts (pm_sub as (M n).2.2.2) T2, C, M, S, d, c, o, x + 1) := fun y hy => by
        subst hy
        simp only [pm_exp, if_neg hx, e1']
        rfl
      have hd2 : ((M n).2.2.1.dropWhile (fun r => decide (r < 2048))).length ≤ 8 := Nat.le_trans (List.dropWhile_sublist _).length_le p8
      obtain ⟨F1, F2, F3, F4, F5, F6, F7, F8, F9, F10, F11, F12, A1, A2, A3, A4, A5, A6, A7, A8, A9, A10, A11, A12, A13, A14, A15, A16, A17, A18, A19⟩ := v1
      have hargs := zc_argsL (post := post) (n := n) (cnt := (M n).2.1) (pt := (M n).2.2.1) (q := (M, S, d, c, o, x + 1)) (w := w) (lim := lim) (rn := rn) hL hC hn p8 hpt g3 hc8 hmm.2.1 (M n).2.1 ((M n).2.2.1.takeWhile (fun r => decide (r < 2048))) ((M n).2.2.1.dropWhile (fun r => decide (r < 2048))) [] T1 ar ast aln 0 ((M n).2.1 + 1) _ _ _ _ _ _ _ _ _ _ _ _ _ _ _ _ _ _ _ _ _ _ _ _ _ _ _ _ _ _ _ rfl List.takeWhile_append_dropWhile.symm (by rw [xv_cnt2]; exact pcnt) (fun hp => xv_cnt (a := 0) (by rw [pcnt]; exact hp)) (by omega) (by decide) hR1 hI1 h10 (fun i hi => absurd hi (Nat.not_lt_zero _)) (fun T2 ar' ast' aln' v' y1 y2 => ?_) (fun as T2 ar' ast' aln' tot' v' y1 y2 y3 y4 => ?_)
      · have e0 : ([] : List Nat).length + ((M n).2.2.1.takeWhile (fun r => decide (r < 2048))).length = ((M n).2.2.1.takeWhile (fun r => decide (r < 2048))).length := Nat.zero_add _
        rw [e0]
        exact ⟨_, hargs⟩
      · refine K ar' ast' aln' v' ?_
        rw [hexp _ y1]
        exact y2
      · obtain ⟨q1, q2, q3⟩ := pi_args hC _ _ _ [] _ _ _ t1.1 h10 hd2 (fun y hy => (nomatch hy)) y1
        obtain ⟨q4, q5, q6⟩ := q2 as rfl
        have q5' : as.length = (M n).2.1 := by rw [q5]; exact Nat.zero_add _
        have hex := hexp _ y1
        obtain ⟨F1, F2, F3, F4, F5, F6, F7, F8, F9, F10, F11, F12, A1, A2, A3, A4, A5, A6, A7, A8, A9, A10, A11, A12, A13, A14, A15, A16, A17, A18, A19⟩ := v'
        refine ze_put (T := T2) (m := M n) hn (yl_MM y4 n hn) hk' p24 (by omega) y2 y3 (fun t ht => ?_) y4 q4 q1.1.2.2.2.1 (fun hle v'' hu => ?_) (fun hle v'' hu => ?_)
        · rcases prt t ht with z | z
          · exact Or.inl (xs_tok hk32 z)
          · exact Or.inr ⟨z.1, by omega⟩
        · exact K ar' ast' aln' v'' (by rw [hex]; show yr_R L lim (if _ then _ else _) w ar' ast' aln' rn v''; rw [if_neg (by omega)]; exact hu)
        · exact K ar' ast' aln' v'' (by rw [hex]; show yr_R L lim (if _ then _ else _) w ar' ast' aln' rn v''; rw [if_pos hle]; exact hu)
    · refine K ar ast aln v1 ?_
      simp only [pm_exp, if_neg hx, e1']
      exact hR1
end ZE
