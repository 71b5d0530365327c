section ZC
variable {L : List Nat} {lim : Nat} {w : yr_W} {ar ast aln : Nat → Int32} {rn : Int32} {v : SY} {post : SY → Prop} {F1 F2 F3 F4 F5 F6 F7 F8 F9 F10 F11 F12 : Int32} {A1 A2 A3 A4 A5 A6 A7 A8 A9 A10 A11 A12 A13 A14 A15 A16 A17 A18 A19 : Nat → Int32}
theorem zc_pre {C : Nat → Nat} {q : (Nat → pm_Mn) × List pm_Sv × Nat × List Nat × List Nat × Nat} {pt : List Nat} {n : Nat} (hL : xr_I L) (hC : ∀ a, a < 128 → C a < 8) (hn : n < 32) (h8 : pt.length ≤ 8) (hpt : ∀ t, t ∈ pt → t < 4096) (hD : ∀ j, j < pt.length → w.2.2.2.2.1 (n * 8 + j) = nI (pt.getD j 0)) :
    ∀ (rest pre : List Nat) (T : pm_T) (N : Nat) (F1 F2 F3 F4 F5 F6 F7 F8 F9 F10 F11 F12 : Int32) (A1 A2 A3 A4 A5 A6 A7 A8 A9 A10 A11 A12 A13 A14 A15 A16 A17 A18 A19 : Nat → Int32), pt = pre ++ rest → rest.length < N → yr_R L lim (T, C, q) w ar ast aln rn (F1, F2, F3, F4, F5, F6, F7, F8, F9, F10, F11, F12, A1, A2, A3, A4, A5, A6, A7, A8, A9, A10, A11, A12, A13, A14, A15, A16, A17, A18, A19) → pi_I lim (T, C, q) → T.1 = 0 →
    (∀ T' v', pm_pre C (rest.takeWhile (fun r => decide (r < 2048))) T = (true, T') → yr_R L lim (T', C, q) w ar ast aln rn v' → (match v' with | (F1, F2, F3, F4, F5, F6, F7, F8, F9, F10, F11, F12, A1, A2, A3, A4, A5, A6, A7, A8, A9, A10, A11, A12, A13, A14, A15, A16, A17, A18, A19) => ∃ n108 : Nat, wY_expand_108 post (nI n) (nI pt.length) n108 (nI (pre.length + (rest.takeWhile (fun r => decide (r < 2048))).length)) 0 0 F1 F2 F3 F4 F5 F6 F7 F8 F9 F10 F11 F12 A1 A2 A3 A4 A5 A6 A7 A8 A9 A10 A11 A12 A13 A14 A15 A16 A17 A18 A19)) →
    (∀ T' v', pm_pre C (rest.takeWhile (fun r => decide (r < 2048))) T = (false, T') → yr_R L lim (T', C, q) w ar ast aln rn v' → post v') →
    wY_expand_37 post (nI n) (nI pt.length) N (nI pre.length) F1 F2 F3 F4 F5 F6 F7 F8 F9 F10 F11 F12 A1 A2 A3 A4 A5 A6 A7 A8 A9 A10 A11 A12 A13 A14 A15 A16 A17 A18 A19 := by
  intro rest
  induction rest with
  | nil =>
    intro pre T N F1 F2 F3 F4 F5 F6 F7 F8 F9 F10 F11 F12 A1 A2 A3 A4 A5 A6 A7 A8 A9 A10 A11 A12 A13 A14 A15 A16 A17 A18 A19 hf hN hR hI h0 K1 K0
    obtain ⟨N, rfl⟩ : ∃ m, N = m + 1 := ⟨N - 1, by omega⟩
    have el : pt.length = pre.length := by rw [hf, List.append_nil]
    exact br_t (by rw [el]; exact nI_le (Nat.le_refl _) (by omega)) (K1 T _ rfl hR)
  | cons a rest ih =>
    intro pre T N F1 F2 F3 F4 F5 F6 F7 F8 F9 F10 F11 F12 A1 A2 A3 A4 A5 A6 A7 A8 A9 A10 A11 A12 A13 A14 A15 A16 A17 A18 A19 hf hN hR hI h0 K1 K0
    obtain ⟨N, rfl⟩ : ∃ m, N = m + 1 := ⟨N - 1, by omega⟩
    have hN' : rest.length + 1 < N + 1 := hN
    have el : pt.length = pre.length + (rest.length + 1) := by rw [hf, List.length_append]; rfl
    have ha : a < 4096 := hpt a (by rw [hf]; exact List.mem_append_right _ List.mem_cons_self)
    have e8 : nI n * 8 + nI pre.length = nI (n * 8 + pre.length) := by rw [← nI_add, ← pk_mul]; rfl
    have hv : w.2.2.2.2.1 (nI n * 8 + nI pre.length).toNatClampNeg = nI a := by
      rw [e8, nI_clamp (by omega), hD pre.length (by omega), hf, xv_at]
    obtain ⟨z1, z2, z3, z4, z5, z6⟩ := yl_tab hR
    have hv1 : A11 (nI n * 8 + nI pre.length).toNatClampNeg = nI a := by rw [z5]; exact hv
    refine br_f (nI_ge (by omega) (by omega)) ⟨by rw [e8]; exact vp_in_nI (by omega) (by decide), ?_⟩
    rw [hv1]
    by_cases hlt : a < 2048
    · have htw : (a :: rest).takeWhile (fun r => decide (r < 2048)) = a :: rest.takeWhile (fun r => decide (r < 2048)) := List.takeWhile_cons_of_pos (by simpa using hlt)
      rw [htw] at K1 K0
      refine br_f (nI_ge (b := 2048) hlt (by decide)) ?_
      refine yk_need hL hR hI h0 (fun t T1 v1 e1 hR1 => ?_) (fun T1 v1 e1 hne hR1 => ?_)
      · have e1' : pm_take 3 C T = (some t, T1) := e1
        obtain ⟨p1, p2, p3, p4⟩ := pi_tk hI.1 hC h0 e1'
        have hb := xs_tok p1.1.1.2.1 p3
        have hI1 := pi_toI hI p1
        obtain ⟨F1, F2, F3, F4, F5, F6, F7, F8, F9, F10, F11, F12, A1, A2, A3, A4, A5, A6, A7, A8, A9, A10, A11, A12, A13, A14, A15, A16, A17, A18, A19⟩ := v1
        obtain ⟨y1, y2, y3, y4, y5, y6⟩ := yl_tab hR1
        have hv2 : A11 (nI n * 8 + nI pre.length).toNatClampNeg = nI a := by rw [y5]; exact hv
        refine br_t (yk_f0 hR1 p2) ⟨by rw [e8]; exact vp_in_nI (by omega) (by decide), ?_⟩
        rw [hv2]
        by_cases hta : t = a
        · subst hta
          refine br_t rfl (nm_r (nI_1 _) ?_)
          have e2 : pre.length + 1 = (pre ++ [t]).length := by rw [List.length_append]; rfl
          have hrec : ∀ y, pm_pre C (rest.takeWhile (fun r => decide (r < 2048))) T1 = y → pm_pre C (t :: rest.takeWhile (fun r => decide (r < 2048))) T = y := fun y hy => by
            simp only [pm_pre, e1', if_pos]
            exact hy
          have e3 : (pre ++ [t]).length + (rest.takeWhile (fun r => decide (r < 2048))).length = pre.length + (t :: rest.takeWhile (fun r => decide (r < 2048))).length := by
            rw [List.length_append, List.length_cons]
            simp only [List.length_cons, List.length_nil]
            omega
          rw [e2]
          refine ih (pre ++ [t]) T1 N _ _ _ _ _ _ _ _ _ _ _ _ _ _ _ _ _ _ _ _ _ _ _ _ _ _ _ _ _ _ _ (by rw [hf, List.append_assoc]; rfl) (by omega) hR1 hI1 p2 (fun T' v' z => ?_) (fun T' v' z => K0 T' v' (hrec _ z))
          rw [e3]
          exact K1 T' v' (hrec _ z)
        · refine br_f (fun z => hta ((nI_eq (by omega) (by omega)).mp z)) (K0 (pm_err 8 T1) _ ?_ (yk_err (k := 8) (by decide) hR1))
          simp only [pm_pre, e1', if_neg hta]
      · have e1' : pm_take 3 C T = (none, T1) := e1
        have k := K0 T1 v1 (by simp only [pm_pre, e1']) hR1
        obtain ⟨F1, F2, F3, F4, F5, F6, F7, F8, F9, F10, F11, F12, A1, A2, A3, A4, A5, A6, A7, A8, A9, A10, A11, A12, A13, A14, A15, A16, A17, A18, A19⟩ := v1
        exact br_f (yk_f1 hR1 hne) k
    · have htw : (a :: rest).takeWhile (fun r => decide (r < 2048)) = [] := List.takeWhile_cons_of_neg (by simpa using hlt)
      rw [htw] at K1
      exact br_t (nI_le (a := 2048) (by omega) (by omega)) (K1 T _ rfl hR)
theorem zc_de {pt : List Nat} {n tot k j0 : Nat} {J : Nat} (hn : n < 32) (h8 : pt.length ≤ 8) (hpt : ∀ t, t ∈ pt → t < 4096) (hD : ∀ j, j < pt.length → A11 (n * 8 + j) = nI (pt.getD j 0)) : ∀ (rest pre : List Nat) (N : Nat), pt = pre ++ rest → rest.length < N → wY_expand_154 post (wY_expand_108 post (nI n) (nI pt.length) J) (nI n) (nI pt.length) (nI j0) (nI tot) (nI k) (nI (pre.length + (rest.takeWhile (fun r => decide (r < 2048))).length)) F1 F2 F3 F4 F5 F6 F7 F8 F9 F10 F11 F12 A1 A2 A3 A4 A5 A6 A7 A8 A9 A10 A11 A12 A13 A14 A15 A16 A17 A18 A19 → wY_expand_124 post (wY_expand_108 post (nI n) (nI pt.length) J) (nI n) (nI pt.length) (nI j0) (nI tot) (nI k) F1 F2 F3 F4 F5 F6 F7 F8 F9 F10 F11 F12 A1 A2 A3 A4 A5 A6 A7 A8 A9 A10 A11 A12 A13 A14 A15 A16 A17 A18 A19 N (nI pre.length) := by
  intro rest
  induction rest with
  | nil =>
    intro pre N hf hN K
    obtain ⟨N, rfl⟩ : ∃ m, N = m + 1 := ⟨N - 1, by omega⟩
    have el : pt.length = pre.length := by rw [hf, List.append_nil]
    exact br_t (by rw [el]; exact nI_le (Nat.le_refl _) (by omega)) K
  | cons a rest ih =>
    intro pre N hf hN K
    obtain ⟨N, rfl⟩ : ∃ m, N = m + 1 := ⟨N - 1, by omega⟩
    have hN' : rest.length + 1 < N + 1 := hN
    have el : pt.length = pre.length + (rest.length + 1) := by rw [hf, List.length_append]; rfl
    have ha : a < 4096 := hpt a (by rw [hf]; exact List.mem_append_right _ List.mem_cons_self)
    have e8 : nI n * 8 + nI pre.length = nI (n * 8 + pre.length) := by rw [← nI_add, ← pk_mul]; rfl
    have hv : A11 (nI n * 8 + nI pre.length).toNatClampNeg = nI a := by
      rw [e8, nI_clamp (by omega), hD pre.length (by omega), hf, xv_at]
    refine br_f (nI_ge (by omega) (by omega)) ⟨by rw [e8]; exact vp_in_nI (by omega) (by decide), ?_⟩
    rw [hv]
    by_cases hlt : a < 2048
    · have htw : (a :: rest).takeWhile (fun r => decide (r < 2048)) = a :: rest.takeWhile (fun r => decide (r < 2048)) := List.takeWhile_cons_of_pos (by simpa using hlt)
      rw [htw] at K
      refine br_f (nI_ge (b := 2048) hlt (by decide)) (nm_r (nI_1 _) ?_)
      have e2 : pre.length + 1 = (pre ++ [a]).length := by rw [List.length_append]; rfl
      have e3 : (pre ++ [a]).length + (rest.takeWhile (fun r => decide (r < 2048))).length = pre.length + (a :: rest.takeWhile (fun r => decide (r < 2048))).length := by
        rw [List.length_append, List.length_cons]
        simp only [List.length_cons, List.length_nil]
        omega
      rw [e2]
      refine ih (pre ++ [a]) N (by rw [hf, List.append_assoc]; rfl) (by omega) ?_
      rw [e3]
      exact K
    · have htw : (a :: rest).takeWhile (fun r => decide (r < 2048)) = [] := List.takeWhile_cons_of_neg (by simpa using hlt)
      rw [htw] at K
      exact br_t (nI_le (a := 2048) (by omega) (by omega)) K
/-- the reference's arguments as they lie -/
def zc_As (ar ast aln : Nat → Int32) (tot : Nat) (as : List (List Nat)) : Prop := ∀ i, i < as.length → ∃ s, ast i = nI s ∧ aln i = nI (as.getD i []).length ∧ s + (as.getD i []).length ≤ tot ∧ xe_C ar s (as.getD i [])
theorem zc_push {ar ast aln ar' : Nat → Int32} {tot : Nat} {acc : List (List Nat)} {a : List Nat} (h : zc_As ar ast aln tot acc) (hf : ∀ j, j < tot → ar' j = ar j) (ha : xe_C ar' tot a) : zc_As ar' (upd ast acc.length (nI tot)) (upd aln acc.length (nI a.length)) (tot + a.length) (acc ++ [a]) := by
  intro i hi
  rw [List.length_append] at hi
  simp only [List.length_cons, List.length_nil] at hi
  by_cases e : i = acc.length
  · subst e
    rw [xr_getD_append_here]
    exact ⟨tot, pk_us, pk_us, Nat.le_refl _, ha⟩
  · rw [xr_getD_append_left (by omega)]
    obtain ⟨s, w1, w2, w3, w4⟩ := h i (by omega)
    exact ⟨s, (pk_un e).trans w1, (pk_un e).trans w2, by omega, fun j hj => (hf _ (by omega)).trans (w4 j hj)⟩
theorem zc_argsL {C : Nat → Nat} {q : (Nat → pm_Mn) × List pm_Sv × Nat × List Nat × List Nat × Nat} {pt : List Nat} {n cnt : Nat} (hL : xr_I L) (hC : ∀ a, a < 128 → C a < 8) (hn : n < 32) (h8 : pt.length ≤ 8) (hpt : ∀ t, t ∈ pt → t < 4096) (hD : ∀ j, j < pt.length → w.2.2.2.2.1 (n * 8 + j) = nI (pt.getD j 0)) (hc8 : cnt ≤ 8) (hval : w.2.1 n = nI cnt) :
    ∀ (m : Nat) (pre rest : List Nat) (acc : List (List Nat)) (T : pm_T) (ar ast aln : Nat → Int32) (tot N : Nat) (F1 F2 F3 F4 F5 F6 F7 F8 F9 F10 F11 F12 : Int32) (A1 A2 A3 A4 A5 A6 A7 A8 A9 A10 A11 A12 A13 A14 A15 A16 A17 A18 A19 : Nat → Int32), m + acc.length = cnt → pt = pre ++ rest → rest.countP (fun r => decide (2048 ≤ r)) = m → (0 < m → ∃ mk tl, rest = mk :: tl ∧ 2048 ≤ mk) → m < N → tot ≤ 256 → yr_R L lim (T, C, q) w ar ast aln rn (F1, F2, F3, F4, F5, F6, F7, F8, F9, F10, F11, F12, A1, A2, A3, A4, A5, A6, A7, A8, A9, A10, A11, A12, A13, A14, A15, A16, A17, A18, A19) → pi_I lim (T, C, q) → T.1 = 0 → zc_As ar ast aln tot acc →
    (∀ T' ar' ast' aln' v', pm_args false C m rest tot acc T = (none, T') → yr_R L lim (T', C, q) w ar' ast' aln' rn v' → post v') →
    (∀ as T' ar' ast' aln' tot' v', pm_args false C m rest tot acc T = (some as, T') → tot' ≤ 256 → zc_As ar' ast' aln' tot' as → yr_R L lim (T', C, q) w ar' ast' aln' rn v' → (match v' with | (F1, F2, F3, F4, F5, F6, F7, F8, F9, F10, F11, F12, A1, A2, A3, A4, A5, A6, A7, A8, A9, A10, A11, A12, A13, A14, A15, A16, A17, A18, A19) => ∃ n225 : Nat, wY_expand_225 post (nI n) F1 F2 F3 F4 F5 F6 F7 F8 F9 F10 F11 F12 A1 A2 A3 A4 A5 A6 A7 A8 A9 A10 A11 A12 A13 A14 A15 A16 A17 A18 A19 n225 0 0)) →
    wY_expand_108 post (nI n) (nI pt.length) N (nI pre.length) (nI tot) (nI acc.length) F1 F2 F3 F4 F5 F6 F7 F8 F9 F10 F11 F12 A1 A2 A3 A4 A5 A6 A7 A8 A9 A10 A11 A12 A13 A14 A15 A16 A17 A18 A19 := by
  intro m
  induction m with
  | zero =>
    intro pre rest acc T ar ast aln tot N F1 F2 F3 F4 F5 F6 F7 F8 F9 F10 F11 F12 A1 A2 A3 A4 A5 A6 A7 A8 A9 A10 A11 A12 A13 A14 A15 A16 A17 A18 A19 hm hs hcn hmk hN ht hR hI h0 hA K0 K1
    obtain ⟨N, rfl⟩ : ∃ m, N = m + 1 := ⟨N - 1, by omega⟩
    obtain ⟨z1, z2, z3, z4, z5, z6, z7, z8, z9⟩ := yl_tab hR
    refine ⟨vp_in_nI (by omega) (by decide), br_t ?_ (K1 acc T ar ast aln tot _ rfl ht hA hR)⟩
    rw [nI_clamp (by omega), z2, hval]
    exact nI_le (by omega) (by omega)
  | succ m ih =>
    intro pre rest acc T ar ast aln tot N F1 F2 F3 F4 F5 F6 F7 F8 F9 F10 F11 F12 A1 A2 A3 A4 A5 A6 A7 A8 A9 A10 A11 A12 A13 A14 A15 A16 A17 A18 A19 hm hs hcn hmk hN ht hR hI h0 hA K0 K1
    obtain ⟨N, rfl⟩ : ∃ m, N = m + 1 := ⟨N - 1, by omega⟩
    obtain ⟨mk, tl, hrest, hmk2⟩ := hmk (Nat.succ_pos _)
    subst hrest
    obtain ⟨z1, z2, z3, z4, z5, z6, z7, z8, z9⟩ := yl_tab hR
    have hl : pt.length = pre.length + (tl.length + 1) := by rw [hs, List.length_append]; rfl
    have hs2 : pt = (pre ++ [mk]) ++ tl := by rw [hs, List.append_assoc]; rfl
    have hpl : (pre ++ [mk]).length = pre.length + 1 := by rw [List.length_append]; rfl
    have hdl8 : (tl.takeWhile (fun r => decide (r < 2048))).length ≤ tl.length := (List.takeWhile_sublist _).length_le
    have hcn2 : tl.countP (fun r => decide (2048 ≤ r)) = m := by
      rw [List.countP_cons_of_pos (by simpa using hmk2)] at hcn
      omega
    have e1 : nI pre.length + 1 = nI (pre ++ [mk]).length := by rw [nI_1, hpl]
    refine ⟨vp_in_nI (by omega) (by decide), br_f ?_ (nm_r e1 ⟨tl.length + 1, ?_⟩)⟩
    · rw [nI_clamp (by omega), z2, hval]
      exact nI_ge (by omega) (by omega)
    refine zc_de hn h8 hpt (fun j hj => by rw [z5]; exact hD j hj) tl (pre ++ [mk]) _ hs2 (Nat.lt_succ_self _) ?_
    refine ⟨vp_in_nI (by omega) (by decide), fun ast' q1 => ?_⟩
    rw [nI_clamp (by omega)] at q1
    subst z7 z8 z9
    have hR' := yx_sc hR A16 ast' A18
    have ed : (pre ++ [mk]).length + (tl.takeWhile (fun r => decide (r < 2048))).length = pre.length + 1 + (tl.takeWhile (fun r => decide (r < 2048))).length := by rw [hpl]
    rw [ed, e1, hpl]
    refine zb_scan (room := 256 - tot) (s := tot) (ds := pre.length + 1) (dl := tl.takeWhile (fun r => decide (r < 2048))) (w := w) (ar := A16) (ast := ast') (aln := A18) (T := T) (q := q) hL hC (by omega) ht hn (by omega) (fun t ht => hpt t (by rw [hs2]; exact List.mem_append_right _ (List.takeWhile_subset _ ht))) (fun j hj => by
        have := hD (pre.length + 1 + j) (by omega)
        rw [show n * 8 + (pre.length + 1) + j = n * 8 + (pre.length + 1 + j) from by omega, this, hs2, ← hpl, List.getD_eq_getElem?_getD, List.getElem?_append_right (by omega), show (pre ++ [mk]).length + j - (pre ++ [mk]).length = j from by omega, ← List.getD_eq_getElem?_getD]
        have h2 := xr_getD_append_left (r := tl.dropWhile (fun r => decide (r < 2048))) (d := 0) hj
        rw [List.takeWhile_append_dropWhile] at h2
        exact congrArg nI h2) (by rw [q1, pk_us]) hR' hI h0 (fun r T1 ar' aln' v' w1 w2 w3 w4 => ?_)
    obtain ⟨b1, b2, b3⟩ := pi_arg hC (by omega) hI.1 h0 w1
    have hargs : pm_args false C (m + 1) (mk :: tl) tot acc T = (match (r, T1) with | (none, T1) => (none, T1) | (some a, T1) => if 256 < tot + a.length then (none, pm_err 16 T1) else pm_args false C m (tl.dropWhile (fun r => decide (r < 2048))) (tot + a.length) (acc ++ [a]) T1) := by
      show (match pm_arg false C (256 - tot) (tl.takeWhile (fun r => decide (r < 2048))) T with | (none, T1) => (none, T1) | (some a, T1) => if 256 < tot + a.length then (none, pm_err 16 T1) else pm_args false C m (tl.dropWhile (fun r => decide (r < 2048))) (tot + a.length) (acc ++ [a]) T1) = _
      rw [w1]
    cases r with
    | none =>
      have k := K0 T1 ar' ast' aln' v' hargs w4
      obtain ⟨F1, F2, F3, F4, F5, F6, F7, F8, F9, F10, F11, F12, A1, A2, A3, A4, A5, A6, A7, A8, A9, A10, A11, A12, A13, A14, A15, A16, A17, A18, A19⟩ := v'
      exact br_f (yk_f1 w4 (b3 rfl)) k
    | some a =>
      obtain ⟨c1, c2⟩ := w3 a rfl
      have g0 := (b2 a rfl).1
      have hI1 := pi_toI hI b1
      have hargs' : pm_args false C (m + 1) (mk :: tl) tot acc T = if 256 < tot + a.length then (none, pm_err 16 T1) else pm_args false C m (tl.dropWhile (fun r => decide (r < 2048))) (tot + a.length) (acc ++ [a]) T1 := hargs
      have hal : a.length ≤ pm_len T + 1 := zl_arg hC (by omega) hI.1 h0 w1
      have hle : pm_len T ≤ 512 := xe_len hI.1
      obtain ⟨F1, F2, F3, F4, F5, F6, F7, F8, F9, F10, F11, F12, A1, A2, A3, A4, A5, A6, A7, A8, A9, A10, A11, A12, A13, A14, A15, A16, A17, A18, A19⟩ := v'
      obtain ⟨y1, y2, y3, y4, y5, y6, y7, y8, y9⟩ := yl_tab w4
      have ea : nI tot + A18 (nI acc.length).toNatClampNeg = nI (tot + a.length) := by
        rw [nI_clamp (by omega), y9, c2, pk_us, nI_add]
      refine br_t (yk_f0 w4 g0) ⟨vp_in_nI (by omega) (by decide), nm_r ea ?_⟩
      by_cases h256 : 256 < tot + a.length
      · refine br_f (nI_ge (a := 256) h256 (by omega)) (K0 (pm_err 16 T1) ar' ast' aln' _ ?_ (yk_err (k := 16) (by decide) w4))
        rw [hargs', if_pos h256]
      · rw [if_neg h256] at hargs'
        have e3 : nI acc.length + 1 = nI (acc ++ [a]).length := by rw [nI_1, List.length_append]; rfl
        have e2 : pre.length + 1 + (tl.takeWhile (fun r => decide (r < 2048))).length = (pre ++ [mk] ++ tl.takeWhile (fun r => decide (r < 2048))).length := by
          rw [List.length_append (as := pre ++ [mk]), hpl]
        refine br_t (nI_le (b := 256) (by omega) (by decide)) (nm_r e3 ?_)
        rw [e2]
        refine ih (pre ++ [mk] ++ tl.takeWhile (fun r => decide (r < 2048))) (tl.dropWhile (fun r => decide (r < 2048))) (acc ++ [a]) T1 ar' ast' aln' (tot + a.length) N _ _ _ _ _ _ _ _ _ _ _ _ _ _ _ _ _ _ _ _ _ _ _ _ _ _ _ _ _ _ _ (by rw [List.length_append]; simp only [List.length_cons, List.length_nil]; omega) (by rw [List.append_assoc, List.takeWhile_append_dropWhile]; exact hs2) (by rw [xv_cnt2]; exact hcn2) (fun hpos => xv_cnt (a := 0) (by rw [hcn2]; exact hpos)) (by omega) (by omega) w4 hI1 g0 ?_ (fun T2 ar2 ast3 aln2 v2 y => K0 T2 ar2 ast3 aln2 v2 (by rw [hargs']; exact y)) (fun as T2 ar2 ast3 aln2 t2 v2 y => K1 as T2 ar2 ast3 aln2 t2 v2 (by rw [hargs']; exact y))
        rw [q1, c2]
        exact zc_push hA w2 c1
end ZC
