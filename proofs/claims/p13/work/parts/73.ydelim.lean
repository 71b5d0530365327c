section YV
variable {L : List Nat} {lim : Nat} {w : yr_W} {ar ast aln : Nat → Int32} {rn : Int32} {v : SY} {post : Int32 → SY → Prop} {F1 F2 F3 F4 F5 F6 F7 F8 F9 F10 F11 F12 : Int32} {A1 A2 A3 A4 A5 A6 A7 A8 A9 A10 A11 A12 A13 A14 A15 A16 A17 A18 A19 : Nat → Int32}
theorem yv_I {pre : List Nat} {T : pm_T} {Q : pm_Q} (hI : pi_I lim (T, Q)) (hp : ∀ t, t ∈ pre → pi_tok T.2.2.2.length t) (hl : pre.length + T.2.2.1.length ≤ 256) : pi_I lim (pm_fronts pre T, Q) := by
  obtain ⟨⟨a, b, c, d, e⟩, f⟩ := hI
  refine ⟨⟨a, b, c, by show (pre ++ T.2.2.1).length ≤ 256; rw [List.length_append]; exact hl, fun t ht => ?_⟩, f⟩
  rcases List.mem_append.mp ht with ht | ht
  · exact hp t ht
  · exact e t ht
/-- a state with another pending list -/
theorem yv_pend {st : Nat} {rest ps ps' : List Nat} {ns : List (List Nat)} {Q : pm_Q} {pend' : Nat → Int32} (h : yr_R L lim ((st, rest, ps, ns), Q) w ar ast aln rn (F1, F2, F3, F4, F5, F6, F7, F8, F9, F10, F11, F12, A1, A2, A3, A4, A5, A6, A7, A8, A9, A10, A11, A12, A13, A14, A15, A16, A17, A18, A19)) (hp : xr_L pend' ps') : yr_R L lim ((st, rest, ps', ns), Q) w ar ast aln rn (F1, F2, F3, F4, F5, F6, nI ps'.length, F8, F9, F10, F11, F12, A1, A2, pend', A4, A5, A6, A7, A8, A9, A10, A11, A12, A13, A14, A15, A16, A17, A18, A19) := by
  obtain ⟨C, M, S, d, c, o, x⟩ := Q
  obtain ⟨ip, pc, inp, cat, pend, out, nl, nch, si, sl, cd, stk, e, h1, hs, h2⟩ := h
  cases e
  exact ⟨_, _, _, _, _, _, _, _, _, _, _, _, rfl, h1, ⟨hs.1, fun z => ⟨(hs.2 z).1, rfl, hp⟩⟩, h2⟩
theorem yv_any {k : Nat} {r1 p1 r2 p2 : List Nat} {ns : List (List Nat)} {Q : pm_Q} (hk : k ≠ 0) (h : yr_R L lim ((k, r1, p1, ns), Q) w ar ast aln rn v) : yr_R L lim ((k, r2, p2, ns), Q) w ar ast aln rn v := by
  obtain ⟨C, M, S, d, c, o, x⟩ := Q
  obtain ⟨ip, pc, inp, cat, pend, out, nl, nch, si, sl, cd, stk, e, h1, hs, h2⟩ := h
  exact ⟨ip, pc, inp, cat, pend, out, nl, nch, si, sl, cd, stk, e, h1, ⟨hs.1, fun z => absurd z hk⟩, h2⟩
theorem yv_pl {T : pm_T} {Q : pm_Q} (h : yr_R L lim (T, Q) w ar ast aln rn (F1, F2, F3, F4, F5, F6, F7, F8, F9, F10, F11, F12, A1, A2, A3, A4, A5, A6, A7, A8, A9, A10, A11, A12, A13, A14, A15, A16, A17, A18, A19)) (h0 : T.1 = 0) : F7 = nI T.2.2.1.length ∧ xr_L A3 T.2.2.1 := by
  obtain ⟨st, rest, ps, ns⟩ := T
  obtain ⟨C, M, S, d, c, o, x⟩ := Q
  obtain ⟨ip, pc, inp, cat, pend, out, nl, nch, si, sl, cd, stk, e, h1, hs, h2⟩ := h
  cases e
  exact (hs.2 h0).2
theorem yv_peek {pre : List Nat} {T : pm_T} {Q : pm_Q} (hL : xr_I L) (h8 : pre.length ≤ 8) (hR : yr_R L lim (pm_fronts pre T, Q) w ar ast aln rn v) (hI : pi_I lim (T, Q)) (hp : ∀ t, t ∈ pre → pi_tok T.2.2.2.length t) (hl : pre.length + T.2.2.1.length ≤ 256) (h0 : T.1 = 0)
    (K1 : ∀ t T' v', pm_take 3 Q.1 T = (some t, T') → yr_R L lim (pm_fronts (pre ++ [t]) T', Q) w ar ast aln rn v' → post (nI t) v')
    (K2 : ∀ T' v', pm_take 3 Q.1 T = (none, T') → T'.1 ≠ 0 → yr_R L lim (T', Q) w ar ast aln rn v' → post (-1) v') : wpY_peek post v (nI pre.length) := by
  have hC : ∀ a, a < 128 → Q.1 a < 8 := by obtain ⟨C, M, S, d, c, o, x⟩ := Q; exact hI.2.1
  have hIf := yv_I hI hp hl
  obtain ⟨st, rest, ps, ns⟩ := T
  have h0' : st = 0 := h0
  subst h0'
  obtain ⟨F1, F2, F3, F4, F5, F6, F7, F8, F9, F10, F11, F12, A1, A2, A3, A4, A5, A6, A7, A8, A9, A10, A11, A12, A13, A14, A15, A16, A17, A18, A19⟩ := v
  obtain ⟨y1, y2⟩ := yv_pl hR rfl
  have y1' : F7 = nI (pre ++ ps).length := y1
  have y2' : xr_L A3 (pre ++ ps) := y2
  cases ps with
  | cons t ps =>
    have hlt : pre.length < (pre ++ t :: ps).length := by rw [List.length_append]; exact Nat.lt_add_of_pos_right (Nat.succ_pos _)
    have hl' : pre.length + (t :: ps).length ≤ 256 := hl
    have hpl : (pre ++ t :: ps).length = pre.length + (t :: ps).length := List.length_append
    refine ⟨1, br_f (by decide) (br_t (by rw [y1']; exact nI_lt hlt (by omega)) ⟨vp_in_nI (by omega) (by decide), ?_⟩)⟩
    rw [nI_clamp (by omega), xt_at y2']
    refine K1 t (0, rest, ps, ns) _ rfl ?_
    have ef : pm_fronts (pre ++ [t]) (0, rest, ps, ns) = pm_fronts pre (0, rest, t :: ps, ns) := by
      show (0, rest, (pre ++ [t]) ++ ps, ns) = (0, rest, pre ++ (t :: ps), ns)
      rw [List.append_assoc]
      rfl
    rw [ef]
    exact hR
  | nil =>
    have hpl : (pre ++ ([] : List Nat)).length = pre.length := by rw [List.append_nil]
    refine ⟨2, br_f (by decide) (br_f (by rw [y1', hpl]; exact nI_nlt (Nat.le_refl _) (by omega)) ?_)⟩
    refine yk_wraw hL hR hIf rfl (fun t T' v' z z0 hv => ?_) (fun T' v' z z0 hv => ?_) (fun v' z hv => ?_)
    · have ztk : pm_take 3 Q.1 (0, rest, [], ns) = (some t, T') := z 3
      obtain ⟨p1, p2, p3, p4⟩ := pi_tk hI.1 hC rfl ztk
      have hb := xs_tok p1.1.1.2.1 p3
      have ep : T'.2.2.1 = [] := pi_raw_ps rest (z 3)
      obtain ⟨st', rest', ps', ns'⟩ := T'
      have ep' : ps' = [] := ep
      subst ep'
      have hv' : yr_R L lim ((st', rest', pre ++ [], ns'), Q) w ar ast aln rn v' := hv
      rw [List.append_nil] at hv'
      have z0' : st' = 0 := z0
      subst z0'
      obtain ⟨F1, F2, F3, F4, F5, F6, F7, F8, F9, F10, F11, F12, A1, A2, A3, A4, A5, A6, A7, A8, A9, A10, A11, A12, A13, A14, A15, A16, A17, A18, A19⟩ := v'
      obtain ⟨x1, x2⟩ := yv_pl hv' rfl
      have x1' : F7 = nI pre.length := x1
      refine br_t (nI_pos' (by omega)) ⟨by rw [x1']; exact vp_in_nI (by omega) (by decide), fun pend' e => nm_r (show F7 + 1 = nI (pre.length + 1) by rw [x1', nI_1]) (nm_e ?_)⟩
      rw [x1', nI_clamp (by omega)] at e
      subst e
      refine br_f (by decide) (br_t (nI_lt (Nat.lt_succ_self _) (by omega)) ⟨vp_in_nI (by omega) (by decide), ?_⟩)
      rw [nI_clamp (by omega), pk_us]
      refine K1 t (0, rest', [], ns') _ ztk ?_
      have hpd := yv_pend (ps' := pre ++ [t]) (pend' := upd A3 pre.length (nI t)) hv' (xr_L_push x2)
      rw [List.length_append] at hpd
      have ef : pm_fronts (pre ++ [t]) (0, rest', [], ns') = (0, rest', pre ++ [t], ns') := by
        show (0, rest', (pre ++ [t]) ++ [], ns') = _
        rw [List.append_nil]
      rw [ef]
      exact hpd
    · have k := K2 T' v' (z 3) z0 hv
      obtain ⟨F1, F2, F3, F4, F5, F6, F7, F8, F9, F10, F11, F12, A1, A2, A3, A4, A5, A6, A7, A8, A9, A10, A11, A12, A13, A14, A15, A16, A17, A18, A19⟩ := v'
      exact br_f (by decide) (br_f (yk_f1 hv z0) k)
    · obtain ⟨F1, F2, F3, F4, F5, F6, F7, F8, F9, F10, F11, F12, A1, A2, A3, A4, A5, A6, A7, A8, A9, A10, A11, A12, A13, A14, A15, A16, A17, A18, A19⟩ := v'
      refine br_f (by decide) (br_t (yk_f0 hv rfl) ?_)
      exact K2 (3, [], [], ns) _ (z 3) (by show 3 ≠ 0; decide) (yv_any (by decide) (yk_err (k := 3) (by decide) hv))
end YV
