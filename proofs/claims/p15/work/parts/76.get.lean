section QP
variable {ns : List (List Nat)} {Q : pm_Q} {u : St1} {post : Int32 → Prop}
theorem qp_cat {c : Nat} (h : qi_D ns Q u) (hc : c < 128) (K : post (nI (Q.1 c))) : wpX_catcode post u (nI c) := by
  obtain ⟨hV, L, mm, ar, ast, ae, au, al, hcn, hR⟩ := h
  obtain ⟨C, M, S, d, cs, o, x⟩ := Q
  obtain ⟨ip, pc, inp, out, pend, cat, nch, nl, si, sl, sv, cd, held, rfl, x1, xs, x2, x3, x4, x5, x6, x7⟩ := hR
  refine br_f (nI_pos (by omega)) (br_f (nI_ge (b := 128) hc (by decide)) ⟨vp_in_nI hc (by decide), ?_⟩)
  rw [nI_clamp (by omega), x3 c hc]
  exact K
theorem qp_nc (h : qi_D ns Q u) (K : post (nI ns.length)) : wpX_nameCount post u := by
  obtain ⟨hV, L, mm, ar, ast, ae, au, al, hcn, hR⟩ := h
  obtain ⟨C, M, S, d, cs, o, x⟩ := Q
  obtain ⟨ip, pc, inp, out, pend, cat, nch, nl, si, sl, sv, cd, held, rfl, x1⟩ := hR
  exact K
theorem qp_st (h : qi_D ns Q u) (K : post 1) : wpX_status post u := by
  obtain ⟨hV, L, mm, ar, ast, ae, au, al, hcn, hR⟩ := h
  obtain ⟨C, M, S, d, cs, o, x⟩ := Q
  obtain ⟨ip, pc, inp, out, pend, cat, nch, nl, si, sl, sv, cd, held, rfl, x1⟩ := hR
  exact K
theorem qp_nl {j : Nat} (h : qi_D ns Q u) (hj : j < ns.length) (K : post (nI (ns.getD j []).length)) : wpX_nameLength post u (nI j) := by
  obtain ⟨hV, L, mm, ar, ast, ae, au, al, hcn, hR⟩ := h
  have hk : ns.length ≤ 32 := hV.1.1.1.2.1
  obtain ⟨C, M, S, d, cs, o, x⟩ := Q
  obtain ⟨ip, pc, inp, out, pend, cat, nch, nl, si, sl, sv, cd, held, rfl, x1, xs, x2, x3, x4, x5, x6, x7⟩ := hR
  unfold wpX_nameLength
  refine gt_isIn hj hk (br_f ci_10 ⟨vp_in_nI (by omega) (by decide), ?_⟩)
  rw [nI_clamp (by omega), (x4 j hj).1]
  exact K
theorem qp_nch {j c : Nat} (h : qi_D ns Q u) (hj : j < ns.length) (hn : ns.getD j [] = [c]) (K : post (nI c)) : wpX_nameChar post u (nI j) 0 := by
  obtain ⟨hV, L, mm, ar, ast, ae, au, al, hcn, hR⟩ := h
  have hk : ns.length ≤ 32 := hV.1.1.1.2.1
  obtain ⟨C, M, S, d, cs, o, x⟩ := Q
  obtain ⟨ip, pc, inp, out, pend, cat, nch, nl, si, sl, sv, cd, held, rfl, x1, xs, x2, x3, x4, x5, x6, x7⟩ := hR
  obtain ⟨n1, n2⟩ := x4 j hj
  rw [hn] at n1 n2
  unfold wpX_nameChar
  have ix : nI j * 11 + 0 = nI (j * 11) := by
    have : nI j * 11 = nI (j * 11) := pk_mul j 11
    rw [this, Int32.add_zero]
  refine gt_isIn hj hk (br_f ci_10 (br_f (by decide) ⟨vp_in_nI (by omega) (by decide), br_t ?_ ⟨by rw [ix]; exact vp_in_nI (by omega) (by decide), ?_⟩⟩))
  · rw [nI_clamp (by omega), n1]
    show (0 : Int32) < nI 1
    decide
  · rw [ix, nI_clamp (by omega)]
    have := n2 0 (by show 0 < 1; decide)
    rw [Nat.add_zero] at this
    rw [this]
    exact K
theorem qp_mk {j : Nat} (h : qi_D ns Q u) (hj : j < ns.length) (K : post (nI (Q.2.1 j).1)) : wpX_meaningKind post u (nI j) := by
  obtain ⟨hV, L, mm, ar, ast, ae, au, al, hcn, hR⟩ := h
  have hk : ns.length ≤ 32 := hV.1.1.1.2.1
  obtain ⟨C, M, S, d, cs, o, x⟩ := Q
  obtain ⟨ip, pc, inp, out, pend, cat, nch, nl, si, sl, sv, cd, held, rfl, x1, xs, x2, x3, x4, x5, x6, x7⟩ := hR
  unfold wpX_meaningKind
  have ix : nI j * 36 + 0 = nI (j * 36) := gt_36 j 0
  refine gt_isIn hj hk (br_f ci_10 ⟨by rw [ix]; exact vp_in_nI (by omega) (by decide), ?_⟩)
  have := x5 j (by omega) 0 (by decide)
  rw [Nat.add_zero] at this
  rw [ix, nI_clamp (by omega), this]
  exact K
theorem qp_mv {j : Nat} (h : qi_D ns Q u) (hj : j < ns.length) (K : post (nI (Q.2.1 j).2.1)) : wpX_meaningValue post u (nI j) := by
  obtain ⟨hV, L, mm, ar, ast, ae, au, al, hcn, hR⟩ := h
  have hk : ns.length ≤ 32 := hV.1.1.1.2.1
  obtain ⟨C, M, S, d, cs, o, x⟩ := Q
  obtain ⟨ip, pc, inp, out, pend, cat, nch, nl, si, sl, sv, cd, held, rfl, x1, xs, x2, x3, x4, x5, x6, x7⟩ := hR
  unfold wpX_meaningValue
  have ix : nI j * 36 + 1 = nI (j * 36 + 1) := gt_36 j 1
  refine gt_isIn hj hk (br_f ci_10 ⟨by rw [ix]; exact vp_in_nI (by omega) (by decide), ?_⟩)
  have := x5 j (by omega) 1 (by decide)
  rw [ix, nI_clamp (by omega), this]
  exact K
theorem qp_tl {p0 p1 : Int32} (h : qi_D ns Q u) (K : post (mt_l (mt_t Q.2.1 p0 p1))) : wpX_macroTextLength post u p0 p1 := by
  obtain ⟨hV, L, mm, ar, ast, ae, au, al, hcn, hR⟩ := h
  have hk : ns.length ≤ 32 := hV.1.1.1.2.1
  obtain ⟨C, M, S, d, cs, o, x⟩ := Q
  have hM : pi_M ns.length M := hV.1.2.2.1
  obtain ⟨ip, pc, inp, out, pend, cat, nch, nl, si, sl, sv, cd, held, rfl, x1, xs, x2, x3, x4, x5, x6, x7⟩ := hR
  unfold wpX_macroTextLength
  exact ig_xtl hk x5 (ih_small hk hM).1 hM.2.2 K
theorem qp_tk {p0 p1 p2 : Int32} (h : qi_D ns Q u) (K : post (mt_k (mt_t Q.2.1 p0 p1) p2)) : wpX_macroTextToken post u p0 p1 p2 := by
  obtain ⟨hV, L, mm, ar, ast, ae, au, al, hcn, hR⟩ := h
  have hk : ns.length ≤ 32 := hV.1.1.1.2.1
  obtain ⟨C, M, S, d, cs, o, x⟩ := Q
  have hM : pi_M ns.length M := hV.1.2.2.1
  obtain ⟨ip, pc, inp, out, pend, cat, nch, nl, si, sl, sv, cd, held, rfl, x1, xs, x2, x3, x4, x5, x6, x7⟩ := hR
  exact ig_xtk hk x5 (ih_small hk hM).1 (ih_small hk hM).2 hM.2.2 K
end QP
