section IH
variable {u : SX} {v : SY} {p0 p1 p2 : Int32}
theorem ih_small {k : Nat} {M : Nat → pm_Mn} (hk : k ≤ 32) (hM : pi_M k M) : (∀ i, (M i).1 < 4096) ∧ ∀ i, (M i).2.2.1.length ≤ 8 ∧ (M i).2.2.2.length ≤ 24 := by
  have h : ∀ i, (∀ j, xr_e (M i) j < 4096) ∧ (M i).2.2.1.length ≤ 8 ∧ (M i).2.2.2.length ≤ 24 := fun i => by
    by_cases h4 : i = 4
    · rw [h4]
      exact xs_small hk (Or.inr hM.1)
    · exact xs_small hk (Or.inl (hM.2.1 i h4))
  exact ⟨fun i => (h i).1 0, fun i => (h i).2⟩
theorem ih_status {post : Int32 → Int32 → Prop} (I : i_R u v) (K : ∀ r r', post r r') : wpX_status (fun r => wpY_status (fun r' => post r r') v) u := by
  obtain ⟨L, lim, ⟨sx, restx, psx, nx⟩, ⟨sy, resty, psy, ny⟩, ⟨C, M, S, d, c, o, x⟩, mm, ar, ast, ae, au, al, hc, w, br, bst, bln, rn, hL, hX, hY, hI, hJ, h⟩ := I
  obtain ⟨ip, pc, inp, out, pend, cat, nch, nl, si, sl, sv, cd, held, rfl, x1, xs, x2, x3, x4, x5, x6, x7⟩ := hX
  obtain ⟨jp, qc, jnp, dat, qend, put, ml, mch, ti, tl, ce, stk, rfl, y1, ys, y2, y3, y4, y5, y6, y7⟩ := hY
  exact K _ _
theorem ih_used {post : Int32 → Int32 → Prop} (I : i_R u v) (K : ∀ r, post r r) : wpX_expansionsUsed (fun r => wpY_expansionsUsed (fun r' => post r r') v) u := by
  obtain ⟨L, lim, ⟨sx, restx, psx, nx⟩, ⟨sy, resty, psy, ny⟩, ⟨C, M, S, d, c, o, x⟩, mm, ar, ast, ae, au, al, hc, w, br, bst, bln, rn, hL, hX, hY, hI, hJ, h⟩ := I
  obtain ⟨ip, pc, inp, out, pend, cat, nch, nl, si, sl, sv, cd, held, rfl, x1, xs, x2, x3, x4, x5, x6, x7⟩ := hX
  obtain ⟨jp, qc, jnp, dat, qend, put, ml, mch, ti, tl, ce, stk, rfl, y1, ys, y2, y3, y4, y5, y6, y7⟩ := hY
  exact K _
theorem ih_olen {post : Int32 → Int32 → Prop} (I : i_R u v) (K : ∀ r, post r r) : wpX_outputLength (fun r => wpY_outputLength (fun r' => post r r') v) u := by
  obtain ⟨L, lim, ⟨sx, restx, psx, nx⟩, ⟨sy, resty, psy, ny⟩, ⟨C, M, S, d, c, o, x⟩, mm, ar, ast, ae, au, al, hc, w, br, bst, bln, rn, hL, hX, hY, hI, hJ, h⟩ := I
  obtain ⟨ip, pc, inp, out, pend, cat, nch, nl, si, sl, sv, cd, held, rfl, x1, xs, x2, x3, x4, x5, x6, x7⟩ := hX
  obtain ⟨jp, qc, jnp, dat, qend, put, ml, mch, ti, tl, ce, stk, rfl, y1, ys, y2, y3, y4, y5, y6, y7⟩ := hY
  exact K _
theorem ih_otok {post : Int32 → Int32 → Prop} (I : i_R u v) (K : ∀ r, post r r) : wpX_outputToken (fun r => wpY_outputToken (fun r' => post r r') v p0) u p0 := by
  obtain ⟨L, lim, ⟨sx, restx, psx, nx⟩, ⟨sy, resty, psy, ny⟩, ⟨C, M, S, d, c, o, x⟩, mm, ar, ast, ae, au, al, hc, w, br, bst, bln, rn, hL, hX, hY, hI, hJ, h⟩ := I
  obtain ⟨ip, pc, inp, out, pend, cat, nch, nl, si, sl, sv, cd, held, rfl, x1, xs, x2, x3, x4, x5, x6, x7⟩ := hX
  obtain ⟨jp, qc, jnp, dat, qend, put, ml, mch, ti, tl, ce, stk, rfl, y1, ys, y2, y3, y4, y5, y6, y7⟩ := hY
  have ho : o.length ≤ 256 := hI.2.2.2.2.2.2.2.2.2.1
  exact ig_otok ho (fun j hj => (x2 j hj).trans (y2 j hj).symm) K
theorem ih_cat {post : Int32 → Int32 → Prop} (I : i_R u v) (K : ∀ r, post r r) : wpX_catcode (fun r => wpY_catcode (fun r' => post r r') v p0) u p0 := by
  obtain ⟨L, lim, ⟨sx, restx, psx, nx⟩, ⟨sy, resty, psy, ny⟩, ⟨C, M, S, d, c, o, x⟩, mm, ar, ast, ae, au, al, hc, w, br, bst, bln, rn, hL, hX, hY, hI, hJ, h⟩ := I
  obtain ⟨ip, pc, inp, out, pend, cat, nch, nl, si, sl, sv, cd, held, rfl, x1, xs, x2, x3, x4, x5, x6, x7⟩ := hX
  obtain ⟨jp, qc, jnp, dat, qend, put, ml, mch, ti, tl, ce, stk, rfl, y1, ys, y2, y3, y4, y5, y6, y7⟩ := hY
  exact ig_cat (fun j hj => (x3 j hj).trans (y3 j hj).symm) K
theorem ih_gd {post : Int32 → Int32 → Prop} (I : i_R u v) (K : ∀ r, post r r) : wpX_groupDepth (fun r => wpY_groupDepth (fun r' => post r r') v) u := by
  obtain ⟨L, lim, ⟨sx, restx, psx, nx⟩, ⟨sy, resty, psy, ny⟩, ⟨C, M, S, d, c, o, x⟩, mm, ar, ast, ae, au, al, hc, w, br, bst, bln, rn, hL, hX, hY, hI, hJ, h⟩ := I
  obtain ⟨ip, pc, inp, out, pend, cat, nch, nl, si, sl, sv, cd, held, rfl, x1, xs, x2, x3, x4, x5, x6, x7⟩ := hX
  obtain ⟨jp, qc, jnp, dat, qend, put, ml, mch, ti, tl, ce, stk, rfl, y1, ys, y2, y3, y4, y5, y6, y7⟩ := hY
  exact K _
theorem ih_cd {post : Int32 → Int32 → Prop} (I : i_R u v) (K : ∀ r, post r r) : wpX_condDepth (fun r => wpY_condDepth (fun r' => post r r') v) u := by
  obtain ⟨L, lim, ⟨sx, restx, psx, nx⟩, ⟨sy, resty, psy, ny⟩, ⟨C, M, S, d, c, o, x⟩, mm, ar, ast, ae, au, al, hc, w, br, bst, bln, rn, hL, hX, hY, hI, hJ, h⟩ := I
  obtain ⟨ip, pc, inp, out, pend, cat, nch, nl, si, sl, sv, cd, held, rfl, x1, xs, x2, x3, x4, x5, x6, x7⟩ := hX
  obtain ⟨jp, qc, jnp, dat, qend, put, ml, mch, ti, tl, ce, stk, rfl, y1, ys, y2, y3, y4, y5, y6, y7⟩ := hY
  exact K _
theorem ih_nc {post : Int32 → Int32 → Prop} (I : i_R u v) (K : ∀ r r', post r r') : wpX_nameCount (fun r => wpY_nameCount (fun r' => post r r') v) u := by
  obtain ⟨L, lim, ⟨sx, restx, psx, nx⟩, ⟨sy, resty, psy, ny⟩, ⟨C, M, S, d, c, o, x⟩, mm, ar, ast, ae, au, al, hc, w, br, bst, bln, rn, hL, hX, hY, hI, hJ, h⟩ := I
  obtain ⟨ip, pc, inp, out, pend, cat, nch, nl, si, sl, sv, cd, held, rfl, x1, xs, x2, x3, x4, x5, x6, x7⟩ := hX
  obtain ⟨jp, qc, jnp, dat, qend, put, ml, mch, ti, tl, ce, stk, rfl, y1, ys, y2, y3, y4, y5, y6, y7⟩ := hY
  exact K _ _
theorem ih_nlen {post : Int32 → Int32 → Prop} (I : i_R u v) (K : ∀ r r', post r r') : wpX_nameLength (fun r => wpY_nameLength (fun r' => post r r') v p0) u p0 := by
  obtain ⟨L, lim, ⟨sx, restx, psx, nx⟩, ⟨sy, resty, psy, ny⟩, ⟨C, M, S, d, c, o, x⟩, mm, ar, ast, ae, au, al, hc, w, br, bst, bln, rn, hL, hX, hY, hI, hJ, h⟩ := I
  obtain ⟨ip, pc, inp, out, pend, cat, nch, nl, si, sl, sv, cd, held, rfl, x1, xs, x2, x3, x4, x5, x6, x7⟩ := hX
  obtain ⟨jp, qc, jnp, dat, qend, put, ml, mch, ti, tl, ce, stk, rfl, y1, ys, y2, y3, y4, y5, y6, y7⟩ := hY
  have hkx : nx.length ≤ 32 := hI.1.1.2.1
  have hky : ny.length ≤ 32 := hJ.1.1.2.1
  exact ig_xnl hkx (fun r => ig_ynl hky (fun r' => K _ _))
theorem ih_nch {post : Int32 → Int32 → Prop} (I : i_R u v) (K : ∀ r r', post r r') : wpX_nameChar (fun r => wpY_nameChar (fun r' => post r r') v p0 p1) u p0 p1 := by
  obtain ⟨L, lim, ⟨sx, restx, psx, nx⟩, ⟨sy, resty, psy, ny⟩, ⟨C, M, S, d, c, o, x⟩, mm, ar, ast, ae, au, al, hc, w, br, bst, bln, rn, hL, hX, hY, hI, hJ, h⟩ := I
  obtain ⟨ip, pc, inp, out, pend, cat, nch, nl, si, sl, sv, cd, held, rfl, x1, xs, x2, x3, x4, x5, x6, x7⟩ := hX
  obtain ⟨jp, qc, jnp, dat, qend, put, ml, mch, ti, tl, ce, stk, rfl, y1, ys, y2, y3, y4, y5, y6, y7⟩ := hY
  have hkx : nx.length ≤ 32 := hI.1.1.2.1
  have hky : ny.length ≤ 32 := hJ.1.1.2.1
  have hwx : ∀ v, v ∈ nx → v.length ≤ 11 := fun v hv => (hI.1.1.2.2.2 v hv).2.1
  have hwy : ∀ v, v ∈ ny → v.length ≤ 11 := fun v hv => (hJ.1.1.2.2.2 v hv).2.1
  exact ig_xnc hkx hwx x4 (fun r => ig_ync hky hwy y4 (fun r' => K _ _))
theorem ih_mk {post : Int32 → Int32 → Prop} (I : i_R u v) (K : ∀ r r', post r r') : wpX_meaningKind (fun r => wpY_meaningKind (fun r' => post r r') v p0) u p0 := by
  obtain ⟨L, lim, ⟨sx, restx, psx, nx⟩, ⟨sy, resty, psy, ny⟩, ⟨C, M, S, d, c, o, x⟩, mm, ar, ast, ae, au, al, hc, w, br, bst, bln, rn, hL, hX, hY, hI, hJ, h⟩ := I
  obtain ⟨ip, pc, inp, out, pend, cat, nch, nl, si, sl, sv, cd, held, rfl, x1, xs, x2, x3, x4, x5, x6, x7⟩ := hX
  obtain ⟨jp, qc, jnp, dat, qend, put, ml, mch, ti, tl, ce, stk, rfl, y1, ys, y2, y3, y4, y5, y6, y7⟩ := hY
  have hkx : nx.length ≤ 32 := hI.1.1.2.1
  have hky : ny.length ≤ 32 := hJ.1.1.2.1
  exact ig_xmk hkx (fun r => ig_ymk hky (fun r' => K _ _))
theorem ih_mv {post : Int32 → Int32 → Prop} (I : i_R u v) (K : ∀ r r', post r r') : wpX_meaningValue (fun r => wpY_meaningValue (fun r' => post r r') v p0) u p0 := by
  obtain ⟨L, lim, ⟨sx, restx, psx, nx⟩, ⟨sy, resty, psy, ny⟩, ⟨C, M, S, d, c, o, x⟩, mm, ar, ast, ae, au, al, hc, w, br, bst, bln, rn, hL, hX, hY, hI, hJ, h⟩ := I
  obtain ⟨ip, pc, inp, out, pend, cat, nch, nl, si, sl, sv, cd, held, rfl, x1, xs, x2, x3, x4, x5, x6, x7⟩ := hX
  obtain ⟨jp, qc, jnp, dat, qend, put, ml, mch, ti, tl, ce, stk, rfl, y1, ys, y2, y3, y4, y5, y6, y7⟩ := hY
  have hkx : nx.length ≤ 32 := hI.1.1.2.1
  have hky : ny.length ≤ 32 := hJ.1.1.2.1
  exact ig_xmv hkx (fun r => ig_ymv hky (fun r' => K _ _))
theorem ih_mtl {post : Int32 → Int32 → Prop} (I : i_R u v) (K : ∀ r, post r r) : wpX_macroTextLength (fun r => wpY_macroTextLength (fun r' => post r r') v p0 p1) u p0 p1 := by
  obtain ⟨L, lim, ⟨sx, restx, psx, nx⟩, ⟨sy, resty, psy, ny⟩, ⟨C, M, S, d, c, o, x⟩, mm, ar, ast, ae, au, al, hc, w, br, bst, bln, rn, hL, hX, hY, hI, hJ, h⟩ := I
  obtain ⟨ip, pc, inp, out, pend, cat, nch, nl, si, sl, sv, cd, held, rfl, x1, xs, x2, x3, x4, x5, x6, x7⟩ := hX
  obtain ⟨jp, qc, jnp, dat, qend, put, ml, mch, ti, tl, ce, stk, rfl, y1, ys, y2, y3, y4, y5, y6, y7⟩ := hY
  have hkx : nx.length ≤ 32 := hI.1.1.2.1
  have hky : ny.length ≤ 32 := hJ.1.1.2.1
  have hMx : pi_M nx.length M := hI.2.2.1
  have hMy : pi_M ny.length M := hJ.2.2.1
  have hsm := ih_small hkx hMx
  unfold wpX_macroTextLength
  exact ig_xtl hkx x5 hsm.1 hMx.2.2 (ig_ytl hky y5 hsm.1 hMy.2.2 (K _))
theorem ih_mtt {post : Int32 → Int32 → Prop} (I : i_R u v) (K : ∀ r, post r r) : wpX_macroTextToken (fun r => wpY_macroTextToken (fun r' => post r r') v p0 p1 p2) u p0 p1 p2 := by
  obtain ⟨L, lim, ⟨sx, restx, psx, nx⟩, ⟨sy, resty, psy, ny⟩, ⟨C, M, S, d, c, o, x⟩, mm, ar, ast, ae, au, al, hc, w, br, bst, bln, rn, hL, hX, hY, hI, hJ, h⟩ := I
  obtain ⟨ip, pc, inp, out, pend, cat, nch, nl, si, sl, sv, cd, held, rfl, x1, xs, x2, x3, x4, x5, x6, x7⟩ := hX
  obtain ⟨jp, qc, jnp, dat, qend, put, ml, mch, ti, tl, ce, stk, rfl, y1, ys, y2, y3, y4, y5, y6, y7⟩ := hY
  have hkx : nx.length ≤ 32 := hI.1.1.2.1
  have hky : ny.length ≤ 32 := hJ.1.1.2.1
  have hMx : pi_M nx.length M := hI.2.2.1
  have hMy : pi_M ny.length M := hJ.2.2.1
  have hsm := ih_small hkx hMx
  exact ig_xtk hkx x5 hsm.1 hsm.2 hMx.2.2 (ig_ytk hky y5 hsm.1 hsm.2 hMy.2.2 (K _))
end IH
