section IR
/-- the first meanings -/
def ii_M (i : Nat) : pm_Mn := if i < 14 then (1, i, [], []) else pm_m0
def ii_P : pm_P := ((0, [], [], ci_ns), ci_C, ii_M, [], 0, [], [], 0)
/-- both sides show the same machine but for the tokeniser; before run the tokeniser too -/
def i_R (u : SX) (v : SY) : Prop := ∃ (L : List Nat) (lim : Nat) (TX TY : pm_T) (Q : pm_Q) (mm ar ast ae : Nat → Int32) (au al hc : Int32) (w : yr_W) (br bst bln : Nat → Int32) (rn : Int32),
  xr_I L ∧ xr_R L lim (TX, Q) mm ar ast ae au al hc u ∧ yr_R L lim (TY, Q) w br bst bln rn v ∧ pi_I lim (TX, Q) ∧ pi_I lim (TY, Q) ∧ ((rn = 0 ∧ TX = TY ∧ TX.1 = 0 ∧ TX.2.1 = L ∧ TX.2.2.1 = []) ∨ (rn = 1 ∧ TX.1 ≠ 0 ∧ TY.1 ≠ 0))
theorem ii_lim (k0 : Int32) : ∃ lim : Nat, lim ≤ 100 ∧ ci_lim k0 = nI lim := by
  unfold ci_lim
  split
  · next h1 =>
    split
    · next h2 =>
      obtain ⟨j, hj, rfl⟩ := nI_of (x := k0) (fun z => absurd (Int32.lt_of_le_of_lt h1 z) (by decide))
      exact ⟨j, (nI_leI (b := 100) hj (by decide)).mp h2, rfl⟩
    · exact ⟨100, Nat.le_refl _, rfl⟩
  · exact ⟨1, by decide, rfl⟩
theorem ii_e {k t i : Nat} : xr_e (k, t, [], []) i = if i = 0 then k else if i = 1 then t else 0 := by
  unfold xr_e
  split
  · rfl
  · split
    · rfl
    · split
      · rfl
      · split
        · rfl
        · split <;> rfl
theorem ii_MX {mm : Nat → Int32} (h : ci_MM mm 14) : ∀ i, i < 32 → xr_M mm i (ii_M i) := fun i hi j hj => by
  rw [h]
  have e1 : (i * 36 + j) % 36 = j := by omega
  have e2 : (i * 36 + j) / 36 = i := by omega
  rw [e1, e2]
  unfold ii_M
  by_cases h14 : i < 14
  · rw [if_pos (by omega), if_pos h14, ii_e]
    split
    · rfl
    · split
      · rfl
      · rfl
  · rw [if_neg (by omega), if_neg h14]
    show (0 : Int32) = nI (xr_e (0, 0, [], []) j)
    rw [ii_e]
    split
    · rfl
    · split
      · rfl
      · rfl
theorem ii_MY {kd vl : Nat → Int32} {a b c d : Nat → Int32} (h : cj_KV kd vl 14) : ∀ i, i < 32 → yr_M (kd, vl, a, b, c, d) i (ii_M i) := fun i hi => by
  unfold ii_M
  by_cases h14 : i < 14
  · rw [if_pos h14]
    refine ⟨?_, ?_, fun z => (nomatch z)⟩
    · show kd i = _
      rw [(h i).1, if_pos h14]
      rfl
    · show vl i = _
      rw [(h i).2, if_pos h14]
  · rw [if_neg h14]
    refine ⟨?_, ?_, fun z => (nomatch z)⟩
    · show kd i = _
      rw [(h i).1, if_neg h14]
      rfl
    · show vl i = _
      rw [(h i).2, if_neg h14]
      rfl
theorem ii_I {lim : Nat} (h : lim ≤ 100) : pi_I lim ii_P := by
  refine ⟨⟨⟨by decide, by decide, by decide, by decide⟩, fun c hc => (nomatch hc), Nat.zero_le _, Nat.zero_le _, fun t ht => (nomatch ht)⟩, fun a _ => ?_, ⟨rfl, fun i hi => ?_, fun i hi => ?_⟩, Nat.zero_le _, fun s hs => (nomatch hs), trivial, Nat.zero_le _, Nat.zero_le _, fun a ha => (nomatch ha), Nat.zero_le _, Nat.zero_le _, h⟩
  · show ci_C a < 8
    unfold ci_C ci_c
    repeat' split
    all_goals omega
  · show pi_mn 14 (ii_M i)
    unfold ii_M
    by_cases h14 : i < 14
    · rw [if_pos h14]
      exact Or.inr (Or.inl ⟨rfl, h14, hi, rfl, rfl⟩)
    · rw [if_neg h14]
      exact Or.inl rfl
  · show ii_M i = pm_m0
    have hi' : 14 ≤ i := hi
    exact if_neg (by omega)
theorem ii_init {k0 : Int32} {u : SX} {v : SY} (hu : ci_SX (ci_lim k0) u) (hv : cj_SY (ci_lim k0) v) : i_R u v := by
  obtain ⟨lim, hl, el⟩ := ii_lim k0
  rw [el] at hu hv
  obtain ⟨cat, nl, ch, mm, hc, hN, hM, rfl⟩ := hu
  obtain ⟨cat', nl', ch', kd, vl, hc', hN', hK, rfl⟩ := hv
  have hI := ii_I hl
  refine ⟨[], lim, (0, [], [], ci_ns), (0, [], [], ci_ns), (ci_C, ii_M, [], 0, [], [], 0), mm, (fun _ => 0), (fun _ => 0), (fun _ => 0), 0, 0, 0, (kd, vl, (fun _ => 0), (fun _ => 0), (fun _ => 0), (fun _ => 0)), (fun _ => 0), (fun _ => 0), (fun _ => 0), 0, ⟨by decide, fun c hc => (nomatch hc)⟩, ?_, ?_, hI, hI, Or.inl ⟨rfl, rfl, rfl, rfl, rfl⟩⟩
  · exact ⟨_, _, _, _, _, _, _, _, _, _, _, _, _, rfl, fun j hj => absurd hj (Nat.not_lt_zero _), ⟨(by show 0 < 100; decide), fun _ => ⟨⟨[], rfl, rfl⟩, rfl, trivial⟩⟩, fun j hj => absurd hj (Nat.not_lt_zero _), hc, hN.1, ii_MX hM, trivial, trivial⟩
  · exact ⟨_, _, _, _, _, _, _, _, _, _, _, _, rfl, fun j hj => absurd hj (Nat.not_lt_zero _), ⟨(by show 0 < 100; decide), fun _ => ⟨⟨[], rfl, rfl⟩, rfl, fun j hj => absurd hj (Nat.not_lt_zero _)⟩⟩, fun j hj => absurd hj (Nat.not_lt_zero _), hc', hN'.1, ii_MY hK, trivial, trivial⟩
end IR
section IM
variable {u : SX} {v : SY}
theorem ii_run {post : Int32 → Int32 → SX → SY → Prop} (I : i_R u v) (K : ∀ r r' u' v', i_R u' v' → post r r' u' v') : wpX_run (fun r u' => wpY_run (fun r' v' => post r r' u' v') v) u := by
  obtain ⟨L, lim, TX, TY, Q, mm, ar, ast, ae, au, al, hc, w, br, bst, bln, rn, hL, hX, hY, hI, hJ, h⟩ := I
  refine xz_run hL hX hI (fun mm' ar' ast' ae' au' al' hc' u' hu => ?_)
  rcases h with ⟨rfl, rfl, h0, h1, h2⟩ | ⟨rfl, hx, hy⟩
  · refine zf_run hL hY hJ (fun w' br' bst' bln' v' hv => K _ _ _ _ ?_)
    have e := pe_run 70000 (TX, Q) hI
    obtain ⟨rx1, rx2, _⟩ := pi_run (b := true) 70000 (TX, Q) hI (fun _ => zf_mu hI)
    obtain ⟨ry1, ry2, _⟩ := pi_run (b := false) 70000 (TX, Q) hI (fun _ => zf_mu hI)
    generalize pm_run true lim 70000 (TX, Q) = PX at hu e rx1 rx2
    generalize pm_run false lim 70000 (TX, Q) = PY at hv e ry1 ry2
    obtain ⟨TX', QX⟩ := PX
    obtain ⟨TY', QY⟩ := PY
    have e' : QX = QY := e
    subst e'
    exact ⟨L, lim, TX', TY', QX, mm', ar', ast', ae', au', al', hc', w', br', bst', bln', 1, hL, hu, hv, rx1, ry1, Or.inr ⟨rfl, rx2, ry2⟩⟩
  · rw [pe_stop (b := true) (lim := lim) (f := 70000) (P := (TX, Q)) hx] at hu
    exact zf_ran hY (K _ _ _ _ ⟨L, lim, TX, TY, Q, mm', ar', ast', ae', au', al', hc', w, br, bst, bln, 1, hL, hu, hY, hI, hJ, Or.inr ⟨rfl, hx, hy⟩⟩)
theorem ii_feed {post : Int32 → Int32 → SX → SY → Prop} {v1 : Int32} (I : i_R u v) (K : ∀ r u' v', i_R u' v' → post r r u' v') : wpX_feed (fun r u' => wpY_feed (fun r' v' => post r r' u' v') v v1) u v1 := by
  have I' := I
  obtain ⟨L, lim, TX, TY, Q, mm, ar, ast, ae, au, al, hc, w, br, bst, bln, rn, hL, hX, hY, hI, hJ, h⟩ := I
  rcases h with ⟨rfl, rfl, h0, h1, h2⟩ | ⟨rfl, hx, hy⟩
  · obtain ⟨st, rest, ps, ns⟩ := TX
    obtain ⟨C, M, S, d, c, o, x⟩ := Q
    have e0 : st = 0 := h0
    have e1 : rest = L := h1
    have e2 : ps = [] := h2
    subst e0 e1 e2
    obtain ⟨ip, pc, inp, out, pend, cat, nch, nl, si, sl, sv, cd, held, rfl, x1, xs, x2⟩ := hX
    obtain ⟨jp, qc, jnp, dat, qend, put, ml, mch, ti, tl, ce, stk, rfl, y1, ys, y2⟩ := hY
    obtain ⟨hL1, hL2⟩ := hL
    refine br_t rfl ?_
    by_cases z0 : v1 < 0
    · exact br_t z0 (br_t rfl (br_t z0 (K _ _ _ I')))
    · refine br_f z0 ?_
      obtain ⟨c1, hc1, rfl⟩ := nI_of z0
      by_cases z1 : 128 ≤ c1
      · exact br_t (nI_le (a := 128) z1 hc1) (br_t rfl (br_f z0 (br_t (nI_lt (a := 127) (by omega) hc1) (K _ _ _ I'))))
      · refine br_f (nI_ge (b := 128) (by omega) (by decide)) ?_
        by_cases z2 : rest.length < 256
        · refine br_t (nI_lt (b := 256) z2 (by decide)) ⟨vp_in_nI z2 (by decide), fun inp' ea => nm_r (nI_1 _) (br_t rfl (br_f z0 (br_f (nI_nlt (b := c1) (a := 127) (by omega) (by decide)) (br_f (fun z => by have := (nI_eq (b := 256) (by omega) (by decide)).mp z; omega) ⟨vp_in_nI z2 (by decide), fun jnp' eb => nm_r (nI_1 _) (K _ _ _ ?_)⟩))))⟩
          rw [nI_clamp (by omega)] at ea eb
          subst ea eb
          have hl : (rest ++ [c1]).length = rest.length + 1 := by rw [List.length_append]; rfl
          obtain ⟨⟨pre, hp1, hp2⟩, hpc, hps⟩ := xs.2 rfl
          obtain ⟨⟨qre, hq1, hq2⟩, hqc, hqs⟩ := ys.2 rfl
          have hp0 : pre = [] := by
            have := congrArg List.length hp1
            rw [List.length_append] at this
            exact List.length_eq_zero_iff.mp (by omega)
          have hq0 : qre = [] := by
            have := congrArg List.length hq1
            rw [List.length_append] at this
            exact List.length_eq_zero_iff.mp (by omega)
          subst hp0 hq0
          have hmem : ∀ c, c ∈ rest ++ [c1] → c < 128 := fun c hc => by
            rcases List.mem_append.mp hc with hc | hc
            · exact hL2 c hc
            · cases List.mem_singleton.mp hc
              omega
          have hI2 : pi_I lim ((0, rest ++ [c1], [], ns), C, M, S, d, c, o, x) := by
            obtain ⟨⟨i1, i2, i3, i4, i5⟩, i6⟩ := hI
            exact ⟨⟨i1, hmem, by show (rest ++ [c1]).length ≤ 256; omega, i4, i5⟩, i6⟩
          refine ⟨rest ++ [c1], lim, (0, rest ++ [c1], [], ns), (0, rest ++ [c1], [], ns), (C, M, S, d, c, o, x), mm, ar, ast, ae, au, al, hc, w, br, bst, bln, 0, ⟨by omega, hmem⟩, ?_, ?_, hI2, hI2, Or.inl ⟨rfl, rfl, rfl, rfl, rfl⟩⟩
          · exact ⟨ip, pc, _, out, pend, cat, nch, nl, si, sl, sv, cd, held, by rw [hl], xr_L_push x1, ⟨xs.1, fun _ => ⟨⟨[], rfl, hp2⟩, hpc, hps⟩⟩, x2⟩
          · exact ⟨jp, qc, _, dat, qend, put, ml, mch, ti, tl, ce, stk, by rw [hl], xr_L_push y1, ⟨ys.1, fun _ => ⟨⟨[], rfl, hq2⟩, hqc, hqs⟩⟩, y2⟩
        · have z3 : rest.length = 256 := by omega
          refine br_f (nI_nlt (b := 256) (by omega) (by omega)) (br_t rfl (br_f z0 (br_f (nI_nlt (b := c1) (a := 127) (by omega) (by decide)) (br_t ?_ (K _ _ _ I')))))
          rw [z3]
          rfl
  · have hlt := xh_lt hX
    obtain ⟨f1, f2, f3, f4, f5, f6, f7, f8, f9, f10, f11, f12, f13, f14, a1, a2, a3, a4, a5, a6, a7, a8, a9, a10, a11, a12, a13, a14, a15⟩ := u
    obtain ⟨F1, F2, F3, F4, F5, F6, F7, F8, F9, F10, F11, F12, A1, A2, A3, A4, A5, A6, A7, A8, A9, A10, A11, A12, A13, A14, A15, A16, A17, A18, A19⟩ := v
    obtain ⟨z1, _⟩ := xh_st hX
    have hst : ¬ f3 = 0 := fun z => hx ((nI_eq (b := 0) (Nat.lt_trans hlt (by decide)) (by decide)).mp (z1.symm.trans z))
    obtain ⟨e4, _⟩ := zf_rn (rn' := 1) hY
    exact br_f hst (br_f (by rw [e4]; decide) (K _ _ _ I'))
end IM
