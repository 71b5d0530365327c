section IY
variable {f_limit f_used f_st f_ran f_inLen f_inPos f_pl f_ol f_nc f_sc f_yd f_cd : Int32} {a_in a_cat a_pend a_out a_nLen a_nCh a_kind a_val a_plen a_rlen a_ptx a_rtx a_sItem a_sLev a_conds a_arg a_aSt a_aLn a_stk : Nat → Int32}
variable {post : SY → Prop}
/-- the reference's names: twelve cells each -/
def yr_N (nl ch : Nat → Int32) (ns : List (List Nat)) : Prop := ∀ i, i < ns.length → nl i = nI (ns.getD i []).length ∧ ∀ j, j < (ns.getD i []).length → ch (i * 12 + j) = nI ((ns.getD i []).getD j 0)
theorem yr_N_push {nl ch nl' ch' : Nat → Int32} {ns : List (List Nat)} {w : List Nat} (h : yr_N nl ch ns) (hw : ∀ v, v ∈ ns → v.length ≤ 11) (h1 : nl' ns.length = nI w.length) (h2 : ∀ j, j < w.length → ch' (ns.length * 12 + j) = nI (w.getD j 0)) (h3 : ∀ i, i < ns.length → nl' i = nl i) (h4 : ∀ k, k < ns.length * 12 → ch' k = ch k) : yr_N nl' ch' (ns ++ [w]) := by
  intro i hi
  rw [List.length_append] at hi
  simp only [List.length_cons, List.length_nil] at hi
  by_cases e : i = ns.length
  · subst e
    rw [xr_getD_append_here]
    exact ⟨h1, h2⟩
  · have hi' : i < ns.length := by omega
    rw [xr_getD_append_left hi']
    have hm : (ns.getD i []).length ≤ 11 := by
      rw [List.getD_eq_getElem?_getD, List.getElem?_eq_getElem hi']
      exact hw _ (List.getElem_mem hi')
    refine ⟨(h3 i hi').trans (h i hi').1, fun j hj => (h4 _ ?_).trans ((h i hi').2 j hj)⟩
    omega
def cj_YN (nl ch : Nat → Int32) (ns : List (List Nat)) : Prop := yr_N nl ch ns ∧ ∀ i, ns.length ≤ i → nl i = 0
theorem cj_ap {A : List (List Nat)} {w : List Nat} {c : Nat} (hN : cj_YN a_nLen a_nCh (A ++ [w])) (hA : A.length < 32) (hw' : c ≠ 0 → w.length < 11) (h11 : ∀ v, v ∈ A → v.length ≤ 11) (hc : c < 128)
    (K : ∀ nl ch : Nat → Int32, cj_YN nl ch (A ++ [ci_ext w c]) → post (f_limit, f_used, f_st, f_ran, f_inLen, f_inPos, f_pl, f_ol, f_nc, f_sc, f_yd, f_cd, a_in, a_cat, a_pend, a_out, nl, ch, a_kind, a_val, a_plen, a_rlen, a_ptx, a_rtx, a_sItem, a_sLev, a_conds, a_arg, a_aSt, a_aLn, a_stk)) : wpY_ap post (f_limit, f_used, f_st, f_ran, f_inLen, f_inPos, f_pl, f_ol, f_nc, f_sc, f_yd, f_cd, a_in, a_cat, a_pend, a_out, a_nLen, a_nCh, a_kind, a_val, a_plen, a_rlen, a_ptx, a_rtx, a_sItem, a_sLev, a_conds, a_arg, a_aSt, a_aLn, a_stk) (nI A.length) (nI c) := by
  have hl := hN.1 A.length (by rw [List.length_append]; exact Nat.lt_succ_self _)
  rw [xr_getD_append_here] at hl
  unfold wpY_ap
  by_cases h0 : c = 0
  · subst h0
    refine br_t rfl ?_
    have := K a_nLen a_nCh (by unfold ci_ext; rw [if_pos rfl]; exact hN)
    exact this
  · have hw := hw' h0
    refine br_f (fun z => h0 ((nI_eq (b := 0) (by omega) (by decide)).mp z)) ?_
    have v : vp_in (nI A.length) 32 := vp_in_nI hA (by decide)
    have cl : (nI A.length).toNatClampNeg = A.length := nI_clamp (by omega)
    have ix : nI A.length * 12 + nI w.length = nI (A.length * 12 + w.length) := by rw [← nI_add, ← pk_mul]; rfl
    rw [cl, hl.1, ix]
    refine ⟨v, vp_in_nI (by omega) (by decide), fun ch ech => ⟨v, v, fun nl enl => ?_⟩⟩
    rw [nI_clamp (by omega)] at ech
    rw [nI_1] at enl
    refine K nl ch ⟨?_, fun i hi => ?_⟩
    · unfold ci_ext
      rw [if_neg h0]
      have hA' : yr_N a_nLen a_nCh A := fun i hi => by
        have := hN.1 i (by rw [List.length_append]; omega)
        rw [xr_getD_append_left hi] at this
        exact this
      refine yr_N_push hA' h11 ?_ (fun j hj => ?_) (fun i hi => ?_) (fun k hk => ?_)
      · rw [enl, pk_us, List.length_append]; rfl
      · rw [ech]
        rw [List.length_append] at hj
        simp only [List.length_cons, List.length_nil] at hj
        by_cases ej : j = w.length
        · subst ej
          rw [pk_us, xr_getD_append_here]
        · rw [pk_un (by omega), xr_getD_append_left (by omega)]
          exact hl.2 j (by omega)
      · rw [enl, pk_un (by omega)]
      · rw [ech, pk_un (by omega)]
    · rw [List.length_append] at hi
      simp only [List.length_cons, List.length_nil] at hi
      rw [enl, pk_un (by omega)]
      exact hN.2 i (by rw [List.length_append]; simp only [List.length_cons, List.length_nil]; omega)
theorem cj_nm {A : List (List Nat)} {w : List Nat} {c1 c2 c3 c4 c5 c6 : Nat} (hN : cj_YN a_nLen a_nCh (A ++ [w])) (hA : A.length < 32) (hw : w.length + 6 ≤ 11 ∨ (w.length + 5 ≤ 11 ∧ c6 = 0)) (h11 : ∀ v, v ∈ A → v.length ≤ 11) (h1 : c1 < 128) (h2 : c2 < 128) (h3 : c3 < 128) (h4 : c4 < 128) (h5 : c5 < 128) (h6 : c6 < 128)
    (K : ∀ nl ch : Nat → Int32, cj_YN nl ch (A ++ [ci_ext (ci_ext (ci_ext (ci_ext (ci_ext (ci_ext w c1) c2) c3) c4) c5) c6]) → post (f_limit, f_used, f_st, f_ran, f_inLen, f_inPos, f_pl, f_ol, f_nc, f_sc, f_yd, f_cd, a_in, a_cat, a_pend, a_out, nl, ch, a_kind, a_val, a_plen, a_rlen, a_ptx, a_rtx, a_sItem, a_sLev, a_conds, a_arg, a_aSt, a_aLn, a_stk)) : wpY_nm post (f_limit, f_used, f_st, f_ran, f_inLen, f_inPos, f_pl, f_ol, f_nc, f_sc, f_yd, f_cd, a_in, a_cat, a_pend, a_out, a_nLen, a_nCh, a_kind, a_val, a_plen, a_rlen, a_ptx, a_rtx, a_sItem, a_sLev, a_conds, a_arg, a_aSt, a_aLn, a_stk) (nI A.length) (nI c1) (nI c2) (nI c3) (nI c4) (nI c5) (nI c6) := by
  unfold wpY_nm
  have l1 := ci_ext_l (w := w) (c := c1)
  have l2 := ci_ext_l (w := ci_ext w c1) (c := c2)
  have l3 := ci_ext_l (w := ci_ext (ci_ext w c1) c2) (c := c3)
  have l4 := ci_ext_l (w := ci_ext (ci_ext (ci_ext w c1) c2) c3) (c := c4)
  have l5 := ci_ext_l (w := ci_ext (ci_ext (ci_ext (ci_ext w c1) c2) c3) c4) (c := c5)
  refine cj_ap hN hA (by omega) h11 h1 fun nl ch hN => ?_
  refine cj_ap hN hA (by omega) h11 h2 fun nl ch hN => ?_
  refine cj_ap hN hA (by omega) h11 h3 fun nl ch hN => ?_
  refine cj_ap hN hA (by omega) h11 h4 fun nl ch hN => ?_
  refine cj_ap hN hA (by omega) h11 h5 fun nl ch hN => ?_
  exact cj_ap hN hA (by omega) h11 h6 K
theorem cj_new {nl ch : Nat → Int32} {A : List (List Nat)} (hN : cj_YN nl ch A) : cj_YN nl ch (A ++ [[]]) := by
  refine ⟨fun i hi => ?_, fun i hi => hN.2 i ?_⟩
  · rw [List.length_append] at hi
    simp only [List.length_cons, List.length_nil] at hi
    by_cases e : i = A.length
    · subst e
      rw [xr_getD_append_here]
      exact ⟨hN.2 _ (Nat.le_refl _), fun j hj => absurd hj (Nat.not_lt_zero _)⟩
    · rw [xr_getD_append_left (by omega)]
      exact hN.1 i (by omega)
  · rw [List.length_append] at hi
    omega
/-- the first meanings of the reference -/
def cj_KV (kd vl : Nat → Int32) (k : Nat) : Prop := ∀ j, kd j = (if j < k then 1 else 0) ∧ vl j = if j < k then nI j else 0
theorem cj_KV_s {kd vl : Nat → Int32} {k : Nat} (h : cj_KV kd vl k) : cj_KV (upd kd k 1) (upd vl k (nI k)) (k + 1) := by
  intro j
  by_cases e : j = k
  · rw [e, pk_us, pk_us, if_pos (by omega), if_pos (by omega)]
    exact ⟨rfl, rfl⟩
  · rw [pk_un e, pk_un e, (h j).1, (h j).2]
    by_cases hj : j < k
    · rw [if_pos hj, if_pos hj, if_pos (by omega), if_pos (by omega)]
      exact ⟨rfl, rfl⟩
    · rw [if_neg hj, if_neg hj, if_neg (by omega), if_neg (by omega)]
      exact ⟨rfl, rfl⟩
theorem cj_names (hN : cj_YN a_nLen a_nCh []) : ∀ (n i : Nat) (kd vl : Nat → Int32), 14 < n + i → i ≤ 14 → cj_KV kd vl i →
    (∀ nl ch kd vl : Nat → Int32, cj_YN nl ch ci_ns → cj_KV kd vl 14 → post (f_limit, f_used, f_st, f_ran, f_inLen, f_inPos, f_pl, f_ol, 14, f_sc, f_yd, f_cd, a_in, a_cat, a_pend, a_out, nl, ch, kd, vl, a_plen, a_rlen, a_ptx, a_rtx, a_sItem, a_sLev, a_conds, a_arg, a_aSt, a_aLn, a_stk)) → wY_init_298 post f_limit f_used f_st f_ran f_inLen f_inPos f_pl f_ol f_nc f_sc f_yd f_cd n (nI i) a_in a_cat a_pend a_out a_nLen a_nCh kd vl a_plen a_rlen a_ptx a_rtx a_sItem a_sLev a_conds a_arg a_aSt a_aLn a_stk := by
  intro n
  induction n with
  | zero => intro i kd vl h1 h2; omega
  | succ n ih =>
    intro i kd vl h1 h2 hkv KK
    by_cases he : i = 14
    · subst he
      refine br_t (nI_le (Nat.le_refl 14) (by decide)) ?_
      refine cj_nm (A := []) (w := []) (c1 := 100) (c2 := 101) (c3 := 102) (c4 := 0) (c5 := 0) (c6 := 0) (cj_new hN) (by decide) (by decide) (by decide) (by decide) (by decide) (by decide) (by decide) (by decide) (by decide) fun nl ch hN => ?_
      refine cj_nm (A := ci_ns.take 1) (w := []) (c1 := 103) (c2 := 100) (c3 := 101) (c4 := 102) (c5 := 0) (c6 := 0) (cj_new hN) (by decide) (by decide) (by decide) (by decide) (by decide) (by decide) (by decide) (by decide) (by decide) fun nl ch hN => ?_
      refine cj_nm (A := ci_ns.take 2) (w := []) (c1 := 108) (c2 := 101) (c3 := 116) (c4 := 0) (c5 := 0) (c6 := 0) (cj_new hN) (by decide) (by decide) (by decide) (by decide) (by decide) (by decide) (by decide) (by decide) (by decide) fun nl ch hN => ?_
      refine cj_nm (A := ci_ns.take 3) (w := []) (c1 := 103) (c2 := 108) (c3 := 101) (c4 := 116) (c5 := 0) (c6 := 0) (cj_new hN) (by decide) (by decide) (by decide) (by decide) (by decide) (by decide) (by decide) (by decide) (by decide) fun nl ch hN => ?_
      refine cj_nm (A := ci_ns.take 4) (w := []) (c1 := 101) (c2 := 120) (c3 := 112) (c4 := 97) (c5 := 110) (c6 := 100) (cj_new hN) (by decide) (by decide) (by decide) (by decide) (by decide) (by decide) (by decide) (by decide) (by decide) fun nl ch hN => ?_
      refine cj_nm (A := ci_ns.take 4) (w := [101, 120, 112, 97, 110, 100]) (c1 := 97) (c2 := 102) (c3 := 116) (c4 := 101) (c5 := 114) (c6 := 0) hN (by decide) (by decide) (by decide) (by decide) (by decide) (by decide) (by decide) (by decide) (by decide) fun nl ch hN => ?_
      refine cj_nm (A := ci_ns.take 5) (w := []) (c1 := 98) (c2 := 101) (c3 := 103) (c4 := 105) (c5 := 110) (c6 := 103) (cj_new hN) (by decide) (by decide) (by decide) (by decide) (by decide) (by decide) (by decide) (by decide) (by decide) fun nl ch hN => ?_
      refine cj_nm (A := ci_ns.take 5) (w := [98, 101, 103, 105, 110, 103]) (c1 := 114) (c2 := 111) (c3 := 117) (c4 := 112) (c5 := 0) (c6 := 0) hN (by decide) (by decide) (by decide) (by decide) (by decide) (by decide) (by decide) (by decide) (by decide) fun nl ch hN => ?_
      refine cj_nm (A := ci_ns.take 6) (w := []) (c1 := 101) (c2 := 110) (c3 := 100) (c4 := 103) (c5 := 114) (c6 := 111) (cj_new hN) (by decide) (by decide) (by decide) (by decide) (by decide) (by decide) (by decide) (by decide) (by decide) fun nl ch hN => ?_
      refine cj_nm (A := ci_ns.take 6) (w := [101, 110, 100, 103, 114, 111]) (c1 := 117) (c2 := 112) (c3 := 0) (c4 := 0) (c5 := 0) (c6 := 0) hN (by decide) (by decide) (by decide) (by decide) (by decide) (by decide) (by decide) (by decide) (by decide) fun nl ch hN => ?_
      refine cj_nm (A := ci_ns.take 7) (w := []) (c1 := 99) (c2 := 97) (c3 := 116) (c4 := 99) (c5 := 111) (c6 := 100) (cj_new hN) (by decide) (by decide) (by decide) (by decide) (by decide) (by decide) (by decide) (by decide) (by decide) fun nl ch hN => ?_
      refine cj_nm (A := ci_ns.take 7) (w := [99, 97, 116, 99, 111, 100]) (c1 := 101) (c2 := 0) (c3 := 0) (c4 := 0) (c5 := 0) (c6 := 0) hN (by decide) (by decide) (by decide) (by decide) (by decide) (by decide) (by decide) (by decide) (by decide) fun nl ch hN => ?_
      refine cj_nm (A := ci_ns.take 8) (w := []) (c1 := 103) (c2 := 99) (c3 := 97) (c4 := 116) (c5 := 99) (c6 := 111) (cj_new hN) (by decide) (by decide) (by decide) (by decide) (by decide) (by decide) (by decide) (by decide) (by decide) fun nl ch hN => ?_
      refine cj_nm (A := ci_ns.take 8) (w := [103, 99, 97, 116, 99, 111]) (c1 := 100) (c2 := 101) (c3 := 0) (c4 := 0) (c5 := 0) (c6 := 0) hN (by decide) (by decide) (by decide) (by decide) (by decide) (by decide) (by decide) (by decide) (by decide) fun nl ch hN => ?_
      refine cj_nm (A := ci_ns.take 9) (w := []) (c1 := 105) (c2 := 102) (c3 := 116) (c4 := 114) (c5 := 117) (c6 := 101) (cj_new hN) (by decide) (by decide) (by decide) (by decide) (by decide) (by decide) (by decide) (by decide) (by decide) fun nl ch hN => ?_
      refine cj_nm (A := ci_ns.take 10) (w := []) (c1 := 105) (c2 := 102) (c3 := 102) (c4 := 97) (c5 := 108) (c6 := 115) (cj_new hN) (by decide) (by decide) (by decide) (by decide) (by decide) (by decide) (by decide) (by decide) (by decide) fun nl ch hN => ?_
      refine cj_nm (A := ci_ns.take 10) (w := [105, 102, 102, 97, 108, 115]) (c1 := 101) (c2 := 0) (c3 := 0) (c4 := 0) (c5 := 0) (c6 := 0) hN (by decide) (by decide) (by decide) (by decide) (by decide) (by decide) (by decide) (by decide) (by decide) fun nl ch hN => ?_
      refine cj_nm (A := ci_ns.take 11) (w := []) (c1 := 105) (c2 := 102) (c3 := 120) (c4 := 0) (c5 := 0) (c6 := 0) (cj_new hN) (by decide) (by decide) (by decide) (by decide) (by decide) (by decide) (by decide) (by decide) (by decide) fun nl ch hN => ?_
      refine cj_nm (A := ci_ns.take 12) (w := []) (c1 := 101) (c2 := 108) (c3 := 115) (c4 := 101) (c5 := 0) (c6 := 0) (cj_new hN) (by decide) (by decide) (by decide) (by decide) (by decide) (by decide) (by decide) (by decide) (by decide) fun nl ch hN => ?_
      refine cj_nm (A := ci_ns.take 13) (w := []) (c1 := 102) (c2 := 105) (c3 := 0) (c4 := 0) (c5 := 0) (c6 := 0) (cj_new hN) (by decide) (by decide) (by decide) (by decide) (by decide) (by decide) (by decide) (by decide) (by decide) fun nl ch hN => ?_
      exact KK nl ch kd vl hN hkv
    · refine br_f (nI_ge (b := 14) (by omega) (by decide)) ?_
      have v : vp_in (nI i) 65 := vp_in_nI (by omega) (by decide)
      refine ⟨v, fun kd' e1 => ⟨v, fun vl' e2 => nm_r (nI_1 _) ?_⟩⟩
      rw [nI_clamp (by omega)] at e1 e2
      rw [e1, e2]
      exact ih (i + 1) _ _ (by omega) (by omega) (cj_KV_s hkv) KK
theorem cj_x (K : ∀ a : Nat → Int32, (∀ j, j < 128 → a j = nI (ci_C j)) → ∃ n298 : Nat, wY_init_298 post f_limit f_used f_st f_ran f_inLen f_inPos f_pl f_ol f_nc f_sc f_yd f_cd n298 0 a_in a a_pend a_out a_nLen a_nCh a_kind a_val a_plen a_rlen a_ptx a_rtx a_sItem a_sLev a_conds a_arg a_aSt a_aLn a_stk) : ∀ (n i : Nat) (cat : Nat → Int32), 128 < n + i → i ≤ 128 → (∀ j, j < i → cat j = nI (ci_c j)) → wY_init_192 post f_limit f_used f_st f_ran f_inLen f_inPos f_pl f_ol f_nc f_sc f_yd f_cd n (nI i) a_in cat a_pend a_out a_nLen a_nCh a_kind a_val a_plen a_rlen a_ptx a_rtx a_sItem a_sLev a_conds a_arg a_aSt a_aLn a_stk := by
  intro n
  induction n with
  | zero => intro i cat h1 h2; omega
  | succ n ih =>
    intro i cat h1 h2 h
    by_cases he : i = 128
    · subst he
      exact br_t (nI_le (Nat.le_refl 128) (by decide)) (nm_e (nm_e (nm_e (nm_e (nm_e (K _ (ci_five h)))))))
    · refine br_f (nI_ge (b := 128) (by omega) (by decide)) ?_
      have leaf : ∀ v : Int32, v = nI (ci_c i) → (vp_in (nI i) 128 ∧ ∀ a : Nat → Int32, a = upd cat (nI i).toNatClampNeg v → ∀ y : Int32, y = nI i + 1 → wY_init_192 post f_limit f_used f_st f_ran f_inLen f_inPos f_pl f_ol f_nc f_sc f_yd f_cd n y a_in a a_pend a_out a_nLen a_nCh a_kind a_val a_plen a_rlen a_ptx a_rtx a_sItem a_sLev a_conds a_arg a_aSt a_aLn a_stk) := fun v hv => by
        refine ⟨vp_in_nI (by omega) (by decide), fun a ea y ey => ?_⟩
        rw [ea, ey, nI_1, nI_clamp (by omega)]
        exact ih (i + 1) _ (by omega) (by omega) (ci_up h hv)
      have c65 : (nI i < 65) ↔ i < 65 := nI_ltI (b := 65) (by omega) (by decide)
      have c90 : (nI i ≤ 90) ↔ i ≤ 90 := nI_leI (b := 90) (by omega) (by decide)
      have c97 : (nI i < 97) ↔ i < 97 := nI_ltI (b := 97) (by omega) (by decide)
      have c122 : (122 < nI i) ↔ 122 < i := nI_ltI (a := 122) (by decide) (by omega)
      have c32 : (nI i < 32) ↔ i < 32 := nI_ltI (b := 32) (by omega) (by decide)
      have c127 : (nI i = 127) ↔ i = 127 := nI_eq (b := 127) (by omega) (by decide)
      unfold wY_init_214 wY_init_226 wY_init_228 wY_init_240
      rw [c65, c90, c97, c122, c32, c127]
      repeat' (first | (refine leaf _ ?_) | (refine And.intro (fun _ => ?_) (fun _ => ?_)))
      all_goals (unfold ci_c; repeat' split)
      all_goals (first | rfl | (exfalso; omega) | skip)
/-- the state that the reference's constructor leaves -/
def cj_SY (L : Int32) (v : SY) : Prop := ∃ cat nl ch kd vl : Nat → Int32, (∀ j, j < 128 → cat j = nI (ci_C j)) ∧ cj_YN nl ch ci_ns ∧ cj_KV kd vl 14 ∧ v = (L, 0, 0, 0, 0, 0, 0, 0, 14, 0, 0, 0, (fun _ => 0), cat, (fun _ => 0), (fun _ => 0), nl, ch, kd, vl, (fun _ => 0), (fun _ => 0), (fun _ => 0), (fun _ => 0), (fun _ => 0), (fun _ => 0), (fun _ => 0), (fun _ => 0), (fun _ => 0), (fun _ => 0), (fun _ => 0))
theorem cj_YN0 : cj_YN (fun _ => 0) (fun _ => 0) [] := ⟨fun i hi => absurd hi (Nat.not_lt_zero _), fun _ _ => rfl⟩
theorem cj_KV0 : cj_KV (fun _ => 0) (fun _ => 0) 0 := fun j => ⟨(if_neg (by omega)).symm, (if_neg (by omega)).symm⟩
theorem cj_192 {L : Int32} (K : ∀ v, cj_SY L v → post v) : ∃ n192 : Nat, wY_init_192 post L 0 0 0 0 0 0 0 0 0 0 0 n192 0 (fun _ => 0) (fun _ => 0) (fun _ => 0) (fun _ => 0) (fun _ => 0) (fun _ => 0) (fun _ => 0) (fun _ => 0) (fun _ => 0) (fun _ => 0) (fun _ => 0) (fun _ => 0) (fun _ => 0) (fun _ => 0) (fun _ => 0) (fun _ => 0) (fun _ => 0) (fun _ => 0) (fun _ => 0) := by
  refine ⟨129, cj_x (fun cat hc => ?_) 129 0 (fun _ => 0) (by decide) (by decide) (fun j hj => absurd hj (Nat.not_lt_zero _))⟩
  refine ⟨15, cj_names cj_YN0 15 0 (fun _ => 0) (fun _ => 0) (by decide) (by decide) cj_KV0 fun nl ch kd vl hN hK => ?_⟩
  exact K _ ⟨cat, nl, ch, kd, vl, hc, hN, hK, rfl⟩
theorem cj_initY {k0 : Int32} (K : ∀ v, cj_SY (ci_lim k0) v → post v) : wpY_init post k0 := by
  unfold wpY_init
  unfold ci_lim at K
  refine br_c (fun h1 => br_c (fun h2 => ?_) (fun h2 => ?_)) (fun h1 => ?_)
  · rw [if_pos h1, if_pos h2] at K
    exact cj_192 K
  · rw [if_pos h1, if_neg h2] at K
    exact cj_192 K
  · rw [if_neg h1] at K
    exact cj_192 K
end IY
