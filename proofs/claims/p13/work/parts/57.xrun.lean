section XW
variable {L : List Nat} {lim : Nat} {mm ar ast ae : Nat → Int32} {au al hc : Int32} {u : SX} {post : SX → Prop} {f1 f2 f3 f4 f5 f6 f7 f8 f9 f10 f11 f12 f13 f14 : Int32} {a1 a2 a3 a4 a5 a6 a7 a8 a9 a10 a11 a12 a13 a14 a15 : Nat → Int32}
theorem xw_cnt {T : pm_T} {C : Nat → Nat} {M : Nat → pm_Mn} {S : List pm_Sv} {d x : Nat} {c o : List Nat} (h : xr_R L lim (T, C, M, S, d, c, o, x) mm ar ast ae au al hc (f1, f2, f3, f4, f5, f6, f7, f8, f9, f10, f11, f12, f13, f14, a1, a2, a3, a4, a5, a6, a7, a8, a9, a10, a11, a12, a13, a14, a15)) : f1 = nI lim ∧ f2 = nI x ∧ xr_R L lim (T, C, M, S, d, c, o, x + 1) mm ar ast ae 0 256 hc (f1, nI (x + 1), f3, f4, f5, f6, f7, f8, f9, f10, f11, 0, 256, f14, a1, a2, a3, a4, a5, a6, a7, a8, a9, a10, a11, a12, a13, a14, a15) := by
  obtain ⟨st, rest, ps, ns⟩ := T
  obtain ⟨ip, pc, inp, out, pend, cat, nch, nl, si, sl, sv, cd, held, e, h1⟩ := h
  cases e
  exact ⟨rfl, rfl, _, _, _, _, _, _, _, _, _, _, _, _, _, rfl, h1⟩
theorem xw_hc {P : pm_P} {hc' : Int32} (h : xr_R L lim P mm ar ast ae au al hc (f1, f2, f3, f4, f5, f6, f7, f8, f9, f10, f11, f12, f13, f14, a1, a2, a3, a4, a5, a6, a7, a8, a9, a10, a11, a12, a13, a14, a15)) : xr_R L lim P mm ar ast ae au al hc' (f1, f2, f3, f4, f5, f6, f7, f8, f9, f10, f11, f12, f13, hc', a1, a2, a3, a4, a5, a6, a7, a8, a9, a10, a11, a12, a13, a14, a15) := by
  obtain ⟨⟨st, rest, ps, ns⟩, C, M, S, d, c, o, x⟩ := P
  obtain ⟨ip, pc, inp, out, pend, cat, nch, nl, si, sl, sv, cd, held, e, h1⟩ := h
  cases e
  exact ⟨_, _, _, _, _, _, _, _, _, _, _, _, _, rfl, h1⟩
theorem xw_rep {Q : pm_Q} {T : pm_T} {as : List (List Nat)} {m : pm_Mn} {n U : Nat} (hn : n < 32) (hm : xr_M mm n m) (h24 : m.2.2.2.length ≤ 24) (h8 : as.length ≤ 8) (hU : U ≤ 274) (hA : xe_As ar ast ae U as) (hT : ∀ t, t ∈ m.2.2.2 → t < 2048 ∨ (2049 ≤ t ∧ t ≤ 2048 + as.length)) (hR : xr_R L lim (T, Q) mm ar ast ae au al hc (f1, f2, f3, f4, f5, f6, f7, f8, f9, f10, f11, f12, f13, f14, a1, a2, a3, a4, a5, a6, a7, a8, a9, a10, a11, a12, a13, a14, a15)) (h0 : T.1 = 0) (hps : T.2.2.1.length ≤ 256)
    (K1 : (pm_sub as m.2.2.2).length + T.2.2.1.length ≤ 256 → ∀ u', xr_R L lim (pm_fronts (pm_sub as m.2.2.2) T, Q) mm ar ast ae au al hc u' → post u') (K2 : 256 < (pm_sub as m.2.2.2).length + T.2.2.1.length → ∀ u', xr_R L lim (pm_err 16 T, Q) mm ar ast ae au al hc u' → post u') : wpX_putReplacementInFront post (f1, f2, f3, f4, f5, f6, f7, f8, f9, f10, f11, f12, f13, f14, a1, a2, a3, a4, a5, a6, a7, a8, a9, a10, a11, a12, a13, a14, a15) (nI (n * 36)) := by
  obtain ⟨z1, z2, z3⟩ := xh_st hR
  subst z2
  have e3 : nI (n * 36) + 3 = nI (n * 36 + 3) := nI_add _ 3
  have hc3 : a7 (nI (n * 36) + 3).toNatClampNeg = nI m.2.2.2.length := by
    rw [e3, nI_clamp (by omega)]
    exact hm 3 (by decide)
  refine ⟨by rw [e3]; exact vp_in_nI (by omega) (by decide), nm_r hc3 (nm_e ⟨m.2.2.2.length + 1, ?_⟩)⟩
  refine xu_repL (by omega) h24 h8 hU hA (fun j hj => ?_) hT _ T _ _ _ _ _ _ _ _ _ _ _ _ _ _ _ _ _ _ _ _ _ _ _ _ _ _ _ _ _ _ (Nat.le_refl _) (Nat.lt_succ_self _) hR h0 hps (fun h u' hu => ?_) (fun h u' hu => ?_)
  · have := hm (12 + j) (by omega)
    rw [show n * 36 + 12 + j = n * 36 + (12 + j) from by omega, this]
    unfold xr_e
    rw [if_neg (by omega), if_neg (by omega), if_neg (by omega), if_neg (by omega), if_neg (by omega), show 12 + j - 12 = j from by omega]
  · rw [List.take_length] at h hu
    exact K1 h u' hu
  · rw [List.take_length] at h
    exact K2 h u' hu
theorem xw_exp {n : Nat} {P : pm_P} (hL : xr_I L) (hR : xr_R L lim P mm ar ast ae au al hc u) (hI : pi_I lim P) (h0 : P.1.1 = 0) (hn : n < 32) (hn4 : n ≠ 4) (hk : (P.2.2.1 n).1 = 2) (K : ∀ mm' ar' ast' ae' au' al' u', xr_R L lim (pm_exp true lim n P) mm' ar' ast' ae' au' al' hc u' → post u') : wpX_expandMacro post u (nI n) := by
  obtain ⟨T, C, M, S, d, c, o, x⟩ := P
  have hC : ∀ a, a < 128 → C a < 8 := hI.2.1
  have hk' : (M n).1 = 2 := hk
  have hmn : pi_mn T.2.2.2.length (M n) := hI.2.2.1.2.1 n hn4
  have hmm : xr_M mm n (M n) := xh_MM hR n hn
  have hxl : x ≤ lim ∧ lim ≤ 100 := hI.2.2.2.2.2.2.2.2.2.2
  have hk32 : T.2.2.2.length ≤ 32 := hI.1.1.2.1
  obtain ⟨f1, f2, f3, f4, f5, f6, f7, f8, f9, f10, f11, f12, f13, f14, a1, a2, a3, a4, a5, a6, a7, a8, a9, a10, a11, a12, a13, a14, a15⟩ := u
  obtain ⟨w1, w2, hRx⟩ := xw_cnt hR
  obtain ⟨z1, z2, z3⟩ := xh_st hR
  by_cases hx : lim ≤ x
  · refine br_f (by rw [w1, w2]; exact nI_nlt hx (by omega)) (K mm ar ast ae au al _ ?_)
    simp only [pm_exp, if_pos hx]
    exact xh_err (k := 17) (by decide) hR
  · have hI' : pi_I lim (T, C, M, S, d, c, o, x + 1) := by
      obtain ⟨hT, c1, c2, c3, c4, c5, c6, c7, c8, c9, c10, c11⟩ := hI
      exact ⟨hT, c1, c2, c3, c4, c5, c6, c7, c8, c9, by omega, c11⟩
    obtain ⟨p8, p24, pcnt, ppt, prt⟩ : (M n).2.2.1.length ≤ 8 ∧ (M n).2.2.2.length ≤ 24 ∧ (M n).2.2.1.countP (fun r => decide (2048 ≤ r)) = (M n).2.1 ∧ (∀ t, t ∈ (M n).2.2.1 → pi_tok T.2.2.2.length t ∨ (2049 ≤ t ∧ t ≤ 2057)) ∧ ∀ t, t ∈ (M n).2.2.2 → pi_tok T.2.2.2.length t ∨ (2049 ≤ t ∧ t ≤ 2048 + (M n).2.1) := by
      rcases hmn with z | z | z | z
      · rw [z] at hk'; cases hk'
      · omega
      · exact z.2
      · omega
    have hpt : ∀ t, t ∈ (M n).2.2.1 → t < 4096 := fun t ht => by
      rcases ppt t ht with z | z
      · have := xs_tok hk32 z; omega
      · omega
    have hc8 : (M n).2.1 ≤ 8 := by rw [← pcnt]; exact Nat.le_trans List.countP_le_length p8
    have hD : ∀ j, j < (M n).2.2.1.length → mm (n * 36 + 4 + j) = nI ((M n).2.2.1.getD j 0) := fun j hj => by
      have := hmm (4 + j) (by omega)
      rw [show n * 36 + 4 + j = n * 36 + (4 + j) from by omega, this]
      unfold xr_e
      rw [if_neg (by omega), if_neg (by omega), if_neg (by omega), if_neg (by omega), if_pos (by omega), show 4 + j - 4 = j from by omega]
    have eb : nI n * 36 = nI (n * 36) := pk_mul n 36
    have e1 : nI (n * 36) + 1 = nI (n * 36 + 1) := nI_1 _
    have e2 : nI (n * 36) + 2 = nI (n * 36 + 2) := nI_add _ 2
    have e4 : nI (n * 36) + 4 = nI (n * 36 + 4) := nI_add _ 4
    have hv1 : a7 (nI (n * 36) + 1).toNatClampNeg = nI (M n).2.1 := by rw [e1, nI_clamp (by omega), z2]; exact hmm 1 (by decide)
    have hv2 : nI (n * 36) + 4 + a7 (nI (n * 36) + 2).toNatClampNeg = nI (n * 36 + 4 + (M n).2.2.1.length) := by
      rw [e2, nI_clamp (by omega), z2, e4]
      have : mm (n * 36 + 2) = nI (M n).2.2.1.length := hmm 2 (by decide)
      rw [this, nI_add]
    refine br_t (by rw [w1, w2]; exact nI_lt (by omega) (by omega)) (nm_r (show f2 + 1 = nI (x + 1) by rw [w2, nI_1]) (nm_r eb ⟨by rw [e1]; exact vp_in_nI (by omega) (by decide), nm_r hv1 ⟨by rw [e2]; exact vp_in_nI (by omega) (by decide), nm_r hv2 ?_⟩⟩))
    rw [e4]
    have hD7 : ∀ j, j < (M n).2.2.1.length → a7 (n * 36 + 4 + j) = nI ((M n).2.2.1.getD j 0) := fun j hj => by rw [z2]; exact hD j hj
    have hfl : ((M n).2.2.1.takeWhile (fun r => decide (r < 2048))).length ≤ (M n).2.2.1.length := (List.takeWhile_sublist _).length_le
    refine xv_de (b := n * 36 + 4) (pre := []) (rest := (M n).2.2.1) (by omega) p8 hpt hD7 rfl ?_
    have hpre := xv_preL (post := fun u => match u with | (f_expansionLimit, f_expansionCount, f_state, f_inputLength, f_inputPosition, f_outputCount, f_pendingCount, f_namesUsed, f_saveCount, f_depth, f_conditionalCount, f_argumentsUsed, f_argumentsLimit, f_heldCount, a_input, a_output, a_pending, a_catcodes, a_nameChars, a_nameLengths, a_meanings, a_savedItems, a_savedLevels, a_savedCatcodes, a_conditionals, a_arguments, a_argumentStarts, a_argumentEnds, a_held) => ∃ n91 : Nat, wX_expandMacro_91 post (nI (n * 36)) (nI (M n).2.1) (nI (n * 36 + 4 + (M n).2.2.1.length)) n91 (nI (n * 36 + 4 + ((M n).2.2.1.takeWhile (fun r => decide (r < 2048))).length)) 1 f_expansionLimit f_expansionCount f_state f_inputLength f_inputPosition f_outputCount f_pendingCount f_namesUsed f_saveCount f_depth f_conditionalCount f_argumentsUsed f_argumentsLimit f_heldCount a_input a_output a_pending a_catcodes a_nameChars a_nameLengths a_meanings a_savedItems a_savedLevels a_savedCatcodes a_conditionals a_arguments a_argumentStarts a_argumentEnds a_held) (fx := (M n).2.2.1.takeWhile (fun r => decide (r < 2048))) (b := n * 36 + 4) (q := (M, S, d, c, o, x + 1)) (mm := mm) (lim := lim) (ar := ar) (ast := ast) (ae := ae) (au := 0) (al := 256) (hc := hc) hL hC (by omega) (by omega) (fun t ht => hpt t (List.takeWhile_subset _ ht)) (fun j hj => by
        rw [hD j (by omega)]
        have h2 := xr_getD_append_left (r := (M n).2.2.1.dropWhile (fun r => decide (r < 2048))) (d := 0) hj
        rw [List.takeWhile_append_dropWhile] at h2
        exact congrArg nI h2) ((M n).2.2.1.takeWhile (fun r => decide (r < 2048))) [] T (((M n).2.2.1.takeWhile (fun r => decide (r < 2048))).length + 1) _ _ _ _ _ _ _ _ _ _ _ _ _ _ _ _ _ _ _ _ _ _ _ _ _ _ _ _ _ rfl (Nat.lt_succ_self _) hRx hI' h0 (fun r T1 u1 e1' hR1 => ?_)
    · exact ⟨_, hpre⟩
    · obtain ⟨t1, t2, t3⟩ := pi_pre hC _ _ _ _ hI.1 h0 e1'
      have hI1 := pi_toI hI' t1
      have hlt := xh_lt hR1
      cases r with
      | false =>
        have k := K mm ar ast ae 0 256 u1 (by simp only [pm_exp, if_neg hx, e1']; exact hR1)
        obtain ⟨f1, f2, f3, f4, f5, f6, f7, f8, f9, f10, f11, f12, f13, f14, a1, a2, a3, a4, a5, a6, a7, a8, a9, a10, a11, a12, a13, a14, a15⟩ := u1
        obtain ⟨y1, y2⟩ := xh_st hR1
        have hst' : ¬ f3 = 0 := fun z => t3 rfl ((nI_eq (b := 0) (Nat.lt_trans hlt (by decide)) (by decide)).mp (y1.symm.trans z))
        exact ⟨1, br_c (fun _ => br_f hst' k) (fun _ => br_c (fun _ => br_f hst' k) (fun _ => br_f hst' (br_f hst' k)))⟩
      | true =>
        have h10 := t2 rfl
        have hexp : ∀ y, pm_args true C (M n).2.1 ((M n).2.2.1.dropWhile (fun r => decide (r < 2048))) 0 [] T1 = y → pm_exp true lim n (T, C, M, S, d, c, o, x) = match y with
            | (none, T2) => (T2, C, M, S, d, c, o, x + 1)
            | (some as, T2) => if 256 < (pm_sub as (M n).2.2.2).length + T2.2.2.1.length then (pm_err 16 T2, C, M, S, d, c, o, x + 1) else (pm_fronts (pm_sub as (M n).2.2.2) T2, C, M, S, d, c, o, x + 1) := fun y hy => by
          subst hy
          simp only [pm_exp, if_neg hx, e1']
          rfl
        obtain ⟨f1, f2, f3, f4, f5, f6, f7, f8, f9, f10, f11, f12, f13, f14, a1, a2, a3, a4, a5, a6, a7, a8, a9, a10, a11, a12, a13, a14, a15⟩ := u1
        have hd2 : ((M n).2.2.1.dropWhile (fun r => decide (r < 2048))).length ≤ 8 := Nat.le_trans (List.dropWhile_sublist _).length_le p8
        have hargs := xv_argsL (post := post) (base := n * 36) (cnt := (M n).2.1) (pt := (M n).2.2.1) (q := (M, S, d, c, o, x + 1)) (mm := mm) (lim := lim) (hc := hc) hL hC (by omega) p8 hpt hD hc8 (M n).2.1 ((M n).2.2.1.takeWhile (fun r => decide (r < 2048))) ((M n).2.2.1.dropWhile (fun r => decide (r < 2048))) [] T1 ar ast ae 0 256 0 ((M n).2.1 + 2) _ _ _ _ _ _ _ _ _ _ _ _ _ _ _ _ _ _ _ _ _ _ _ _ _ _ _ _ _ rfl List.takeWhile_append_dropWhile.symm (by rw [xv_cnt2]; exact pcnt) (fun hp => xv_cnt (a := 0) (by rw [pcnt]; exact hp)) (by omega) hR1 hI1 h10 ⟨fun i hi => absurd hi (Nat.not_lt_zero _), rfl, by decide, by decide⟩ (fun T2 ar' ast' ae' au' al' u' y1 y2 => ?_) (fun as T2 ar' ast' ae' U' au' al' u' y1 y2 y3 y4 => ?_)
        · exact ⟨_, hargs⟩
        · refine K mm ar' ast' ae' au' al' u' ?_
          rw [hexp _ y1]
          exact y2
        · obtain ⟨q1, q2, q3⟩ := pi_args hC _ _ _ [] _ _ _ t1.1 h10 hd2 (fun y hy => (nomatch hy)) y1
          obtain ⟨q4, q5, q6⟩ := q2 as rfl
          have q5' : as.length = (M n).2.1 := by rw [q5]; exact Nat.zero_add _
          have hex := hexp _ y1
          obtain ⟨f1, f2, f3, f4, f5, f6, f7, f8, f9, f10, f11, f12, f13, f14, a1, a2, a3, a4, a5, a6, a7, a8, a9, a10, a11, a12, a13, a14, a15⟩ := u'
          refine xw_rep (T := T2) (m := M n) hn (xh_MM y4 n hn) p24 (by omega) y2 y3 (fun t ht => ?_) y4 q4 q1.1.2.2.2.1 (fun hle u'' hu => ?_) (fun hle u'' hu => ?_)
          · rcases prt t ht with z | z
            · exact Or.inl (xs_tok hk32 z)
            · exact Or.inr ⟨z.1, by omega⟩
          · have k := K mm ar' ast' ae' au' al' u'' (by rw [hex]; show xr_R L lim (if _ then _ else _) mm ar' ast' ae' au' al' hc u''; rw [if_neg (by omega)]; exact hu)
            obtain ⟨f1, f2, f3, f4, f5, f6, f7, f8, f9, f10, f11, f12, f13, f14, a1, a2, a3, a4, a5, a6, a7, a8, a9, a10, a11, a12, a13, a14, a15⟩ := u''
            exact k
          · have k := K mm ar' ast' ae' au' al' u'' (by rw [hex]; show xr_R L lim (if _ then _ else _) mm ar' ast' ae' au' al' hc u''; rw [if_pos hle]; exact hu)
            obtain ⟨f1, f2, f3, f4, f5, f6, f7, f8, f9, f10, f11, f12, f13, f14, a1, a2, a3, a4, a5, a6, a7, a8, a9, a10, a11, a12, a13, a14, a15⟩ := u''
            exact k
end XW
