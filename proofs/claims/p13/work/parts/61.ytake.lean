section YK
variable {L : List Nat} {lim : Nat} {w : yr_W} {ar ast aln : Nat → Int32} {rn : Int32} {v : SY} {post : Int32 → SY → Prop}
theorem yk_177 {C : Nat → Nat} {p q : Nat} {F1 F2 F3 F4 F5 F6 F7 F8 F9 F10 F11 F12 : Int32} {A1 A2 A3 A4 A5 A6 A7 A8 A9 A10 A11 A12 A13 A14 A15 A16 A17 A18 A19 : Nat → Int32} (hq : p ≤ q) (hb : q < 2 ^ 31) (K1 : q - p ≤ 8 → ∃ n195 : Nat, wY_csName_195 post (nI p) (nI q) F1 F2 F3 F4 F5 F6 F7 F8 F9 F10 F11 F12 A1 A2 A3 A4 A5 A6 A7 A8 A9 A10 A11 A12 A13 A14 A15 A16 A17 A18 A19 n195 0) (K2 : 8 < q - p → post (-1) (F1, F2, 4, F4, F5, F6, F7, F8, F9, F10, F11, F12, A1, A2, A3, A4, A5, A6, A7, A8, A9, A10, A11, A12, A13, A14, A15, A16, A17, A18, A19)) : wY_csName_177 post (nI p) (nI q) F1 F2 F3 F4 F5 F6 F7 F8 F9 F10 F11 F12 A1 A2 A3 A4 A5 A6 A7 A8 A9 A10 A11 A12 A13 A14 A15 A16 A17 A18 A19 := by
  unfold wY_csName_177
  rw [pk_sub hq]
  by_cases h : q - p ≤ 8
  · exact br_t (nI_le (b := 8) h (by decide)) (K1 h)
  · exact br_f (nI_ge (a := 8) (by omega) (by omega)) (K2 (by omega))
theorem yk_raw {ns : List (List Nat)} {ps : List Nat} {C : Nat → Nat} {M : Nat → pm_Mn} {S : List pm_Sv} {d x : Nat} {c o : List Nat} (hL : xr_I L) (hn : pi_ns ns) (hC : ∀ a, a < 128 → C a < 8)
    {pc : Int32} {inp cat pend out nl nch si sl cd stk : Nat → Int32} (h1 : xr_L inp L) (h2 : xr_L out o) (h3 : ∀ j, j < 128 → cat j = nI (C j)) (h4 : yr_N nl nch ns) (h5 : ∀ i, i < 32 → yr_M w i (M i)) (h6 : yr_V si sl w S) (h7 : xr_S cd c) (hpc : pc = nI ps.length) (hps : xr_L pend ps) :
    ∀ (cs pre : List Nat) (n g : Nat), L = pre ++ cs → cs.length < n → g + cs.length ≤ 256 →
    (∀ t T' v', (∀ e, pm_raw e C ns cs = (some t, T')) → T'.1 = 0 → yr_R L lim ((T'.1, T'.2.1, ps, T'.2.2.2), C, M, S, d, c, o, x) w ar ast aln rn v' → post (nI t) v') →
    (∀ T' v', (∀ e, pm_raw e C ns cs = (none, T')) → T'.1 ≠ 0 → yr_R L lim (T', C, M, S, d, c, o, x) w ar ast aln rn v' → post (-1) v') →
    (∀ v', (∀ e, pm_raw e C ns cs = (none, (e, [], [], ns))) → yr_R L lim ((0, [], ps, ns), C, M, S, d, c, o, x) w ar ast aln rn v' → post (-1) v') →
    wY_raw_2 post (nI lim) (nI x) 0 rn (nI L.length) pc (nI o.length) (nI ns.length) (nI S.length) (nI d) (nI c.length) inp cat pend out nl nch w.1 w.2.1 w.2.2.1 w.2.2.2.1 w.2.2.2.2.1 w.2.2.2.2.2 si sl cd ar ast aln stk n (nI g) (nI pre.length) := by
  obtain ⟨hL1, hL2⟩ := hL
  intro cs
  induction cs with
  | nil =>
    intro pre n g hl hn' hg K1 K2 K3
    obtain ⟨n, rfl⟩ : ∃ m, n = m + 1 := ⟨n - 1, by omega⟩
    have k := K3 _ (fun _ => rfl) ⟨nI pre.length, pc, inp, cat, pend, out, nl, nch, si, sl, cd, stk, rfl, h1, ⟨(by show 0 < 100; decide), fun _ => ⟨⟨pre, hl, rfl⟩, hpc, hps⟩⟩, h2, h3, h4, h5, h6, h7⟩
    refine br_c (fun _ => k) (fun _ => br_t ?_ k)
    rw [hl, List.append_nil]
    exact nI_le (Nat.le_refl _) (by rw [hl, List.append_nil] at hL1; omega)
  | cons a cs ih =>
    intro pre n g hl hn' hg K1 K2 K3
    obtain ⟨n, rfl⟩ : ∃ m, n = m + 1 := ⟨n - 1, by omega⟩
    have hg' : g + (cs.length + 1) ≤ 256 := hg
    obtain ⟨l1, l2, l3⟩ := xt_lt hl
    have hlL : L.length = (pre ++ [a]).length + cs.length := by
      have := congrArg List.length l2
      rw [List.length_append] at this
      exact this
    have hcm : a < 128 := hL2 a (by rw [hl]; exact List.mem_append_right _ List.mem_cons_self)
    have ea : inp (nI pre.length).toNatClampNeg = nI a := by rw [nI_clamp (by omega)]; rw [hl] at h1; exact xt_at h1
    have ec : cat (nI a).toNatClampNeg = nI (C a) := by rw [nI_clamp (by omega)]; exact h3 a hcm
    have h8 := hC a hcm
    refine br_f (nI_ge (b := 256) (by omega) (by decide)) (br_f (nI_ge l1 (by omega)) ⟨vp_in_nI (by omega) (by decide), nm_r ea ⟨vp_in_nI hcm (by decide), nm_r ec (nm_r (nI_1 _) ?_)⟩⟩)
    have eraw : ∀ e, pm_raw e C ns (a :: cs) = (if C a = 0 then pm_cs C ns cs else if C a = 7 then pm_raw e C ns cs else (some (C a * 128 + a), (0, cs, [], ns))) := fun e => rfl
    by_cases hz : C a = 0
    · have ecs : ∀ e, pm_raw e C ns (a :: cs) = pm_cs C ns cs := fun e => by rw [eraw, if_pos hz]
      refine br_t (by rw [hz]; rfl) ?_
      rw [← l3]
      cases cs with
      | nil =>
        have e0 : L.length = (pre ++ [a]).length := by rw [hlL]; rfl
        refine br_f (by rw [e0]; exact nI_nlt (Nat.le_refl _) (by omega)) ?_
        exact K2 (3, [], [], ns) _ (fun e => by rw [ecs]; rfl) (by show 3 ≠ 0; decide) ⟨_, pc, inp, cat, pend, out, nl, nch, si, sl, cd, stk, rfl, h1, ⟨by decide, fun z => (nomatch z)⟩, h2, h3, h4, h5, h6, h7⟩
      | cons m r =>
        obtain ⟨m1, m2, m3⟩ := xt_lt l2
        have hm : m < 128 := hL2 m (by rw [l2]; exact List.mem_append_right _ List.mem_cons_self)
        have hr : ∀ y, y ∈ r → y < 128 := fun y hy => hL2 y (by rw [l2]; exact List.mem_append_right _ (List.mem_cons_of_mem _ hy))
        have hrl : r.length + 1 = (m :: r).length := rfl
        have em : inp (nI (pre ++ [a]).length).toNatClampNeg = nI m := by rw [nI_clamp (by omega)]; rw [l2] at h1; exact xt_at h1
        have ecm : cat (nI m).toNatClampNeg = nI (C m) := by rw [nI_clamp (by omega)]; exact h3 m hm
        have h8m := hC m hm
        obtain ⟨w1, w2, w3, w4⟩ := pi_word (C := C) hm hr
        obtain ⟨t, ht⟩ := xr_word (C := C) (m := m) (r := r)
        have hl2 : L = (pre ++ [a]) ++ (pm_word C m r ++ t) := by rw [← ht]; exact l2
        have hlen : (pre ++ [a]).length + (pm_word C m r).length ≤ 256 := by
          have := congrArg List.length hl2
          rw [List.length_append, List.length_append (as := pm_word C m r)] at this
          omega
        -- behind the scan of the name
        have fin : ∀ pre' : List Nat, L = pre' ++ pm_rest C m r → wY_csName_177 (fun r_11 u => match u with | (F1, F2, F3, F4, F5, F6, F7, F8, F9, F10, F11, F12, A1, A2, A3, A4, A5, A6, A7, A8, A9, A10, A11, A12, A13, A14, A15, A16, A17, A18, A19) => post r_11 (F1, F2, F3, F4, F5, F6, F7, F8, F9, F10, F11, F12, A1, A2, A3, A4, A5, A6, A7, A8, A9, A10, A11, A12, A13, A14, A15, A16, A17, A18, A19)) (nI (pre ++ [a]).length) (nI ((pre ++ [a]).length + (pm_word C m r).length)) (nI lim) (nI x) 0 rn (nI L.length) (nI pre'.length) pc (nI o.length) (nI ns.length) (nI S.length) (nI d) (nI c.length) inp cat pend out nl nch w.1 w.2.1 w.2.2.1 w.2.2.2.1 w.2.2.2.2.1 w.2.2.2.2.2 si sl cd ar ast aln stk := fun pre' hp => by
          refine yk_177 (C := C) (by omega) (by omega) (fun h8' => ⟨ns.length + 1, ?_⟩) (fun h8' => ?_)
          · rw [Nat.add_sub_cancel_left] at h8'
            have hlook : ∀ e, pm_raw e C ns (a :: m :: r) = pm_look ns (pm_word C m r) (pm_rest C m r) := fun e => by
              rw [ecs]
              show (if 8 < (pm_word C m r).length then _ else _) = _
              rw [if_neg (by omega)]
            refine yt_195 (w := pm_word C m r) hn h4 rfl h8' hlen w2 (xr_getW h1 hl2) (fun j hj hx => ?_) (fun hf hx => ?_) (fun hf hx nl' ch' hN => ?_) (ns.length + 1) 0 (by omega) (by omega) (fun j hj => absurd hj (Nat.not_lt_zero _))
            · refine K1 (1024 + j) (0, pm_rest C m r, [], ns) _ (fun e => ?_) rfl ⟨_, pc, inp, cat, pend, out, nl, nch, si, sl, cd, stk, rfl, h1, ⟨(by show 0 < 100; decide), fun _ => ⟨⟨pre', hp, rfl⟩, hpc, hps⟩⟩, h2, h3, h4, h5, h6, h7⟩
              rw [hlook]
              unfold pm_look
              rw [hx, if_pos hj]
            · refine K2 (5, pm_rest C m r, [], ns) _ (fun e => ?_) (by show 5 ≠ 0; decide) ⟨_, pc, inp, cat, pend, out, nl, nch, si, sl, cd, stk, rfl, h1, ⟨by decide, fun z => (nomatch z)⟩, h2, h3, h4, h5, h6, h7⟩
              rw [hlook]
              unfold pm_look
              rw [hx, if_neg (Nat.lt_irrefl _), if_pos hf]
            · refine K1 (1024 + ns.length) (0, pm_rest C m r, [], ns ++ [pm_word C m r]) _ (fun e => ?_) rfl ⟨_, pc, inp, cat, pend, out, nl', ch', si, sl, cd, stk, ?_, h1, ⟨(by show 0 < 100; decide), fun _ => ⟨⟨pre', hp, rfl⟩, hpc, hps⟩⟩, h2, h3, hN, h5, h6, h7⟩
              · rw [hlook]
                unfold pm_look
                rw [hx, if_neg (Nat.lt_irrefl _), if_neg (by omega)]
              · rw [List.length_append]
                rfl
          · rw [Nat.add_sub_cancel_left] at h8'
            refine K2 (4, pm_rest C m r, [], ns) _ (fun e => ?_) (by show 4 ≠ 0; decide) ⟨_, pc, inp, cat, pend, out, nl, nch, si, sl, cd, stk, rfl, h1, ⟨by decide, fun z => (nomatch z)⟩, h2, h3, h4, h5, h6, h7⟩
            rw [ecs]
            show (if 8 < (pm_word C m r).length then _ else _) = _
            rw [if_pos h8']
        refine br_t (nI_lt m1 (by omega)) (nm_r (nI_1 _) ⟨vp_in_nI (by omega) (by decide), ?_⟩)
        rw [em, ecm]
        refine ⟨vp_in_nI hm (by decide), ?_⟩
        by_cases h5' : C m = 5
        · have ew : (pm_word C m r).length = (r.takeWhile (fun c => C c == 5)).length + 1 := by unfold pm_word; rw [if_pos h5']; rfl
          have er : pm_rest C m r = (r.dropWhile (fun c => C c == 5)).dropWhile (fun c => C c == 4) := by unfold pm_rest; rw [if_pos h5']
          refine br_t (by rw [h5']; rfl) ⟨r.length + 1, ?_⟩
          rw [← m3]
          refine yt_56 hL1 hL2 h1 h3 hC r (pre ++ [a] ++ [m]) (r.length + 1) 0 m2 (by omega) (by omega) (fun pre' hp hp2 => ⟨(r.dropWhile (fun c => C c == 5)).length + 1, ?_⟩)
          have hdl : (r.dropWhile (fun c => C c == 5)).length ≤ r.length := (List.dropWhile_sublist _).length_le
          refine yt_120 hL1 hL2 h1 h3 hC _ pre' _ 0 hp (by omega) (by omega) (fun pre'' hp3 => ?_)
          have e9 : pre'.length = (pre ++ [a]).length + (pm_word C m r).length := by omega
          rw [e9]
          exact fin pre'' (by rw [er]; exact hp3)
        · have ew : (pm_word C m r).length = 1 := by unfold pm_word; rw [if_neg h5']; rfl
          have er : pm_rest C m r = r := by unfold pm_rest; rw [if_neg h5']
          have k := fin (pre ++ [a] ++ [m]) (by rw [er]; exact m2)
          rw [ew, m3] at k
          refine br_f (fun z => h5' ((nI_eq (b := 5) (by omega) (by decide)).mp z)) ⟨1, br_f (by decide) (br_t rfl ⟨1, br_f (by decide) (br_t rfl k)⟩)⟩
    · refine br_f (fun q => hz ((nI_eq (b := 0) (by omega) (by decide)).mp q)) ?_
      by_cases h7' : C a = 7
      · have e7 : ∀ e, pm_raw e C ns (a :: cs) = pm_raw e C ns cs := fun e => by rw [eraw, if_neg hz, if_pos h7']
        refine br_t (by rw [h7']; rfl) (nm_r (nI_1 _) ?_)
        rw [← l3]
        exact ih (pre ++ [a]) n (g + 1) l2 (by simpa using hn') (by omega) (fun t T' v' q => K1 t T' v' (fun e => by rw [e7]; exact q e)) (fun T' v' q => K2 T' v' (fun e => by rw [e7]; exact q e)) (fun v' q => K3 v' (fun e => by rw [e7]; exact q e))
      · refine br_f (fun q => h7' ((nI_eq (b := 7) (by omega) (by decide)).mp q)) ?_
        have e2 : nI (C a) * 128 + nI a = nI (C a * 128 + a) := by rw [← nI_add, ← pk_mul]; rfl
        rw [e2]
        exact K1 (C a * 128 + a) (0, cs, [], ns) _ (fun e => by rw [eraw, if_neg hz, if_neg h7']) rfl ⟨_, pc, inp, cat, pend, out, nl, nch, si, sl, cd, stk, rfl, h1, ⟨(by show 0 < 100; decide), fun _ => ⟨⟨pre ++ [a], l2, by rw [l3]⟩, hpc, hps⟩⟩, h2, h3, h4, h5, h6, h7⟩
theorem yk_16 {pl : Nat} {x1 : Int32} {F1 F2 F3 F4 F5 F6 F7 F8 F9 F10 F11 F12 : Int32} {A1 A2 A3 A4 A5 A6 A7 A8 A9 A10 A11 A12 A13 A14 A15 A16 A17 A18 A19 : Nat → Int32} (hp : pl ≤ 264) (K : ∀ pend' : Nat → Int32, (∀ j, j + 1 < pl → pend' j = A3 (j + 1)) → post x1 (F1, F2, F3, F4, F5, F6, nI (pl - 1), F8, F9, F10, F11, F12, A1, A2, pend', A4, A5, A6, A7, A8, A9, A10, A11, A12, A13, A14, A15, A16, A17, A18, A19)) : ∀ (n i : Nat) (pend' : Nat → Int32), pl < n + i → 1 ≤ i → i ≤ pl → (∀ j, j + 1 < i → pend' j = A3 (j + 1)) → (∀ j, i ≤ j + 1 → pend' j = A3 j) → wY_take_16 post x1 F1 F2 F3 F4 F5 F6 (nI pl) F8 F9 F10 F11 F12 n (nI i) A1 A2 pend' A4 A5 A6 A7 A8 A9 A10 A11 A12 A13 A14 A15 A16 A17 A18 A19 := by
  intro n
  induction n with
  | zero => intro i pend' h1 h2 h3; omega
  | succ n ih =>
    intro i pend' h1 h2 h3 h4 h5
    by_cases he : i = pl
    · subst he
      exact br_t (nI_le (Nat.le_refl _) (by omega)) (nm_r (pk_sub (b := 1) h2) (K pend' h4))
    · have e : nI i - 1 = nI (i - 1) := pk_sub (b := 1) h2
      refine br_f (nI_ge (by omega) (by omega)) ⟨vp_in_nI (by omega) (by decide), by rw [e]; exact vp_in_nI (by omega) (by decide), fun p2 q => nm_r (nI_1 _) ?_⟩
      rw [e, nI_clamp (by omega), nI_clamp (by omega), h5 i (by omega)] at q
      subst q
      refine ih (i + 1) _ (by omega) (by omega) (by omega) (fun j hj => ?_) (fun j hj => ?_)
      · by_cases ej : j = i - 1
        · rw [ej, pk_us, show i - 1 + 1 = i from by omega]
        · rw [pk_un ej]
          exact h4 j (by omega)
      · rw [pk_un (by omega)]
        exact h5 j (by omega)
theorem yk_wraw {T : pm_T} {Q : pm_Q} (hL : xr_I L) (hR : yr_R L lim (T, Q) w ar ast aln rn v) (hI : pi_I lim (T, Q)) (h0 : T.1 = 0)
    (K1 : ∀ t T' v', (∀ e, pm_raw e Q.1 T.2.2.2 T.2.1 = (some t, T')) → T'.1 = 0 → yr_R L lim ((T'.1, T'.2.1, T.2.2.1, T'.2.2.2), Q) w ar ast aln rn v' → post (nI t) v')
    (K2 : ∀ T' v', (∀ e, pm_raw e Q.1 T.2.2.2 T.2.1 = (none, T')) → T'.1 ≠ 0 → yr_R L lim (T', Q) w ar ast aln rn v' → post (-1) v')
    (K3 : ∀ v', (∀ e, pm_raw e Q.1 T.2.2.2 T.2.1 = (none, (e, [], [], T.2.2.2))) → yr_R L lim ((0, [], T.2.2.1, T.2.2.2), Q) w ar ast aln rn v' → post (-1) v') : wpY_raw post v := by
  obtain ⟨st, rest, ps, ns⟩ := T
  obtain ⟨C, M, S, d, c, o, x⟩ := Q
  obtain ⟨ip, pc, inp, cat, pend, out, nl, nch, si, sl, cd, stk, rfl, h1, hs, h2, h3, h4, h5, h6, h7⟩ := hR
  have h0' : st = 0 := h0
  subst h0'
  obtain ⟨⟨pre, hp, rfl⟩, hpc, hS⟩ := hs.2 rfl
  have hrl : rest.length ≤ 256 := hI.1.2.2.1
  have h := yk_raw (post := post) (w := w) (ar := ar) (ast := ast) (aln := aln) (rn := rn) (stk := stk) (lim := lim) (x := x) (d := d) hL hI.1.1 hI.2.1 h1 h2 h3 h4 h5 h6 h7 hpc hS rest pre (rest.length + 1) 0 hp (Nat.lt_succ_self _) (by omega) K1 K2 K3
  exact ⟨_, h⟩
theorem yk_take {T : pm_T} {Q : pm_Q} (hL : xr_I L) (hR : yr_R L lim (T, Q) w ar ast aln rn v) (hI : pi_I lim (T, Q)) (h0 : T.1 = 0)
    (K1 : ∀ t T' v', (∀ e, pm_take e Q.1 T = (some t, T')) → T'.1 = 0 → yr_R L lim (T', Q) w ar ast aln rn v' → post (nI t) v')
    (K2 : ∀ T' v', (∀ e, pm_take e Q.1 T = (none, T')) → T'.1 ≠ 0 → yr_R L lim (T', Q) w ar ast aln rn v' → post (-1) v')
    (K3 : ∀ T0 v', (∀ e, pm_take e Q.1 T = (none, (e, T0.2))) → T0.1 = 0 → yr_R L lim (T0, Q) w ar ast aln rn v' → post (-1) v') : wpY_take post v := by
  obtain ⟨st, rest, ps, ns⟩ := T
  have hps : ps.length ≤ 256 := hI.1.2.2.2.1
  have hR' := hR
  obtain ⟨C, M, S, d, c, o, x⟩ := Q
  obtain ⟨ip, pc, inp, cat, pend, out, nl, nch, si, sl, cd, stk, rfl, h1, hs, h2, h3, h4, h5, h6, h7⟩ := hR
  have h0' : st = 0 := h0
  subst h0'
  obtain ⟨hpre, rfl, hS⟩ := hs.2 rfl
  cases ps with
  | nil =>
    refine br_t (nI_le (a := 0) (b := 0) (by decide) (by decide)) ?_
    refine yk_wraw hL hR' hI h0 (fun t T' v' z z0 hv => ?_) (fun T' v' z z0 hv => ?_) (fun v' z hv => ?_)
    · have ep : T'.2.2.1 = [] := pi_raw_ps rest (z 0)
      have eT : ((T'.1, T'.2.1, [], T'.2.2.2) : pm_T) = T' := by rw [← ep]
      rw [eT] at hv
      have k := K1 t T' v' z z0 hv
      obtain ⟨F1, F2, F3, F4, F5, F6, F7, F8, F9, F10, F11, F12, A1, A2, A3, A4, A5, A6, A7, A8, A9, A10, A11, A12, A13, A14, A15, A16, A17, A18, A19⟩ := v'
      exact k
    · have k := K2 T' v' z z0 hv
      obtain ⟨F1, F2, F3, F4, F5, F6, F7, F8, F9, F10, F11, F12, A1, A2, A3, A4, A5, A6, A7, A8, A9, A10, A11, A12, A13, A14, A15, A16, A17, A18, A19⟩ := v'
      exact k
    · have k := K3 (0, [], [], ns) v' z rfl hv
      obtain ⟨F1, F2, F3, F4, F5, F6, F7, F8, F9, F10, F11, F12, A1, A2, A3, A4, A5, A6, A7, A8, A9, A10, A11, A12, A13, A14, A15, A16, A17, A18, A19⟩ := v'
      exact k
  | cons t ps =>
    have hl : ps.length + 1 ≤ 256 := hps
    have ht : pend 0 = nI t := hS 0 (Nat.succ_pos _)
    refine br_f (nI_nle (Nat.succ_pos _) (by show ps.length + 1 < 2 ^ 31; omega)) (nm_r ht ⟨ps.length + 2, ?_⟩)
    have h := yk_16 (post := post) (pl := ps.length + 1) (x1 := nI t) (A3 := pend) (F7 := 0) (by omega) (fun pend' hp => K1 t (0, rest, ps, ns) _ (fun e => rfl) rfl ⟨ip, _, inp, cat, pend', out, nl, nch, si, sl, cd, stk, rfl, h1, ⟨(by show 0 < 100; decide), fun _ => ⟨hpre, rfl, fun j hj => ?_⟩⟩, h2, h3, h4, h5, h6, h7⟩) (ps.length + 2) 1 pend (by omega) (by omega) (by omega) (fun j hj => absurd hj (by omega)) (fun j _ => rfl)
    · exact h
    · rw [hp j (by omega), hS (j + 1) (by show j + 1 < ps.length + 1; omega)]
      rfl
theorem yk_st {P : pm_P} {F1 F2 F3 F4 F5 F6 F7 F8 F9 F10 F11 F12 : Int32} {A1 A2 A3 A4 A5 A6 A7 A8 A9 A10 A11 A12 A13 A14 A15 A16 A17 A18 A19 : Nat → Int32} (h : yr_R L lim P w ar ast aln rn (F1, F2, F3, F4, F5, F6, F7, F8, F9, F10, F11, F12, A1, A2, A3, A4, A5, A6, A7, A8, A9, A10, A11, A12, A13, A14, A15, A16, A17, A18, A19)) : F3 = nI P.1.1 ∧ P.1.1 < 100 := by
  obtain ⟨⟨st, rest, ps, ns⟩, C, M, S, d, c, o, x⟩ := P
  obtain ⟨ip, pc, inp, cat, pend, out, nl, nch, si, sl, cd, stk, e, h1, hs, h2⟩ := h
  cases e
  exact ⟨rfl, hs.1⟩
theorem yk_err {k : Nat} {T : pm_T} {Q : pm_Q} {F1 F2 F3 F4 F5 F6 F7 F8 F9 F10 F11 F12 : Int32} {A1 A2 A3 A4 A5 A6 A7 A8 A9 A10 A11 A12 A13 A14 A15 A16 A17 A18 A19 : Nat → Int32} (hk : k ≠ 0) (h : yr_R L lim (T, Q) w ar ast aln rn (F1, F2, F3, F4, F5, F6, F7, F8, F9, F10, F11, F12, A1, A2, A3, A4, A5, A6, A7, A8, A9, A10, A11, A12, A13, A14, A15, A16, A17, A18, A19)) (hk1 : k < 100 := by decide) : yr_R L lim (pm_err k T, Q) w ar ast aln rn (F1, F2, nI k, F4, F5, F6, F7, F8, F9, F10, F11, F12, A1, A2, A3, A4, A5, A6, A7, A8, A9, A10, A11, A12, A13, A14, A15, A16, A17, A18, A19) := by
  obtain ⟨st, rest, ps, ns⟩ := T
  obtain ⟨C, M, S, d, c, o, x⟩ := Q
  obtain ⟨ip, pc, inp, cat, pend, out, nl, nch, si, sl, cd, stk, e, h1, hs, h2⟩ := h
  cases e
  exact ⟨_, _, _, _, _, _, _, _, _, _, _, _, rfl, h1, ⟨hk1, fun z => absurd z hk⟩, h2⟩
theorem yk_f0 {P : pm_P} {F1 F2 F3 F4 F5 F6 F7 F8 F9 F10 F11 F12 : Int32} {A1 A2 A3 A4 A5 A6 A7 A8 A9 A10 A11 A12 A13 A14 A15 A16 A17 A18 A19 : Nat → Int32} (h : yr_R L lim P w ar ast aln rn (F1, F2, F3, F4, F5, F6, F7, F8, F9, F10, F11, F12, A1, A2, A3, A4, A5, A6, A7, A8, A9, A10, A11, A12, A13, A14, A15, A16, A17, A18, A19)) (h0 : P.1.1 = 0) : F3 = 0 := (yk_st h).1.trans (congrArg nI h0)
theorem yk_f1 {P : pm_P} {F1 F2 F3 F4 F5 F6 F7 F8 F9 F10 F11 F12 : Int32} {A1 A2 A3 A4 A5 A6 A7 A8 A9 A10 A11 A12 A13 A14 A15 A16 A17 A18 A19 : Nat → Int32} (h : yr_R L lim P w ar ast aln rn (F1, F2, F3, F4, F5, F6, F7, F8, F9, F10, F11, F12, A1, A2, A3, A4, A5, A6, A7, A8, A9, A10, A11, A12, A13, A14, A15, A16, A17, A18, A19)) (h0 : P.1.1 ≠ 0) : ¬ F3 = 0 := fun z => h0 ((nI_eq (b := 0) (Nat.lt_trans (yk_st h).2 (by decide)) (by decide)).mp ((yk_st h).1.symm.trans z))
theorem yk_need {T : pm_T} {Q : pm_Q} (hL : xr_I L) (hR : yr_R L lim (T, Q) w ar ast aln rn v) (hI : pi_I lim (T, Q)) (h0 : T.1 = 0)
    (K1 : ∀ t T' v', pm_take 3 Q.1 T = (some t, T') → yr_R L lim (T', Q) w ar ast aln rn v' → post (nI t) v')
    (K2 : ∀ T' v', pm_take 3 Q.1 T = (none, T') → T'.1 ≠ 0 → yr_R L lim (T', Q) w ar ast aln rn v' → post (-1) v') : wpY_need post v := by
  have hC : ∀ a, a < 128 → Q.1 a < 8 := by obtain ⟨C, M, S, d, c, o, x⟩ := Q; exact hI.2.1
  obtain ⟨F1, F2, F3, F4, F5, F6, F7, F8, F9, F10, F11, F12, A1, A2, A3, A4, A5, A6, A7, A8, A9, A10, A11, A12, A13, A14, A15, A16, A17, A18, A19⟩ := v
  unfold wpY_need
  refine yk_take hL hR hI h0 (fun t T' v' z z0 hv => ?_) (fun T' v' z z0 hv => ?_) (fun T0 v' z z0 hv => ?_)
  · obtain ⟨p1, p2, p3, p4⟩ := pi_tk hI.1 hC h0 (z 3)
    have hb := xs_tok p1.1.1.2.1 p3
    have k := K1 t T' v' (z 3) hv
    obtain ⟨F1, F2, F3, F4, F5, F6, F7, F8, F9, F10, F11, F12, A1, A2, A3, A4, A5, A6, A7, A8, A9, A10, A11, A12, A13, A14, A15, A16, A17, A18, A19⟩ := v'
    exact br_t (yk_f0 hv z0) (br_t (nI_pos' (by omega)) k)
  · have k := K2 T' v' (z 3) z0 hv
    obtain ⟨F1, F2, F3, F4, F5, F6, F7, F8, F9, F10, F11, F12, A1, A2, A3, A4, A5, A6, A7, A8, A9, A10, A11, A12, A13, A14, A15, A16, A17, A18, A19⟩ := v'
    exact br_f (yk_f1 hv z0) k
  · obtain ⟨F1, F2, F3, F4, F5, F6, F7, F8, F9, F10, F11, F12, A1, A2, A3, A4, A5, A6, A7, A8, A9, A10, A11, A12, A13, A14, A15, A16, A17, A18, A19⟩ := v'
    refine br_t (yk_f0 hv z0) (br_f (by decide) ?_)
    exact K2 (3, T0.2) _ (z 3) (by show 3 ≠ 0; decide) (yk_err (k := 3) (by decide) hv)
end YK
